theorem dX12_mean_42 : decode cX12_mean 42 = .ok (.goto (-25), 3) := by decide +kernel
theorem dX12_mean_45 : decode cX12_mean 45 = .ok (.aload_n 0, 1) := by decide +kernel
theorem dX12_mean_46 : decode cX12_mean 46 = .ok (.getfield 17, 3) := by decide +kernel
theorem dX12_mean_49 : decode cX12_mean 49 = .ok (.iload_n 1, 1) := by decide +kernel
theorem dX12_mean_50 : decode cX12_mean 50 = .ok (.iaload, 1) := by decide +kernel
theorem dX12_mean_51 : decode cX12_mean 51 = .ok (.ifCond .ne 11, 3) := by decide +kernel
theorem dX12_mean_54 : decode cX12_mean 54 = .ok (.aload_n 0, 1) := by decide +kernel
theorem dX12_mean_55 : decode cX12_mean 55 = .ok (.iconst 4, 1) := by decide +kernel
theorem dX12_mean_56 : decode cX12_mean 56 = .ok (.invokevirtual 96, 3) := by decide +kernel
theorem dX12_mean_59 : decode cX12_mean 59 = .ok (.goto 18, 3) := by decide +kernel
theorem dX12_mean_62 : decode cX12_mean 62 = .ok (.aload_n 0, 1) := by decide +kernel
theorem dX12_mean_63 : decode cX12_mean 63 = .ok (.lload_n 3, 1) := by decide +kernel
theorem dX12_mean_64 : decode cX12_mean 64 = .ok (.aload_n 0, 1) := by decide +kernel
theorem dX12_mean_65 : decode cX12_mean 65 = .ok (.getfield 17, 3) := by decide +kernel
theorem dX12_mean_68 : decode cX12_mean 68 = .ok (.iload_n 1, 1) := by decide +kernel
theorem dX12_mean_69 : decode cX12_mean 69 = .ok (.iaload, 1) := by decide +kernel
theorem dX12_mean_70 : decode cX12_mean 70 = .ok (.i2l, 1) := by decide +kernel
theorem dX12_mean_71 : decode cX12_mean 71 = .ok (.ldiv, 1) := by decide +kernel
theorem dX12_mean_72 : decode cX12_mean 72 = .ok (.l2i, 1) := by decide +kernel
theorem dX12_mean_73 : decode cX12_mean 73 = .ok (.iconst 1, 1) := by decide +kernel
theorem dX12_mean_74 : decode cX12_mean 74 = .ok (.invokevirtual 114, 3) := by decide +kernel
theorem dX12_mean_77 : decode cX12_mean 77 = .ok (.ireturn, 1) := by decide +kernel
theorem dX12_text_0 : decode cX12_text 0 = .ok (.iload_n 1, 1) := by decide +kernel
theorem dX12_text_1 : decode cX12_text 1 = .ok (.invokestatic 100, 3) := by decide +kernel
theorem dX12_text_4 : decode cX12_text 4 = .ok (.ifCond .eq 9, 3) := by decide +kernel
theorem dX12_text_7 : decode cX12_text 7 = .ok (.iload_n 2, 1) := by decide +kernel
theorem dX12_text_8 : decode cX12_text 8 = .ok (.bipush 100, 2) := by decide +kernel
theorem dX12_text_10 : decode cX12_text 10 = .ok (.if_icmp .le 5, 3) := by decide +kernel
theorem dX12_text_13 : decode cX12_text 13 = .ok (.iconst (-1), 1) := by decide +kernel
theorem dX12_text_14 : decode cX12_text 14 = .ok (.ireturn, 1) := by decide +kernel
theorem dX12_text_15 : decode cX12_text 15 = .ok (.iload_n 2, 1) := by decide +kernel
theorem dX12_text_16 : decode cX12_text 16 = .ok (.ifCond .ge 9, 3) := by decide +kernel
theorem dX12_text_19 : decode cX12_text 19 = .ok (.aload_n 0, 1) := by decide +kernel
theorem dX12_text_20 : decode cX12_text 20 = .ok (.iconst 5, 1) := by decide +kernel
theorem dX12_text_21 : decode cX12_text 21 = .ok (.invokevirtual 96, 3) := by decide +kernel
theorem dX12_text_24 : decode cX12_text 24 = .ok (.ireturn, 1) := by decide +kernel
theorem dX12_text_25 : decode cX12_text 25 = .ok (.aload_n 0, 1) := by decide +kernel
theorem dX12_text_26 : decode cX12_text 26 = .ok (.getfield 26, 3) := by decide +kernel
theorem dX12_text_29 : decode cX12_text 29 = .ok (.iload_n 1, 1) := by decide +kernel
theorem dX12_text_30 : decode cX12_text 30 = .ok (.iload_n 2, 1) := by decide +kernel
theorem dX12_text_31 : decode cX12_text 31 = .ok (.iastore, 1) := by decide +kernel
theorem dX12_text_32 : decode cX12_text 32 = .ok (.iconst 0, 1) := by decide +kernel
theorem dX12_text_33 : decode cX12_text 33 = .ok (.istore_n 3, 1) := by decide +kernel
theorem dX12_text_34 : decode cX12_text 34 = .ok (.iload_n 3, 1) := by decide +kernel
theorem dX12_text_35 : decode cX12_text 35 = .ok (.bipush 100, 2) := by decide +kernel
theorem dX12_text_37 : decode cX12_text 37 = .ok (.if_icmp .ge 22, 3) := by decide +kernel
theorem dX12_text_40 : decode cX12_text 40 = .ok (.aload_n 0, 1) := by decide +kernel
theorem dX12_text_41 : decode cX12_text 41 = .ok (.getfield 29, 3) := by decide +kernel
theorem dX12_text_44 : decode cX12_text 44 = .ok (.bipush 100, 2) := by decide +kernel
theorem dX12_text_46 : decode cX12_text 46 = .ok (.iload_n 1, 1) := by decide +kernel
theorem dX12_text_47 : decode cX12_text 47 = .ok (.imul, 1) := by decide +kernel
theorem dX12_text_48 : decode cX12_text 48 = .ok (.iload_n 3, 1) := by decide +kernel
theorem dX12_text_49 : decode cX12_text 49 = .ok (.iadd, 1) := by decide +kernel
theorem dX12_text_50 : decode cX12_text 50 = .ok (.bipush 32, 2) := by decide +kernel
theorem dX12_text_52 : decode cX12_text 52 = .ok (.iastore, 1) := by decide +kernel
theorem dX12_text_53 : decode cX12_text 53 = .ok (.iinc 3 1, 3) := by decide +kernel
theorem dX12_text_56 : decode cX12_text 56 = .ok (.goto (-22), 3) := by decide +kernel
theorem dX12_text_59 : decode cX12_text 59 = .ok (.iload_n 2, 1) := by decide +kernel
theorem dX12_text_60 : decode cX12_text 60 = .ok (.ireturn, 1) := by decide +kernel
theorem dX12_put_0 : decode cX12_put 0 = .ok (.aload_n 0, 1) := by decide +kernel
theorem dX12_put_1 : decode cX12_put 1 = .ok (.iload_n 1, 1) := by decide +kernel
theorem dX12_put_2 : decode cX12_put 2 = .ok (.invokevirtual 120, 3) := by decide +kernel
theorem dX12_put_5 : decode cX12_put 5 = .ok (.istore 4, 2) := by decide +kernel
theorem dX12_put_7 : decode cX12_put 7 = .ok (.iload 4, 2) := by decide +kernel
theorem dX12_put_9 : decode cX12_put 9 = .ok (.ifCond .ge 6, 3) := by decide +kernel
theorem dX12_put_12 : decode cX12_put 12 = .ok (.iload 4, 2) := by decide +kernel
theorem dX12_put_14 : decode cX12_put 14 = .ok (.ireturn, 1) := by decide +kernel
theorem dX12_put_15 : decode cX12_put 15 = .ok (.iload_n 2, 1) := by decide +kernel
theorem dX12_put_16 : decode cX12_put 16 = .ok (.iconst 0, 1) := by decide +kernel
theorem dX12_put_17 : decode cX12_put 17 = .ok (.aload_n 0, 1) := by decide +kernel
theorem dX12_put_18 : decode cX12_put 18 = .ok (.getfield 26, 3) := by decide +kernel
theorem dX12_put_21 : decode cX12_put 21 = .ok (.iload_n 1, 1) := by decide +kernel
theorem dX12_put_22 : decode cX12_put 22 = .ok (.iaload, 1) := by decide +kernel
theorem dX12_put_23 : decode cX12_put 23 = .ok (.iconst 1, 1) := by decide +kernel
theorem dX12_put_24 : decode cX12_put 24 = .ok (.isub, 1) := by decide +kernel
theorem dX12_put_25 : decode cX12_put 25 = .ok (.invokestatic 88, 3) := by decide +kernel
theorem dX12_put_28 : decode cX12_put 28 = .ok (.ifCond .ne 9, 3) := by decide +kernel
theorem dX12_put_31 : decode cX12_put 31 = .ok (.aload_n 0, 1) := by decide +kernel
theorem dX12_put_32 : decode cX12_put 32 = .ok (.iconst 2, 1) := by decide +kernel
theorem dX12_put_33 : decode cX12_put 33 = .ok (.invokevirtual 96, 3) := by decide +kernel
theorem dX12_put_36 : decode cX12_put 36 = .ok (.ireturn, 1) := by decide +kernel
theorem dX12_put_37 : decode cX12_put 37 = .ok (.aload_n 0, 1) := by decide +kernel
theorem dX12_put_38 : decode cX12_put 38 = .ok (.getfield 29, 3) := by decide +kernel
theorem dX12_put_41 : decode cX12_put 41 = .ok (.bipush 100, 2) := by decide +kernel
theorem dX12_put_43 : decode cX12_put 43 = .ok (.iload_n 1, 1) := by decide +kernel
theorem dX12_put_44 : decode cX12_put 44 = .ok (.imul, 1) := by decide +kernel
theorem dX12_put_45 : decode cX12_put 45 = .ok (.iload_n 2, 1) := by decide +kernel
theorem dX12_put_46 : decode cX12_put 46 = .ok (.iadd, 1) := by decide +kernel
theorem dX12_put_47 : decode cX12_put 47 = .ok (.iaload, 1) := by decide +kernel
theorem dX12_put_48 : decode cX12_put 48 = .ok (.istore 5, 2) := by decide +kernel
theorem dX12_put_50 : decode cX12_put 50 = .ok (.aload_n 0, 1) := by decide +kernel
theorem dX12_put_51 : decode cX12_put 51 = .ok (.getfield 29, 3) := by decide +kernel
theorem dX12_put_54 : decode cX12_put 54 = .ok (.bipush 100, 2) := by decide +kernel
theorem dX12_put_56 : decode cX12_put 56 = .ok (.iload_n 1, 1) := by decide +kernel
theorem dX12_put_57 : decode cX12_put 57 = .ok (.imul, 1) := by decide +kernel
theorem dX12_put_58 : decode cX12_put 58 = .ok (.iload_n 2, 1) := by decide +kernel
theorem dX12_put_59 : decode cX12_put 59 = .ok (.iadd, 1) := by decide +kernel
theorem dX12_put_60 : decode cX12_put 60 = .ok (.iload_n 3, 1) := by decide +kernel
theorem dX12_put_61 : decode cX12_put 61 = .ok (.i2b, 1) := by decide +kernel
theorem dX12_put_62 : decode cX12_put 62 = .ok (.iastore, 1) := by decide +kernel
theorem dX12_put_63 : decode cX12_put 63 = .ok (.iload 5, 2) := by decide +kernel
theorem dX12_put_65 : decode cX12_put 65 = .ok (.sipush 1000, 3) := by decide +kernel
theorem dX12_put_68 : decode cX12_put 68 = .ok (.iadd, 1) := by decide +kernel
theorem dX12_put_69 : decode cX12_put 69 = .ok (.ireturn, 1) := by decide +kernel
theorem dX12_of_0 : decode cX12_of 0 = .ok (.aload_n 0, 1) := by decide +kernel
theorem dX12_of_1 : decode cX12_of 1 = .ok (.getfield 32, 3) := by decide +kernel
theorem dX12_of_4 : decode cX12_of 4 = .ok (.bipush 6, 2) := by decide +kernel
theorem dX12_of_6 : decode cX12_of 6 = .ok (.iload_n 1, 1) := by decide +kernel
theorem dX12_of_7 : decode cX12_of 7 = .ok (.imul, 1) := by decide +kernel
theorem dX12_of_8 : decode cX12_of 8 = .ok (.iload_n 2, 1) := by decide +kernel
theorem dX12_of_9 : decode cX12_of 9 = .ok (.iadd, 1) := by decide +kernel
theorem dX12_of_10 : decode cX12_of 10 = .ok (.iaload, 1) := by decide +kernel
theorem dX12_of_11 : decode cX12_of 11 = .ok (.ireturn, 1) := by decide +kernel
theorem dX12_here_0 : decode cX12_here 0 = .ok (.aload_n 0, 1) := by decide +kernel
theorem dX12_here_1 : decode cX12_here 1 = .ok (.getfield 123, 3) := by decide +kernel
theorem dX12_here_4 : decode cX12_here 4 = .ok (.aload_n 0, 1) := by decide +kernel
theorem dX12_here_5 : decode cX12_here 5 = .ok (.getfield 26, 3) := by decide +kernel
theorem dX12_here_8 : decode cX12_here 8 = .ok (.iload_n 1, 1) := by decide +kernel
theorem dX12_here_9 : decode cX12_here 9 = .ok (.iaload, 1) := by decide +kernel
theorem dX12_here_10 : decode cX12_here 10 = .ok (.if_icmp .ge 20, 3) := by decide +kernel
theorem dX12_here_13 : decode cX12_here 13 = .ok (.aload_n 0, 1) := by decide +kernel
theorem dX12_here_14 : decode cX12_here 14 = .ok (.getfield 29, 3) := by decide +kernel
theorem dX12_here_17 : decode cX12_here 17 = .ok (.bipush 100, 2) := by decide +kernel
theorem dX12_here_19 : decode cX12_here 19 = .ok (.iload_n 1, 1) := by decide +kernel
theorem dX12_here_20 : decode cX12_here 20 = .ok (.imul, 1) := by decide +kernel
theorem dX12_here_21 : decode cX12_here 21 = .ok (.aload_n 0, 1) := by decide +kernel
theorem dX12_here_22 : decode cX12_here 22 = .ok (.getfield 123, 3) := by decide +kernel
theorem dX12_here_25 : decode cX12_here 25 = .ok (.iadd, 1) := by decide +kernel
theorem dX12_here_26 : decode cX12_here 26 = .ok (.iaload, 1) := by decide +kernel
theorem dX12_here_27 : decode cX12_here 27 = .ok (.goto 5, 3) := by decide +kernel
theorem dX12_here_30 : decode cX12_here 30 = .ok (.bipush (-9), 2) := by decide +kernel
theorem dX12_here_32 : decode cX12_here 32 = .ok (.ireturn, 1) := by decide +kernel
theorem dX12_kindOf_0 : decode cX12_kindOf 0 = .ok (.iload_n 0, 1) := by decide +kernel
theorem dX12_kindOf_1 : decode cX12_kindOf 1 = .ok (.bipush 104, 2) := by decide +kernel
theorem dX12_kindOf_3 : decode cX12_kindOf 3 = .ok (.if_icmp .ne 7, 3) := by decide +kernel
theorem dX12_kindOf_6 : decode cX12_kindOf 6 = .ok (.iconst 0, 1) := by decide +kernel
theorem dX12_kindOf_7 : decode cX12_kindOf 7 = .ok (.goto 55, 3) := by decide +kernel
theorem dX12_kindOf_10 : decode cX12_kindOf 10 = .ok (.iload_n 0, 1) := by decide +kernel
theorem dX12_kindOf_11 : decode cX12_kindOf 11 = .ok (.bipush 113, 2) := by decide +kernel
theorem dX12_kindOf_13 : decode cX12_kindOf 13 = .ok (.if_icmp .ne 7, 3) := by decide +kernel
theorem dX12_kindOf_16 : decode cX12_kindOf 16 = .ok (.iconst 1, 1) := by decide +kernel
theorem dX12_kindOf_17 : decode cX12_kindOf 17 = .ok (.goto 45, 3) := by decide +kernel
theorem dX12_kindOf_20 : decode cX12_kindOf 20 = .ok (.iload_n 0, 1) := by decide +kernel
theorem dX12_kindOf_21 : decode cX12_kindOf 21 = .ok (.bipush 112, 2) := by decide +kernel
theorem dX12_kindOf_23 : decode cX12_kindOf 23 = .ok (.if_icmp .ne 7, 3) := by decide +kernel
theorem dX12_kindOf_26 : decode cX12_kindOf 26 = .ok (.iconst 2, 1) := by decide +kernel
theorem dX12_kindOf_27 : decode cX12_kindOf 27 = .ok (.goto 35, 3) := by decide +kernel
theorem dX12_kindOf_30 : decode cX12_kindOf 30 = .ok (.iload_n 0, 1) := by decide +kernel
theorem dX12_kindOf_31 : decode cX12_kindOf 31 = .ok (.bipush 97, 2) := by decide +kernel
theorem dX12_kindOf_33 : decode cX12_kindOf 33 = .ok (.if_icmp .ne 7, 3) := by decide +kernel
theorem dX12_kindOf_36 : decode cX12_kindOf 36 = .ok (.iconst 3, 1) := by decide +kernel
theorem dX12_kindOf_37 : decode cX12_kindOf 37 = .ok (.goto 25, 3) := by decide +kernel
theorem dX12_kindOf_40 : decode cX12_kindOf 40 = .ok (.iload_n 0, 1) := by decide +kernel
theorem dX12_kindOf_41 : decode cX12_kindOf 41 = .ok (.bipush 99, 2) := by decide +kernel
theorem dX12_kindOf_43 : decode cX12_kindOf 43 = .ok (.if_icmp .ne 7, 3) := by decide +kernel
theorem dX12_kindOf_46 : decode cX12_kindOf 46 = .ok (.iconst 4, 1) := by decide +kernel
theorem dX12_kindOf_47 : decode cX12_kindOf 47 = .ok (.goto 15, 3) := by decide +kernel
theorem dX12_kindOf_50 : decode cX12_kindOf 50 = .ok (.iload_n 0, 1) := by decide +kernel
theorem dX12_kindOf_51 : decode cX12_kindOf 51 = .ok (.bipush 101, 2) := by decide +kernel
theorem dX12_kindOf_53 : decode cX12_kindOf 53 = .ok (.if_icmp .ne 7, 3) := by decide +kernel
theorem dX12_kindOf_56 : decode cX12_kindOf 56 = .ok (.iconst 5, 1) := by decide +kernel
theorem dX12_kindOf_57 : decode cX12_kindOf 57 = .ok (.goto 5, 3) := by decide +kernel
theorem dX12_kindOf_60 : decode cX12_kindOf 60 = .ok (.bipush (-9), 2) := by decide +kernel
theorem dX12_kindOf_62 : decode cX12_kindOf 62 = .ok (.ireturn, 1) := by decide +kernel
theorem dX12_readsDesk_0 : decode cX12_readsDesk 0 = .ok (.aload_n 0, 1) := by decide +kernel
theorem dX12_readsDesk_1 : decode cX12_readsDesk 1 = .ok (.iload_n 1, 1) := by decide +kernel
theorem dX12_readsDesk_2 : decode cX12_readsDesk 2 = .ok (.invokevirtual 126, 3) := by decide +kernel
theorem dX12_readsDesk_5 : decode cX12_readsDesk 5 = .ok (.invokestatic 129, 3) := by decide +kernel
theorem dX12_readsDesk_8 : decode cX12_readsDesk 8 = .ok (.istore_n 2, 1) := by decide +kernel
theorem dX12_readsDesk_9 : decode cX12_readsDesk 9 = .ok (.iload_n 2, 1) := by decide +kernel
theorem dX12_readsDesk_10 : decode cX12_readsDesk 10 = .ok (.bipush (-9), 2) := by decide +kernel
theorem dX12_readsDesk_12 : decode cX12_readsDesk 12 = .ok (.if_icmp .eq 12, 3) := by decide +kernel
theorem dX12_readsDesk_15 : decode cX12_readsDesk 15 = .ok (.aload_n 0, 1) := by decide +kernel
theorem dX12_readsDesk_16 : decode cX12_readsDesk 16 = .ok (.getfield 132, 3) := by decide +kernel
theorem dX12_readsDesk_19 : decode cX12_readsDesk 19 = .ok (.bipush 9, 2) := by decide +kernel
theorem dX12_readsDesk_21 : decode cX12_readsDesk 21 = .ok (.if_icmp .ne 5, 3) := by decide +kernel
theorem dX12_readsDesk_24 : decode cX12_readsDesk 24 = .ok (.iconst 0, 1) := by decide +kernel
theorem dX12_readsDesk_25 : decode cX12_readsDesk 25 = .ok (.ireturn, 1) := by decide +kernel
theorem dX12_readsDesk_26 : decode cX12_readsDesk 26 = .ok (.aload_n 0, 1) := by decide +kernel
theorem dX12_readsDesk_27 : decode cX12_readsDesk 27 = .ok (.dup, 1) := by decide +kernel
theorem dX12_readsDesk_28 : decode cX12_readsDesk 28 = .ok (.getfield 123, 3) := by decide +kernel
theorem dX12_readsDesk_31 : decode cX12_readsDesk 31 = .ok (.iconst 1, 1) := by decide +kernel
theorem dX12_readsDesk_32 : decode cX12_readsDesk 32 = .ok (.iadd, 1) := by decide +kernel
theorem dX12_readsDesk_33 : decode cX12_readsDesk 33 = .ok (.putfield 123, 3) := by decide +kernel
theorem dX12_readsDesk_36 : decode cX12_readsDesk 36 = .ok (.bipush 54, 2) := by decide +kernel
theorem dX12_readsDesk_38 : decode cX12_readsDesk 38 = .ok (.bipush 6, 2) := by decide +kernel
theorem dX12_readsDesk_40 : decode cX12_readsDesk 40 = .ok (.aload_n 0, 1) := by decide +kernel
theorem dX12_readsDesk_41 : decode cX12_readsDesk 41 = .ok (.getfield 132, 3) := by decide +kernel
theorem dX12_readsDesk_44 : decode cX12_readsDesk 44 = .ok (.imul, 1) := by decide +kernel
theorem dX12_readsDesk_45 : decode cX12_readsDesk 45 = .ok (.iadd, 1) := by decide +kernel
theorem dX12_readsDesk_46 : decode cX12_readsDesk 46 = .ok (.istore_n 3, 1) := by decide +kernel
theorem dX12_readsDesk_47 : decode cX12_readsDesk 47 = .ok (.aload_n 0, 1) := by decide +kernel
theorem dX12_readsDesk_48 : decode cX12_readsDesk 48 = .ok (.getfield 32, 3) := by decide +kernel
theorem dX12_readsDesk_51 : decode cX12_readsDesk 51 = .ok (.iload_n 3, 1) := by decide +kernel
theorem dX12_readsDesk_52 : decode cX12_readsDesk 52 = .ok (.iload_n 2, 1) := by decide +kernel
theorem dX12_readsDesk_53 : decode cX12_readsDesk 53 = .ok (.iastore, 1) := by decide +kernel
theorem dX12_readsDesk_54 : decode cX12_readsDesk 54 = .ok (.aload_n 0, 1) := by decide +kernel
theorem dX12_readsDesk_55 : decode cX12_readsDesk 55 = .ok (.getfield 32, 3) := by decide +kernel
theorem dX12_readsDesk_58 : decode cX12_readsDesk 58 = .ok (.iload_n 3, 1) := by decide +kernel
theorem dX12_readsDesk_59 : decode cX12_readsDesk 59 = .ok (.iconst 4, 1) := by decide +kernel
theorem dX12_readsDesk_60 : decode cX12_readsDesk 60 = .ok (.iadd, 1) := by decide +kernel
theorem dX12_readsDesk_61 : decode cX12_readsDesk 61 = .ok (.bipush (-9), 2) := by decide +kernel
theorem dX12_readsDesk_63 : decode cX12_readsDesk 63 = .ok (.iastore, 1) := by decide +kernel
theorem dX12_readsDesk_64 : decode cX12_readsDesk 64 = .ok (.aload_n 0, 1) := by decide +kernel
theorem dX12_readsDesk_65 : decode cX12_readsDesk 65 = .ok (.getfield 32, 3) := by decide +kernel
theorem dX12_readsDesk_68 : decode cX12_readsDesk 68 = .ok (.iload_n 3, 1) := by decide +kernel
theorem dX12_readsDesk_69 : decode cX12_readsDesk 69 = .ok (.iconst 5, 1) := by decide +kernel
theorem dX12_readsDesk_70 : decode cX12_readsDesk 70 = .ok (.iadd, 1) := by decide +kernel
theorem dX12_readsDesk_71 : decode cX12_readsDesk 71 = .ok (.bipush (-9), 2) := by decide +kernel
theorem dX12_readsDesk_73 : decode cX12_readsDesk 73 = .ok (.iastore, 1) := by decide +kernel
theorem dX12_readsDesk_74 : decode cX12_readsDesk 74 = .ok (.iload_n 2, 1) := by decide +kernel
theorem dX12_readsDesk_75 : decode cX12_readsDesk 75 = .ok (.iconst 2, 1) := by decide +kernel
theorem dX12_readsDesk_76 : decode cX12_readsDesk 76 = .ok (.if_icmp .ne 7, 3) := by decide +kernel
theorem dX12_readsDesk_79 : decode cX12_readsDesk 79 = .ok (.iconst 4, 1) := by decide +kernel
theorem dX12_readsDesk_80 : decode cX12_readsDesk 80 = .ok (.goto 13, 3) := by decide +kernel
theorem dX12_readsDesk_83 : decode cX12_readsDesk 83 = .ok (.iload_n 2, 1) := by decide +kernel
theorem dX12_readsDesk_84 : decode cX12_readsDesk 84 = .ok (.iconst 3, 1) := by decide +kernel
theorem dX12_readsDesk_85 : decode cX12_readsDesk 85 = .ok (.if_icmp .ne 7, 3) := by decide +kernel
theorem dX12_readsDesk_88 : decode cX12_readsDesk 88 = .ok (.iconst 5, 1) := by decide +kernel
theorem dX12_readsDesk_89 : decode cX12_readsDesk 89 = .ok (.goto 4, 3) := by decide +kernel
theorem dX12_readsDesk_92 : decode cX12_readsDesk 92 = .ok (.iconst 3, 1) := by decide +kernel
theorem dX12_readsDesk_93 : decode cX12_readsDesk 93 = .ok (.istore 4, 2) := by decide +kernel
theorem dX12_readsDesk_95 : decode cX12_readsDesk 95 = .ok (.iconst 1, 1) := by decide +kernel
theorem dX12_readsDesk_96 : decode cX12_readsDesk 96 = .ok (.istore 5, 2) := by decide +kernel
theorem dX12_readsDesk_98 : decode cX12_readsDesk 98 = .ok (.iload 5, 2) := by decide +kernel
theorem dX12_readsDesk_100 : decode cX12_readsDesk 100 = .ok (.iload 4, 2) := by decide +kernel
theorem dX12_readsDesk_102 : decode cX12_readsDesk 102 = .ok (.if_icmp .gt 91, 3) := by decide +kernel
theorem dX12_readsDesk_105 : decode cX12_readsDesk 105 = .ok (.iload 5, 2) := by decide +kernel
theorem dX12_readsDesk_107 : decode cX12_readsDesk 107 = .ok (.iconst 4, 1) := by decide +kernel
theorem dX12_readsDesk_108 : decode cX12_readsDesk 108 = .ok (.if_icmp .ne 12, 3) := by decide +kernel
theorem dX12_readsDesk_111 : decode cX12_readsDesk 111 = .ok (.iload_n 2, 1) := by decide +kernel
theorem dX12_readsDesk_112 : decode cX12_readsDesk 112 = .ok (.iconst 2, 1) := by decide +kernel
theorem dX12_readsDesk_113 : decode cX12_readsDesk 113 = .ok (.if_icmp .ne 7, 3) := by decide +kernel
theorem dX12_readsDesk_116 : decode cX12_readsDesk 116 = .ok (.iconst 1, 1) := by decide +kernel
theorem dX12_readsDesk_117 : decode cX12_readsDesk 117 = .ok (.goto 21, 3) := by decide +kernel
theorem dX12_readsDesk_120 : decode cX12_readsDesk 120 = .ok (.iload 5, 2) := by decide +kernel
theorem dX12_readsDesk_122 : decode cX12_readsDesk 122 = .ok (.iconst 5, 1) := by decide +kernel
theorem dX12_readsDesk_123 : decode cX12_readsDesk 123 = .ok (.if_icmp .ne 14, 3) := by decide +kernel
theorem dX12_readsDesk_126 : decode cX12_readsDesk 126 = .ok (.aload_n 0, 1) := by decide +kernel
theorem dX12_readsDesk_127 : decode cX12_readsDesk 127 = .ok (.getfield 32, 3) := by decide +kernel
theorem dX12_readsDesk_130 : decode cX12_readsDesk 130 = .ok (.iload_n 3, 1) := by decide +kernel
theorem dX12_readsDesk_131 : decode cX12_readsDesk 131 = .ok (.iconst 4, 1) := by decide +kernel
theorem dX12_readsDesk_132 : decode cX12_readsDesk 132 = .ok (.iadd, 1) := by decide +kernel
theorem dX12_readsDesk_133 : decode cX12_readsDesk 133 = .ok (.iaload, 1) := by decide +kernel
theorem dX12_readsDesk_134 : decode cX12_readsDesk 134 = .ok (.goto 4, 3) := by decide +kernel
theorem dX12_readsDesk_137 : decode cX12_readsDesk 137 = .ok (.iconst 0, 1) := by decide +kernel
theorem dX12_readsDesk_138 : decode cX12_readsDesk 138 = .ok (.istore 6, 2) := by decide +kernel
theorem dX12_readsDesk_140 : decode cX12_readsDesk 140 = .ok (.aload_n 0, 1) := by decide +kernel
theorem dX12_readsDesk_141 : decode cX12_readsDesk 141 = .ok (.iload_n 1, 1) := by decide +kernel
theorem dX12_readsDesk_142 : decode cX12_readsDesk 142 = .ok (.invokevirtual 126, 3) := by decide +kernel
theorem dX12_readsDesk_145 : decode cX12_readsDesk 145 = .ok (.bipush 48, 2) := by decide +kernel
theorem dX12_readsDesk_147 : decode cX12_readsDesk 147 = .ok (.iload 6, 2) := by decide +kernel
theorem dX12_readsDesk_149 : decode cX12_readsDesk 149 = .ok (.iadd, 1) := by decide +kernel
theorem dX12_readsDesk_150 : decode cX12_readsDesk 150 = .ok (.bipush 57, 2) := by decide +kernel
theorem dX12_readsDesk_152 : decode cX12_readsDesk 152 = .ok (.invokestatic 88, 3) := by decide +kernel
theorem dX12_readsDesk_155 : decode cX12_readsDesk 155 = .ok (.ifCond .ne 5, 3) := by decide +kernel
theorem dX12_readsDesk_158 : decode cX12_readsDesk 158 = .ok (.iconst 0, 1) := by decide +kernel
theorem dX12_readsDesk_159 : decode cX12_readsDesk 159 = .ok (.ireturn, 1) := by decide +kernel
theorem dX12_readsDesk_160 : decode cX12_readsDesk 160 = .ok (.aload_n 0, 1) := by decide +kernel
theorem dX12_readsDesk_161 : decode cX12_readsDesk 161 = .ok (.getfield 32, 3) := by decide +kernel
theorem dX12_readsDesk_164 : decode cX12_readsDesk 164 = .ok (.iload_n 3, 1) := by decide +kernel
theorem dX12_readsDesk_165 : decode cX12_readsDesk 165 = .ok (.iload 5, 2) := by decide +kernel
theorem dX12_readsDesk_167 : decode cX12_readsDesk 167 = .ok (.iadd, 1) := by decide +kernel
theorem dX12_readsDesk_168 : decode cX12_readsDesk 168 = .ok (.aload_n 0, 1) := by decide +kernel
theorem dX12_readsDesk_169 : decode cX12_readsDesk 169 = .ok (.iload_n 1, 1) := by decide +kernel
theorem dX12_readsDesk_170 : decode cX12_readsDesk 170 = .ok (.invokevirtual 126, 3) := by decide +kernel
theorem dX12_readsDesk_173 : decode cX12_readsDesk 173 = .ok (.bipush 48, 2) := by decide +kernel
theorem dX12_readsDesk_175 : decode cX12_readsDesk 175 = .ok (.isub, 1) := by decide +kernel
theorem dX12_readsDesk_176 : decode cX12_readsDesk 176 = .ok (.iastore, 1) := by decide +kernel
theorem dX12_readsDesk_177 : decode cX12_readsDesk 177 = .ok (.aload_n 0, 1) := by decide +kernel
theorem dX12_readsDesk_178 : decode cX12_readsDesk 178 = .ok (.dup, 1) := by decide +kernel
theorem dX12_readsDesk_179 : decode cX12_readsDesk 179 = .ok (.getfield 123, 3) := by decide +kernel
theorem dX12_readsDesk_182 : decode cX12_readsDesk 182 = .ok (.iconst 1, 1) := by decide +kernel
theorem dX12_readsDesk_183 : decode cX12_readsDesk 183 = .ok (.iadd, 1) := by decide +kernel
theorem dX12_readsDesk_184 : decode cX12_readsDesk 184 = .ok (.putfield 123, 3) := by decide +kernel
theorem dX12_readsDesk_187 : decode cX12_readsDesk 187 = .ok (.iinc 5 1, 3) := by decide +kernel
theorem dX12_readsDesk_190 : decode cX12_readsDesk 190 = .ok (.goto (-92), 3) := by decide +kernel
theorem dX12_readsDesk_193 : decode cX12_readsDesk 193 = .ok (.aload_n 0, 1) := by decide +kernel
theorem dX12_readsDesk_194 : decode cX12_readsDesk 194 = .ok (.dup, 1) := by decide +kernel
theorem dX12_readsDesk_195 : decode cX12_readsDesk 195 = .ok (.getfield 132, 3) := by decide +kernel
theorem dX12_readsDesk_198 : decode cX12_readsDesk 198 = .ok (.iconst 1, 1) := by decide +kernel
theorem dX12_readsDesk_199 : decode cX12_readsDesk 199 = .ok (.iadd, 1) := by decide +kernel
theorem dX12_readsDesk_200 : decode cX12_readsDesk 200 = .ok (.putfield 132, 3) := by decide +kernel
theorem dX12_readsDesk_203 : decode cX12_readsDesk 203 = .ok (.iconst 1, 1) := by decide +kernel
theorem dX12_readsDesk_204 : decode cX12_readsDesk 204 = .ok (.ireturn, 1) := by decide +kernel
theorem dX12_goesOn_0 : decode cX12_goesOn 0 = .ok (.aload_n 0, 1) := by decide +kernel
theorem dX12_goesOn_1 : decode cX12_goesOn 1 = .ok (.iconst 0, 1) := by decide +kernel
theorem dX12_goesOn_2 : decode cX12_goesOn 2 = .ok (.putfield 123, 3) := by decide +kernel
theorem dX12_goesOn_5 : decode cX12_goesOn 5 = .ok (.aload_n 0, 1) := by decide +kernel
theorem dX12_goesOn_6 : decode cX12_goesOn 6 = .ok (.iconst 0, 1) := by decide +kernel
theorem dX12_goesOn_7 : decode cX12_goesOn 7 = .ok (.putfield 132, 3) := by decide +kernel
theorem dX12_goesOn_10 : decode cX12_goesOn 10 = .ok (.aload_n 0, 1) := by decide +kernel
theorem dX12_goesOn_11 : decode cX12_goesOn 11 = .ok (.getfield 123, 3) := by decide +kernel
theorem dX12_goesOn_14 : decode cX12_goesOn 14 = .ok (.aload_n 0, 1) := by decide +kernel
theorem dX12_goesOn_15 : decode cX12_goesOn 15 = .ok (.getfield 26, 3) := by decide +kernel
theorem dX12_goesOn_18 : decode cX12_goesOn 18 = .ok (.iload_n 1, 1) := by decide +kernel
theorem dX12_goesOn_19 : decode cX12_goesOn 19 = .ok (.iaload, 1) := by decide +kernel
theorem dX12_goesOn_20 : decode cX12_goesOn 20 = .ok (.if_icmp .ge 39, 3) := by decide +kernel
theorem dX12_goesOn_23 : decode cX12_goesOn 23 = .ok (.aload_n 0, 1) := by decide +kernel
theorem dX12_goesOn_24 : decode cX12_goesOn 24 = .ok (.iload_n 1, 1) := by decide +kernel
theorem dX12_goesOn_25 : decode cX12_goesOn 25 = .ok (.invokevirtual 126, 3) := by decide +kernel
theorem dX12_goesOn_28 : decode cX12_goesOn 28 = .ok (.bipush 32, 2) := by decide +kernel
theorem dX12_goesOn_30 : decode cX12_goesOn 30 = .ok (.if_icmp .ne 16, 3) := by decide +kernel
theorem dX12_goesOn_33 : decode cX12_goesOn 33 = .ok (.aload_n 0, 1) := by decide +kernel
theorem dX12_goesOn_34 : decode cX12_goesOn 34 = .ok (.dup, 1) := by decide +kernel
theorem dX12_goesOn_35 : decode cX12_goesOn 35 = .ok (.getfield 123, 3) := by decide +kernel
theorem dX12_goesOn_38 : decode cX12_goesOn 38 = .ok (.iconst 1, 1) := by decide +kernel
theorem dX12_goesOn_39 : decode cX12_goesOn 39 = .ok (.iadd, 1) := by decide +kernel
theorem dX12_goesOn_40 : decode cX12_goesOn 40 = .ok (.putfield 123, 3) := by decide +kernel
theorem dX12_goesOn_43 : decode cX12_goesOn 43 = .ok (.goto (-33), 3) := by decide +kernel
theorem dX12_goesOn_46 : decode cX12_goesOn 46 = .ok (.aload_n 0, 1) := by decide +kernel
theorem dX12_goesOn_47 : decode cX12_goesOn 47 = .ok (.iload_n 1, 1) := by decide +kernel
theorem dX12_goesOn_48 : decode cX12_goesOn 48 = .ok (.invokevirtual 135, 3) := by decide +kernel
theorem dX12_goesOn_51 : decode cX12_goesOn 51 = .ok (.ifCond .ne (-41), 3) := by decide +kernel
theorem dX12_goesOn_54 : decode cX12_goesOn 54 = .ok (.aload_n 0, 1) := by decide +kernel
theorem dX12_goesOn_55 : decode cX12_goesOn 55 = .ok (.getfield 123, 3) := by decide +kernel
theorem dX12_goesOn_58 : decode cX12_goesOn 58 = .ok (.ireturn, 1) := by decide +kernel
theorem dX12_goesOn_59 : decode cX12_goesOn 59 = .ok (.bipush (-9), 2) := by decide +kernel
theorem dX12_goesOn_61 : decode cX12_goesOn 61 = .ok (.ireturn, 1) := by decide +kernel
theorem dX12_fault_0 : decode cX12_fault 0 = .ok (.aload_n 0, 1) := by decide +kernel
theorem dX12_fault_1 : decode cX12_fault 1 = .ok (.iload_n 1, 1) := by decide +kernel
theorem dX12_fault_2 : decode cX12_fault 2 = .ok (.invokevirtual 120, 3) := by decide +kernel
theorem dX12_fault_5 : decode cX12_fault 5 = .ok (.istore_n 2, 1) := by decide +kernel
theorem dX12_fault_6 : decode cX12_fault 6 = .ok (.iload_n 2, 1) := by decide +kernel
theorem dX12_fault_7 : decode cX12_fault 7 = .ok (.ifCond .ge 7, 3) := by decide +kernel
theorem dX12_fault_10 : decode cX12_fault 10 = .ok (.iload_n 2, 1) := by decide +kernel
theorem dX12_fault_11 : decode cX12_fault 11 = .ok (.goto 8, 3) := by decide +kernel
theorem dX12_fault_14 : decode cX12_fault 14 = .ok (.aload_n 0, 1) := by decide +kernel
theorem dX12_fault_15 : decode cX12_fault 15 = .ok (.iload_n 1, 1) := by decide +kernel
theorem dX12_fault_16 : decode cX12_fault 16 = .ok (.invokevirtual 138, 3) := by decide +kernel
theorem dX12_fault_19 : decode cX12_fault 19 = .ok (.ireturn, 1) := by decide +kernel
theorem dX12_office_0 : decode cX12_office 0 = .ok (.aload_n 0, 1) := by decide +kernel
theorem dX12_office_1 : decode cX12_office 1 = .ok (.iload_n 1, 1) := by decide +kernel
theorem dX12_office_2 : decode cX12_office 2 = .ok (.invokevirtual 120, 3) := by decide +kernel
theorem dX12_office_5 : decode cX12_office 5 = .ok (.istore_n 2, 1) := by decide +kernel
theorem dX12_office_6 : decode cX12_office 6 = .ok (.iload_n 2, 1) := by decide +kernel
theorem dX12_office_7 : decode cX12_office 7 = .ok (.ifCond .ge 5, 3) := by decide +kernel
theorem dX12_office_10 : decode cX12_office 10 = .ok (.iload_n 2, 1) := by decide +kernel
theorem dX12_office_11 : decode cX12_office 11 = .ok (.ireturn, 1) := by decide +kernel
theorem dX12_office_12 : decode cX12_office 12 = .ok (.aload_n 0, 1) := by decide +kernel
theorem dX12_office_13 : decode cX12_office 13 = .ok (.iload_n 1, 1) := by decide +kernel
theorem dX12_office_14 : decode cX12_office 14 = .ok (.invokevirtual 138, 3) := by decide +kernel
theorem dX12_office_17 : decode cX12_office 17 = .ok (.bipush (-9), 2) := by decide +kernel
theorem dX12_office_19 : decode cX12_office 19 = .ok (.if_icmp .eq 6, 3) := by decide +kernel
theorem dX12_office_22 : decode cX12_office 22 = .ok (.bipush (-4), 2) := by decide +kernel
theorem dX12_office_24 : decode cX12_office 24 = .ok (.ireturn, 1) := by decide +kernel
theorem dX12_office_25 : decode cX12_office 25 = .ok (.aload_n 0, 1) := by decide +kernel
theorem dX12_office_26 : decode cX12_office 26 = .ok (.aload_n 0, 1) := by decide +kernel
theorem dX12_office_27 : decode cX12_office 27 = .ok (.getfield 132, 3) := by decide +kernel
theorem dX12_office_30 : decode cX12_office 30 = .ok (.putfield 141, 3) := by decide +kernel
theorem dX12_office_33 : decode cX12_office 33 = .ok (.iconst 0, 1) := by decide +kernel
theorem dX12_office_34 : decode cX12_office 34 = .ok (.istore_n 3, 1) := by decide +kernel
theorem dX12_office_35 : decode cX12_office 35 = .ok (.iload_n 3, 1) := by decide +kernel
theorem dX12_office_36 : decode cX12_office 36 = .ok (.bipush 54, 2) := by decide +kernel
theorem dX12_office_38 : decode cX12_office 38 = .ok (.if_icmp .ge 24, 3) := by decide +kernel
theorem dX12_office_41 : decode cX12_office 41 = .ok (.aload_n 0, 1) := by decide +kernel
theorem dX12_office_42 : decode cX12_office 42 = .ok (.getfield 32, 3) := by decide +kernel
theorem dX12_office_45 : decode cX12_office 45 = .ok (.iload_n 3, 1) := by decide +kernel
theorem dX12_office_46 : decode cX12_office 46 = .ok (.aload_n 0, 1) := by decide +kernel
theorem dX12_office_47 : decode cX12_office 47 = .ok (.getfield 32, 3) := by decide +kernel
theorem dX12_office_50 : decode cX12_office 50 = .ok (.bipush 54, 2) := by decide +kernel
theorem dX12_office_52 : decode cX12_office 52 = .ok (.iload_n 3, 1) := by decide +kernel
theorem dX12_office_53 : decode cX12_office 53 = .ok (.iadd, 1) := by decide +kernel
theorem dX12_office_54 : decode cX12_office 54 = .ok (.iaload, 1) := by decide +kernel
theorem dX12_office_55 : decode cX12_office 55 = .ok (.iastore, 1) := by decide +kernel
theorem dX12_office_56 : decode cX12_office 56 = .ok (.iinc 3 1, 3) := by decide +kernel
theorem dX12_office_59 : decode cX12_office 59 = .ok (.goto (-24), 3) := by decide +kernel
theorem dX12_office_62 : decode cX12_office 62 = .ok (.aload_n 0, 1) := by decide +kernel
theorem dX12_office_63 : decode cX12_office 63 = .ok (.iconst 0, 1) := by decide +kernel
theorem dX12_office_64 : decode cX12_office 64 = .ok (.putfield 144, 3) := by decide +kernel
theorem dX12_office_67 : decode cX12_office 67 = .ok (.aload_n 0, 1) := by decide +kernel
theorem dX12_office_68 : decode cX12_office 68 = .ok (.iconst 0, 1) := by decide +kernel
theorem dX12_office_69 : decode cX12_office 69 = .ok (.putfield 147, 3) := by decide +kernel
theorem dX12_office_72 : decode cX12_office 72 = .ok (.aload_n 0, 1) := by decide +kernel
theorem dX12_office_73 : decode cX12_office 73 = .ok (.iconst 0, 1) := by decide +kernel
theorem dX12_office_74 : decode cX12_office 74 = .ok (.putfield 150, 3) := by decide +kernel
theorem dX12_office_77 : decode cX12_office 77 = .ok (.aload_n 0, 1) := by decide +kernel
theorem dX12_office_78 : decode cX12_office 78 = .ok (.iconst 0, 1) := by decide +kernel
theorem dX12_office_79 : decode cX12_office 79 = .ok (.iconst 0, 1) := by decide +kernel
theorem dX12_office_80 : decode cX12_office 80 = .ok (.invokevirtual 153, 3) := by decide +kernel
theorem dX12_office_83 : decode cX12_office 83 = .ok (.aload_n 0, 1) := by decide +kernel
theorem dX12_office_84 : decode cX12_office 84 = .ok (.iconst 0, 1) := by decide +kernel
theorem dX12_office_85 : decode cX12_office 85 = .ok (.putfield 157, 3) := by decide +kernel
theorem dX12_office_88 : decode cX12_office 88 = .ok (.iconst 0, 1) := by decide +kernel
theorem dX12_office_89 : decode cX12_office 89 = .ok (.istore_n 3, 1) := by decide +kernel
theorem dX12_office_90 : decode cX12_office 90 = .ok (.iload_n 3, 1) := by decide +kernel
theorem dX12_office_91 : decode cX12_office 91 = .ok (.iconst 3, 1) := by decide +kernel
theorem dX12_office_92 : decode cX12_office 92 = .ok (.if_icmp .ge 20, 3) := by decide +kernel
theorem dX12_office_95 : decode cX12_office 95 = .ok (.aload_n 0, 1) := by decide +kernel
theorem dX12_office_96 : decode cX12_office 96 = .ok (.getfield 47, 3) := by decide +kernel
theorem dX12_office_99 : decode cX12_office 99 = .ok (.bipush 50, 2) := by decide +kernel
theorem dX12_office_101 : decode cX12_office 101 = .ok (.iload_n 3, 1) := by decide +kernel
theorem dX12_office_102 : decode cX12_office 102 = .ok (.imul, 1) := by decide +kernel
theorem dX12_office_103 : decode cX12_office 103 = .ok (.bipush (-9), 2) := by decide +kernel
theorem dX12_office_105 : decode cX12_office 105 = .ok (.iastore, 1) := by decide +kernel
theorem dX12_office_106 : decode cX12_office 106 = .ok (.iinc 3 1, 3) := by decide +kernel
theorem dX12_office_109 : decode cX12_office 109 = .ok (.goto (-19), 3) := by decide +kernel
theorem dX12_office_112 : decode cX12_office 112 = .ok (.aload_n 0, 1) := by decide +kernel
theorem dX12_office_113 : decode cX12_office 113 = .ok (.getfield 141, 3) := by decide +kernel
theorem dX12_office_116 : decode cX12_office 116 = .ok (.ireturn, 1) := by decide +kernel
theorem dX12_isDesk_0 : decode cX12_isDesk 0 = .ok (.iload_n 1, 1) := by decide +kernel
theorem dX12_isDesk_1 : decode cX12_isDesk 1 = .ok (.iconst 0, 1) := by decide +kernel
theorem dX12_isDesk_2 : decode cX12_isDesk 2 = .ok (.aload_n 0, 1) := by decide +kernel
theorem dX12_isDesk_3 : decode cX12_isDesk 3 = .ok (.getfield 141, 3) := by decide +kernel
theorem dX12_isDesk_6 : decode cX12_isDesk 6 = .ok (.iconst 1, 1) := by decide +kernel
theorem dX12_isDesk_7 : decode cX12_isDesk 7 = .ok (.isub, 1) := by decide +kernel
theorem dX12_isDesk_8 : decode cX12_isDesk 8 = .ok (.invokestatic 88, 3) := by decide +kernel
theorem dX12_isDesk_11 : decode cX12_isDesk 11 = .ok (.ireturn, 1) := by decide +kernel
theorem dX12_desk_0 : decode cX12_desk 0 = .ok (.aload_n 0, 1) := by decide +kernel
theorem dX12_desk_1 : decode cX12_desk 1 = .ok (.iload_n 1, 1) := by decide +kernel
theorem dX12_desk_2 : decode cX12_desk 2 = .ok (.invokevirtual 160, 3) := by decide +kernel
theorem dX12_desk_5 : decode cX12_desk 5 = .ok (.ifCond .eq 26, 3) := by decide +kernel
theorem dX12_desk_8 : decode cX12_desk 8 = .ok (.iload_n 2, 1) := by decide +kernel
theorem dX12_desk_9 : decode cX12_desk 9 = .ok (.iconst 0, 1) := by decide +kernel
theorem dX12_desk_10 : decode cX12_desk 10 = .ok (.iconst 5, 1) := by decide +kernel
theorem dX12_desk_11 : decode cX12_desk 11 = .ok (.invokestatic 88, 3) := by decide +kernel
theorem dX12_desk_14 : decode cX12_desk 14 = .ok (.ifCond .eq 17, 3) := by decide +kernel
theorem dX12_desk_17 : decode cX12_desk 17 = .ok (.aload_n 0, 1) := by decide +kernel
theorem dX12_desk_18 : decode cX12_desk 18 = .ok (.aload_n 0, 1) := by decide +kernel
theorem dX12_desk_19 : decode cX12_desk 19 = .ok (.iload_n 1, 1) := by decide +kernel
theorem dX12_desk_20 : decode cX12_desk 20 = .ok (.iload_n 2, 1) := by decide +kernel
theorem dX12_desk_21 : decode cX12_desk 21 = .ok (.invokevirtual 163, 3) := by decide +kernel
theorem dX12_desk_24 : decode cX12_desk 24 = .ok (.iconst 1, 1) := by decide +kernel
theorem dX12_desk_25 : decode cX12_desk 25 = .ok (.invokevirtual 114, 3) := by decide +kernel
theorem dX12_desk_28 : decode cX12_desk 28 = .ok (.goto 4, 3) := by decide +kernel
theorem dX12_desk_31 : decode cX12_desk 31 = .ok (.iconst (-1), 1) := by decide +kernel
theorem dX12_desk_32 : decode cX12_desk 32 = .ok (.ireturn, 1) := by decide +kernel
theorem dX12_isA_0 : decode cX12_isA 0 = .ok (.aload_n 0, 1) := by decide +kernel
theorem dX12_isA_1 : decode cX12_isA 1 = .ok (.iload_n 1, 1) := by decide +kernel
theorem dX12_isA_2 : decode cX12_isA 2 = .ok (.iconst 0, 1) := by decide +kernel
theorem dX12_isA_3 : decode cX12_isA 3 = .ok (.invokevirtual 163, 3) := by decide +kernel
theorem dX12_isA_6 : decode cX12_isA 6 = .ok (.iload_n 2, 1) := by decide +kernel
theorem dX12_isA_7 : decode cX12_isA 7 = .ok (.if_icmp .eq 18, 3) := by decide +kernel
theorem dX12_isA_10 : decode cX12_isA 10 = .ok (.iload_n 2, 1) := by decide +kernel
theorem dX12_isA_11 : decode cX12_isA 11 = .ok (.iconst 4, 1) := by decide +kernel
theorem dX12_isA_12 : decode cX12_isA 12 = .ok (.if_icmp .ne 17, 3) := by decide +kernel
theorem dX12_isA_15 : decode cX12_isA 15 = .ok (.aload_n 0, 1) := by decide +kernel
theorem dX12_isA_16 : decode cX12_isA 16 = .ok (.iload_n 1, 1) := by decide +kernel
theorem dX12_isA_17 : decode cX12_isA 17 = .ok (.iconst 0, 1) := by decide +kernel
theorem dX12_isA_18 : decode cX12_isA 18 = .ok (.invokevirtual 163, 3) := by decide +kernel
theorem dX12_isA_21 : decode cX12_isA 21 = .ok (.iconst 5, 1) := by decide +kernel
theorem dX12_isA_22 : decode cX12_isA 22 = .ok (.if_icmp .ne 7, 3) := by decide +kernel
theorem dX12_isA_25 : decode cX12_isA 25 = .ok (.iconst 1, 1) := by decide +kernel
theorem dX12_isA_26 : decode cX12_isA 26 = .ok (.goto 4, 3) := by decide +kernel
theorem dX12_isA_29 : decode cX12_isA 29 = .ok (.iconst 0, 1) := by decide +kernel
theorem dX12_isA_30 : decode cX12_isA 30 = .ok (.ireturn, 1) := by decide +kernel
theorem dX12_isAway_0 : decode cX12_isAway 0 = .ok (.aload_n 0, 1) := by decide +kernel
theorem dX12_isAway_1 : decode cX12_isAway 1 = .ok (.iload_n 1, 1) := by decide +kernel
theorem dX12_isAway_2 : decode cX12_isAway 2 = .ok (.iconst 0, 1) := by decide +kernel
theorem dX12_isAway_3 : decode cX12_isAway 3 = .ok (.invokevirtual 163, 3) := by decide +kernel
theorem dX12_isAway_6 : decode cX12_isAway 6 = .ok (.iconst 3, 1) := by decide +kernel
theorem dX12_isAway_7 : decode cX12_isAway 7 = .ok (.if_icmp .ne 26, 3) := by decide +kernel
theorem dX12_isAway_10 : decode cX12_isAway 10 = .ok (.iload_n 2, 1) := by decide +kernel
theorem dX12_isAway_11 : decode cX12_isAway 11 = .ok (.aload_n 0, 1) := by decide +kernel
theorem dX12_isAway_12 : decode cX12_isAway 12 = .ok (.iload_n 1, 1) := by decide +kernel
theorem dX12_isAway_13 : decode cX12_isAway 13 = .ok (.iconst 4, 1) := by decide +kernel
theorem dX12_isAway_14 : decode cX12_isAway 14 = .ok (.invokevirtual 163, 3) := by decide +kernel
theorem dX12_isAway_17 : decode cX12_isAway 17 = .ok (.aload_n 0, 1) := by decide +kernel
theorem dX12_isAway_18 : decode cX12_isAway 18 = .ok (.iload_n 1, 1) := by decide +kernel
theorem dX12_isAway_19 : decode cX12_isAway 19 = .ok (.iconst 5, 1) := by decide +kernel
theorem dX12_isAway_20 : decode cX12_isAway 20 = .ok (.invokevirtual 163, 3) := by decide +kernel
theorem dX12_isAway_23 : decode cX12_isAway 23 = .ok (.invokestatic 88, 3) := by decide +kernel
theorem dX12_isAway_26 : decode cX12_isAway 26 = .ok (.ifCond .eq 7, 3) := by decide +kernel
theorem dX12_isAway_29 : decode cX12_isAway 29 = .ok (.iconst 1, 1) := by decide +kernel
theorem dX12_isAway_30 : decode cX12_isAway 30 = .ok (.goto 4, 3) := by decide +kernel
theorem dX12_isAway_33 : decode cX12_isAway 33 = .ok (.iconst 0, 1) := by decide +kernel
theorem dX12_isAway_34 : decode cX12_isAway 34 = .ok (.ireturn, 1) := by decide +kernel
theorem dX12_mark_0 : decode cX12_mark 0 = .ok (.aload_n 0, 1) := by decide +kernel
theorem dX12_mark_1 : decode cX12_mark 1 = .ok (.iload_n 1, 1) := by decide +kernel
theorem dX12_mark_2 : decode cX12_mark 2 = .ok (.invokevirtual 160, 3) := by decide +kernel
theorem dX12_mark_5 : decode cX12_mark 5 = .ok (.ifCond .eq 12, 3) := by decide +kernel
theorem dX12_mark_8 : decode cX12_mark 8 = .ok (.iload_n 2, 1) := by decide +kernel
theorem dX12_mark_9 : decode cX12_mark 9 = .ok (.iconst 1, 1) := by decide +kernel
theorem dX12_mark_10 : decode cX12_mark 10 = .ok (.iconst 5, 1) := by decide +kernel
theorem dX12_mark_11 : decode cX12_mark 11 = .ok (.invokestatic 88, 3) := by decide +kernel
theorem dX12_mark_14 : decode cX12_mark 14 = .ok (.ifCond .ne 5, 3) := by decide +kernel
theorem dX12_mark_17 : decode cX12_mark 17 = .ok (.iconst (-1), 1) := by decide +kernel
theorem dX12_mark_18 : decode cX12_mark 18 = .ok (.ireturn, 1) := by decide +kernel
theorem dX12_mark_19 : decode cX12_mark 19 = .ok (.aload_n 0, 1) := by decide +kernel
theorem dX12_mark_20 : decode cX12_mark 20 = .ok (.iload_n 1, 1) := by decide +kernel
theorem dX12_mark_21 : decode cX12_mark 21 = .ok (.iload_n 2, 1) := by decide +kernel
theorem dX12_mark_22 : decode cX12_mark 22 = .ok (.invokevirtual 166, 3) := by decide +kernel
theorem dX12_mark_25 : decode cX12_mark 25 = .ok (.ifCond .ne 9, 3) := by decide +kernel
theorem dX12_mark_28 : decode cX12_mark 28 = .ok (.aload_n 0, 1) := by decide +kernel
theorem dX12_mark_29 : decode cX12_mark 29 = .ok (.iconst 3, 1) := by decide +kernel
theorem dX12_mark_30 : decode cX12_mark 30 = .ok (.invokevirtual 96, 3) := by decide +kernel
theorem dX12_mark_33 : decode cX12_mark 33 = .ok (.ireturn, 1) := by decide +kernel
theorem dX12_mark_34 : decode cX12_mark 34 = .ok (.iload_n 2, 1) := by decide +kernel
theorem dX12_mark_35 : decode cX12_mark 35 = .ok (.tableswitch 89 1 4 #[29, 55, 65, 83], 29) := by decide +kernel
theorem dX12_mark_64 : decode cX12_mark 64 = .ok (.iload_n 1, 1) := by decide +kernel
theorem dX12_mark_65 : decode cX12_mark 65 = .ok (.ifCond .le 7, 3) := by decide +kernel
theorem dX12_mark_68 : decode cX12_mark 68 = .ok (.iconst 1, 1) := by decide +kernel
theorem dX12_mark_69 : decode cX12_mark 69 = .ok (.goto 4, 3) := by decide +kernel
theorem dX12_mark_72 : decode cX12_mark 72 = .ok (.iconst 0, 1) := by decide +kernel
theorem dX12_mark_73 : decode cX12_mark 73 = .ok (.iload_n 1, 1) := by decide +kernel
theorem dX12_mark_74 : decode cX12_mark 74 = .ok (.aload_n 0, 1) := by decide +kernel
theorem dX12_mark_75 : decode cX12_mark 75 = .ok (.getfield 141, 3) := by decide +kernel
theorem dX12_mark_78 : decode cX12_mark 78 = .ok (.iconst 1, 1) := by decide +kernel
theorem dX12_mark_79 : decode cX12_mark 79 = .ok (.isub, 1) := by decide +kernel
theorem dX12_mark_80 : decode cX12_mark 80 = .ok (.if_icmp .ge 7, 3) := by decide +kernel
theorem dX12_mark_83 : decode cX12_mark 83 = .ok (.iconst 1, 1) := by decide +kernel
theorem dX12_mark_84 : decode cX12_mark 84 = .ok (.goto 4, 3) := by decide +kernel
theorem dX12_mark_87 : decode cX12_mark 87 = .ok (.iconst 0, 1) := by decide +kernel
theorem dX12_mark_88 : decode cX12_mark 88 = .ok (.iadd, 1) := by decide +kernel
theorem dX12_mark_89 : decode cX12_mark 89 = .ok (.ireturn, 1) := by decide +kernel
theorem dX12_mark_90 : decode cX12_mark 90 = .ok (.bipush 12, 2) := by decide +kernel
theorem dX12_mark_92 : decode cX12_mark 92 = .ok (.aload_n 0, 1) := by decide +kernel
theorem dX12_mark_93 : decode cX12_mark 93 = .ok (.iload_n 1, 1) := by decide +kernel
theorem dX12_mark_94 : decode cX12_mark 94 = .ok (.iconst 4, 1) := by decide +kernel
theorem dX12_mark_95 : decode cX12_mark 95 = .ok (.invokevirtual 163, 3) := by decide +kernel
theorem dX12_mark_98 : decode cX12_mark 98 = .ok (.idiv, 1) := by decide +kernel
theorem dX12_mark_99 : decode cX12_mark 99 = .ok (.ireturn, 1) := by decide +kernel
theorem dX12_mark_100 : decode cX12_mark 100 = .ok (.aload_n 0, 1) := by decide +kernel
theorem dX12_mark_101 : decode cX12_mark 101 = .ok (.iload_n 1, 1) := by decide +kernel
theorem dX12_mark_102 : decode cX12_mark 102 = .ok (.aload_n 0, 1) := by decide +kernel
theorem dX12_mark_103 : decode cX12_mark 103 = .ok (.getfield 170, 3) := by decide +kernel
theorem dX12_mark_106 : decode cX12_mark 106 = .ok (.invokevirtual 173, 3) := by decide +kernel
theorem dX12_mark_109 : decode cX12_mark 109 = .ok (.ifCond .eq 7, 3) := by decide +kernel
theorem dX12_mark_112 : decode cX12_mark 112 = .ok (.iconst 1, 1) := by decide +kernel
theorem dX12_mark_113 : decode cX12_mark 113 = .ok (.goto 4, 3) := by decide +kernel
theorem dX12_mark_116 : decode cX12_mark 116 = .ok (.iconst 0, 1) := by decide +kernel
theorem dX12_mark_117 : decode cX12_mark 117 = .ok (.ireturn, 1) := by decide +kernel
theorem dX12_mark_118 : decode cX12_mark 118 = .ok (.aload_n 0, 1) := by decide +kernel
theorem dX12_mark_119 : decode cX12_mark 119 = .ok (.iload_n 1, 1) := by decide +kernel
theorem dX12_mark_120 : decode cX12_mark 120 = .ok (.invokevirtual 176, 3) := by decide +kernel
theorem dX12_mark_123 : decode cX12_mark 123 = .ok (.ireturn, 1) := by decide +kernel
theorem dX12_mark_124 : decode cX12_mark 124 = .ok (.aload_n 0, 1) := by decide +kernel
theorem dX12_mark_125 : decode cX12_mark 125 = .ok (.aload_n 0, 1) := by decide +kernel
theorem dX12_mark_126 : decode cX12_mark 126 = .ok (.aload_n 0, 1) := by decide +kernel
theorem dX12_mark_127 : decode cX12_mark 127 = .ok (.iload_n 1, 1) := by decide +kernel
theorem dX12_mark_128 : decode cX12_mark 128 = .ok (.invokevirtual 179, 3) := by decide +kernel
theorem dX12_mark_131 : decode cX12_mark 131 = .ok (.invokevirtual 182, 3) := by decide +kernel
theorem dX12_mark_134 : decode cX12_mark 134 = .ok (.invokevirtual 185, 3) := by decide +kernel
theorem dX12_mark_137 : decode cX12_mark 137 = .ok (.ireturn, 1) := by decide +kernel
theorem dX12_law_0 : decode cX12_law 0 = .ok (.iload_n 1, 1) := by decide +kernel
theorem dX12_law_1 : decode cX12_law 1 = .ok (.iconst 0, 1) := by decide +kernel
theorem dX12_law_2 : decode cX12_law 2 = .ok (.iconst 2, 1) := by decide +kernel
theorem dX12_law_3 : decode cX12_law 3 = .ok (.invokestatic 88, 3) := by decide +kernel
theorem dX12_law_6 : decode cX12_law 6 = .ok (.ifCond .ne 5, 3) := by decide +kernel
theorem dX12_law_9 : decode cX12_law 9 = .ok (.iconst (-1), 1) := by decide +kernel
theorem dX12_law_10 : decode cX12_law 10 = .ok (.ireturn, 1) := by decide +kernel
theorem dX12_law_11 : decode cX12_law 11 = .ok (.aload_n 0, 1) := by decide +kernel
theorem dX12_law_12 : decode cX12_law 12 = .ok (.getfield 144, 3) := by decide +kernel
theorem dX12_law_15 : decode cX12_law 15 = .ok (.istore_n 2, 1) := by decide +kernel
theorem dX12_law_16 : decode cX12_law 16 = .ok (.aload_n 0, 1) := by decide +kernel
theorem dX12_law_17 : decode cX12_law 17 = .ok (.iload_n 1, 1) := by decide +kernel
theorem dX12_law_18 : decode cX12_law 18 = .ok (.putfield 144, 3) := by decide +kernel
theorem dX12_law_21 : decode cX12_law 21 = .ok (.iload_n 2, 1) := by decide +kernel
theorem dX12_law_22 : decode cX12_law 22 = .ok (.ireturn, 1) := by decide +kernel
theorem dX12_name_0 : decode cX12_name 0 = .ok (.iload_n 1, 1) := by decide +kernel
theorem dX12_name_1 : decode cX12_name 1 = .ok (.iconst 0, 1) := by decide +kernel
theorem dX12_name_2 : decode cX12_name 2 = .ok (.bipush 60, 2) := by decide +kernel
theorem dX12_name_4 : decode cX12_name 4 = .ok (.invokestatic 88, 3) := by decide +kernel
theorem dX12_name_7 : decode cX12_name 7 = .ok (.ifCond .ne 5, 3) := by decide +kernel
theorem dX12_name_10 : decode cX12_name 10 = .ok (.iconst (-1), 1) := by decide +kernel
theorem dX12_name_11 : decode cX12_name 11 = .ok (.ireturn, 1) := by decide +kernel
theorem dX12_name_12 : decode cX12_name 12 = .ok (.aload_n 0, 1) := by decide +kernel
theorem dX12_name_13 : decode cX12_name 13 = .ok (.getfield 147, 3) := by decide +kernel
theorem dX12_name_16 : decode cX12_name 16 = .ok (.istore_n 2, 1) := by decide +kernel
theorem dX12_name_17 : decode cX12_name 17 = .ok (.aload_n 0, 1) := by decide +kernel
theorem dX12_name_18 : decode cX12_name 18 = .ok (.iload_n 1, 1) := by decide +kernel
theorem dX12_name_19 : decode cX12_name 19 = .ok (.putfield 147, 3) := by decide +kernel
theorem dX12_name_22 : decode cX12_name 22 = .ok (.iload_n 2, 1) := by decide +kernel
theorem dX12_name_23 : decode cX12_name 23 = .ok (.ireturn, 1) := by decide +kernel
theorem dX12_link_0 : decode cX12_link 0 = .ok (.iload_n 1, 1) := by decide +kernel
theorem dX12_link_1 : decode cX12_link 1 = .ok (.iconst 0, 1) := by decide +kernel
theorem dX12_link_2 : decode cX12_link 2 = .ok (.iconst 1, 1) := by decide +kernel
theorem dX12_link_3 : decode cX12_link 3 = .ok (.invokestatic 88, 3) := by decide +kernel
theorem dX12_link_6 : decode cX12_link 6 = .ok (.ifCond .ne 5, 3) := by decide +kernel
theorem dX12_link_9 : decode cX12_link 9 = .ok (.iconst (-1), 1) := by decide +kernel
theorem dX12_link_10 : decode cX12_link 10 = .ok (.ireturn, 1) := by decide +kernel
theorem dX12_link_11 : decode cX12_link 11 = .ok (.aload_n 0, 1) := by decide +kernel
theorem dX12_link_12 : decode cX12_link 12 = .ok (.getfield 150, 3) := by decide +kernel
theorem dX12_link_15 : decode cX12_link 15 = .ok (.istore_n 2, 1) := by decide +kernel
theorem dX12_link_16 : decode cX12_link 16 = .ok (.aload_n 0, 1) := by decide +kernel
theorem dX12_link_17 : decode cX12_link 17 = .ok (.iload_n 1, 1) := by decide +kernel
theorem dX12_link_18 : decode cX12_link 18 = .ok (.putfield 150, 3) := by decide +kernel
theorem dX12_link_21 : decode cX12_link 21 = .ok (.iload_n 2, 1) := by decide +kernel
theorem dX12_link_22 : decode cX12_link 22 = .ok (.ireturn, 1) := by decide +kernel
theorem dX12_ownOf_0 : decode cX12_ownOf 0 = .ok (.aload_n 0, 1) := by decide +kernel
theorem dX12_ownOf_1 : decode cX12_ownOf 1 = .ok (.iload_n 1, 1) := by decide +kernel
theorem dX12_ownOf_2 : decode cX12_ownOf 2 = .ok (.iconst 1, 1) := by decide +kernel
theorem dX12_ownOf_3 : decode cX12_ownOf 3 = .ok (.invokevirtual 163, 3) := by decide +kernel
theorem dX12_ownOf_6 : decode cX12_ownOf 6 = .ok (.istore_n 2, 1) := by decide +kernel
theorem dX12_ownOf_7 : decode cX12_ownOf 7 = .ok (.aload_n 0, 1) := by decide +kernel
theorem dX12_ownOf_8 : decode cX12_ownOf 8 = .ok (.getfield 144, 3) := by decide +kernel
theorem dX12_ownOf_11 : decode cX12_ownOf 11 = .ok (.iconst 2, 1) := by decide +kernel
theorem dX12_ownOf_12 : decode cX12_ownOf 12 = .ok (.if_icmp .ge 26, 3) := by decide +kernel
theorem dX12_ownOf_15 : decode cX12_ownOf 15 = .ok (.aload_n 0, 1) := by decide +kernel
theorem dX12_ownOf_16 : decode cX12_ownOf 16 = .ok (.getfield 144, 3) := by decide +kernel
theorem dX12_ownOf_19 : decode cX12_ownOf 19 = .ok (.ifCond .ne 7, 3) := by decide +kernel
theorem dX12_ownOf_22 : decode cX12_ownOf 22 = .ok (.iload_n 2, 1) := by decide +kernel
theorem dX12_ownOf_23 : decode cX12_ownOf 23 = .ok (.goto 14, 3) := by decide +kernel
theorem dX12_ownOf_26 : decode cX12_ownOf 26 = .ok (.iload_n 2, 1) := by decide +kernel
theorem dX12_ownOf_27 : decode cX12_ownOf 27 = .ok (.aload_n 0, 1) := by decide +kernel
theorem dX12_ownOf_28 : decode cX12_ownOf 28 = .ok (.iload_n 1, 1) := by decide +kernel
theorem dX12_ownOf_29 : decode cX12_ownOf 29 = .ok (.iconst 2, 1) := by decide +kernel
theorem dX12_ownOf_30 : decode cX12_ownOf 30 = .ok (.invokevirtual 163, 3) := by decide +kernel
theorem dX12_ownOf_33 : decode cX12_ownOf 33 = .ok (.imul, 1) := by decide +kernel
theorem dX12_ownOf_34 : decode cX12_ownOf 34 = .ok (.bipush 9, 2) := by decide +kernel
theorem dX12_ownOf_36 : decode cX12_ownOf 36 = .ok (.idiv, 1) := by decide +kernel
theorem dX12_ownOf_37 : decode cX12_ownOf 37 = .ok (.ireturn, 1) := by decide +kernel
theorem dX12_ownOf_38 : decode cX12_ownOf 38 = .ok (.iconst 0, 1) := by decide +kernel
theorem dX12_ownOf_39 : decode cX12_ownOf 39 = .ok (.istore_n 3, 1) := by decide +kernel
theorem dX12_ownOf_40 : decode cX12_ownOf 40 = .ok (.iconst 0, 1) := by decide +kernel
theorem dX12_ownOf_41 : decode cX12_ownOf 41 = .ok (.istore 4, 2) := by decide +kernel
theorem dX12_ownOf_43 : decode cX12_ownOf 43 = .ok (.iconst 0, 1) := by decide +kernel
theorem dX12_ownOf_44 : decode cX12_ownOf 44 = .ok (.istore 5, 2) := by decide +kernel
theorem dX12_ownOf_46 : decode cX12_ownOf 46 = .ok (.iload 5, 2) := by decide +kernel
theorem dX12_ownOf_48 : decode cX12_ownOf 48 = .ok (.aload_n 0, 1) := by decide +kernel
theorem dX12_ownOf_49 : decode cX12_ownOf 49 = .ok (.getfield 141, 3) := by decide +kernel
theorem dX12_ownOf_52 : decode cX12_ownOf 52 = .ok (.if_icmp .ge 57, 3) := by decide +kernel
theorem dX12_ownOf_55 : decode cX12_ownOf 55 = .ok (.iload_n 3, 1) := by decide +kernel
theorem dX12_ownOf_56 : decode cX12_ownOf 56 = .ok (.aload_n 0, 1) := by decide +kernel
theorem dX12_ownOf_57 : decode cX12_ownOf 57 = .ok (.getfield 188, 3) := by decide +kernel
theorem dX12_ownOf_60 : decode cX12_ownOf 60 = .ok (.iload 5, 2) := by decide +kernel
theorem dX12_ownOf_62 : decode cX12_ownOf 62 = .ok (.invokestatic 191, 3) := by decide +kernel
theorem dX12_ownOf_65 : decode cX12_ownOf 65 = .ok (.ifCond .eq 13, 3) := by decide +kernel
theorem dX12_ownOf_68 : decode cX12_ownOf 68 = .ok (.aload_n 0, 1) := by decide +kernel
theorem dX12_ownOf_69 : decode cX12_ownOf 69 = .ok (.getfield 35, 3) := by decide +kernel
theorem dX12_ownOf_72 : decode cX12_ownOf 72 = .ok (.iload 5, 2) := by decide +kernel
theorem dX12_ownOf_74 : decode cX12_ownOf 74 = .ok (.iaload, 1) := by decide +kernel
theorem dX12_ownOf_75 : decode cX12_ownOf 75 = .ok (.goto 4, 3) := by decide +kernel
theorem dX12_ownOf_78 : decode cX12_ownOf 78 = .ok (.iconst 0, 1) := by decide +kernel
theorem dX12_ownOf_79 : decode cX12_ownOf 79 = .ok (.iadd, 1) := by decide +kernel
theorem dX12_ownOf_80 : decode cX12_ownOf 80 = .ok (.istore_n 3, 1) := by decide +kernel
theorem dX12_ownOf_81 : decode cX12_ownOf 81 = .ok (.iload 4, 2) := by decide +kernel
theorem dX12_ownOf_83 : decode cX12_ownOf 83 = .ok (.aload_n 0, 1) := by decide +kernel
theorem dX12_ownOf_84 : decode cX12_ownOf 84 = .ok (.getfield 188, 3) := by decide +kernel
theorem dX12_ownOf_87 : decode cX12_ownOf 87 = .ok (.iload 5, 2) := by decide +kernel
theorem dX12_ownOf_89 : decode cX12_ownOf 89 = .ok (.invokestatic 191, 3) := by decide +kernel
theorem dX12_ownOf_92 : decode cX12_ownOf 92 = .ok (.ifCond .eq 7, 3) := by decide +kernel
theorem dX12_ownOf_95 : decode cX12_ownOf 95 = .ok (.iconst 1, 1) := by decide +kernel
theorem dX12_ownOf_96 : decode cX12_ownOf 96 = .ok (.goto 4, 3) := by decide +kernel
theorem dX12_ownOf_99 : decode cX12_ownOf 99 = .ok (.iconst 0, 1) := by decide +kernel
theorem dX12_ownOf_100 : decode cX12_ownOf 100 = .ok (.iadd, 1) := by decide +kernel
theorem dX12_ownOf_101 : decode cX12_ownOf 101 = .ok (.istore 4, 2) := by decide +kernel
theorem dX12_ownOf_103 : decode cX12_ownOf 103 = .ok (.iinc 5 1, 3) := by decide +kernel
theorem dX12_ownOf_106 : decode cX12_ownOf 106 = .ok (.goto (-60), 3) := by decide +kernel
theorem dX12_ownOf_109 : decode cX12_ownOf 109 = .ok (.iload 4, 2) := by decide +kernel
theorem dX12_ownOf_111 : decode cX12_ownOf 111 = .ok (.ifCond .ne 7, 3) := by decide +kernel
theorem dX12_ownOf_114 : decode cX12_ownOf 114 = .ok (.iload_n 2, 1) := by decide +kernel
theorem dX12_ownOf_115 : decode cX12_ownOf 115 = .ok (.goto 11, 3) := by decide +kernel
theorem dX12_ownOf_118 : decode cX12_ownOf 118 = .ok (.iload_n 2, 1) := by decide +kernel
theorem dX12_ownOf_119 : decode cX12_ownOf 119 = .ok (.iload_n 3, 1) := by decide +kernel
theorem dX12_ownOf_120 : decode cX12_ownOf 120 = .ok (.iload 4, 2) := by decide +kernel
theorem dX12_ownOf_122 : decode cX12_ownOf 122 = .ok (.idiv, 1) := by decide +kernel
theorem dX12_ownOf_123 : decode cX12_ownOf 123 = .ok (.iadd, 1) := by decide +kernel
theorem dX12_ownOf_124 : decode cX12_ownOf 124 = .ok (.iconst 2, 1) := by decide +kernel
theorem dX12_ownOf_125 : decode cX12_ownOf 125 = .ok (.idiv, 1) := by decide +kernel
theorem dX12_ownOf_126 : decode cX12_ownOf 126 = .ok (.ireturn, 1) := by decide +kernel
theorem dX12_namedOf_0 : decode cX12_namedOf 0 = .ok (.aload_n 0, 1) := by decide +kernel
theorem dX12_namedOf_1 : decode cX12_namedOf 1 = .ok (.getfield 147, 3) := by decide +kernel
theorem dX12_namedOf_4 : decode cX12_namedOf 4 = .ok (.ifCond .le 20, 3) := by decide +kernel
theorem dX12_namedOf_7 : decode cX12_namedOf 7 = .ok (.iconst 2, 1) := by decide +kernel
theorem dX12_namedOf_8 : decode cX12_namedOf 8 = .ok (.iload_n 1, 1) := by decide +kernel
theorem dX12_namedOf_9 : decode cX12_namedOf 9 = .ok (.imul, 1) := by decide +kernel
theorem dX12_namedOf_10 : decode cX12_namedOf 10 = .ok (.aload_n 0, 1) := by decide +kernel
theorem dX12_namedOf_11 : decode cX12_namedOf 11 = .ok (.getfield 147, 3) := by decide +kernel
theorem dX12_namedOf_14 : decode cX12_namedOf 14 = .ok (.if_icmp .lt 10, 3) := by decide +kernel
theorem dX12_namedOf_17 : decode cX12_namedOf 17 = .ok (.aload_n 0, 1) := by decide +kernel
theorem dX12_namedOf_18 : decode cX12_namedOf 18 = .ok (.getfield 147, 3) := by decide +kernel
theorem dX12_namedOf_21 : decode cX12_namedOf 21 = .ok (.goto 4, 3) := by decide +kernel
theorem dX12_namedOf_24 : decode cX12_namedOf 24 = .ok (.iload_n 1, 1) := by decide +kernel
theorem dX12_namedOf_25 : decode cX12_namedOf 25 = .ok (.ireturn, 1) := by decide +kernel
theorem dX12_linkedTo_0 : decode cX12_linkedTo 0 = .ok (.iconst 0, 1) := by decide +kernel
theorem dX12_linkedTo_1 : decode cX12_linkedTo 1 = .ok (.istore_n 2, 1) := by decide +kernel
theorem dX12_linkedTo_2 : decode cX12_linkedTo 2 = .ok (.iconst 0, 1) := by decide +kernel
theorem dX12_linkedTo_3 : decode cX12_linkedTo 3 = .ok (.istore_n 3, 1) := by decide +kernel
theorem dX12_linkedTo_4 : decode cX12_linkedTo 4 = .ok (.iload_n 3, 1) := by decide +kernel
theorem dX12_linkedTo_5 : decode cX12_linkedTo 5 = .ok (.aload_n 0, 1) := by decide +kernel
theorem dX12_linkedTo_6 : decode cX12_linkedTo 6 = .ok (.getfield 141, 3) := by decide +kernel
theorem dX12_linkedTo_9 : decode cX12_linkedTo 9 = .ok (.if_icmp .ge 62, 3) := by decide +kernel
theorem dX12_linkedTo_12 : decode cX12_linkedTo 12 = .ok (.aload_n 0, 1) := by decide +kernel
theorem dX12_linkedTo_13 : decode cX12_linkedTo 13 = .ok (.getfield 150, 3) := by decide +kernel
theorem dX12_linkedTo_16 : decode cX12_linkedTo 16 = .ok (.iconst 1, 1) := by decide +kernel
theorem dX12_linkedTo_17 : decode cX12_linkedTo 17 = .ok (.if_icmp .ne 54, 3) := by decide +kernel
theorem dX12_linkedTo_20 : decode cX12_linkedTo 20 = .ok (.aload_n 0, 1) := by decide +kernel
theorem dX12_linkedTo_21 : decode cX12_linkedTo 21 = .ok (.getfield 188, 3) := by decide +kernel
theorem dX12_linkedTo_24 : decode cX12_linkedTo 24 = .ok (.iload_n 3, 1) := by decide +kernel
theorem dX12_linkedTo_25 : decode cX12_linkedTo 25 = .ok (.invokestatic 191, 3) := by decide +kernel
theorem dX12_linkedTo_28 : decode cX12_linkedTo 28 = .ok (.ifCond .eq 37, 3) := by decide +kernel
theorem dX12_linkedTo_31 : decode cX12_linkedTo 31 = .ok (.aload_n 0, 1) := by decide +kernel
theorem dX12_linkedTo_32 : decode cX12_linkedTo 32 = .ok (.getfield 35, 3) := by decide +kernel
theorem dX12_linkedTo_35 : decode cX12_linkedTo 35 = .ok (.iload_n 3, 1) := by decide +kernel
theorem dX12_linkedTo_36 : decode cX12_linkedTo 36 = .ok (.iaload, 1) := by decide +kernel
theorem dX12_linkedTo_37 : decode cX12_linkedTo 37 = .ok (.ifCond .le 28, 3) := by decide +kernel
theorem dX12_linkedTo_40 : decode cX12_linkedTo 40 = .ok (.iload_n 2, 1) := by decide +kernel
theorem dX12_linkedTo_41 : decode cX12_linkedTo 41 = .ok (.ifCond .eq 13, 3) := by decide +kernel
theorem dX12_linkedTo_44 : decode cX12_linkedTo 44 = .ok (.aload_n 0, 1) := by decide +kernel
theorem dX12_linkedTo_45 : decode cX12_linkedTo 45 = .ok (.getfield 35, 3) := by decide +kernel
theorem dX12_linkedTo_48 : decode cX12_linkedTo 48 = .ok (.iload_n 3, 1) := by decide +kernel
theorem dX12_linkedTo_49 : decode cX12_linkedTo 49 = .ok (.iaload, 1) := by decide +kernel
theorem dX12_linkedTo_50 : decode cX12_linkedTo 50 = .ok (.iload_n 2, 1) := by decide +kernel
theorem dX12_linkedTo_51 : decode cX12_linkedTo 51 = .ok (.if_icmp .ge 12, 3) := by decide +kernel
theorem dX12_linkedTo_54 : decode cX12_linkedTo 54 = .ok (.aload_n 0, 1) := by decide +kernel
theorem dX12_linkedTo_55 : decode cX12_linkedTo 55 = .ok (.getfield 35, 3) := by decide +kernel
theorem dX12_linkedTo_58 : decode cX12_linkedTo 58 = .ok (.iload_n 3, 1) := by decide +kernel
theorem dX12_linkedTo_59 : decode cX12_linkedTo 59 = .ok (.iaload, 1) := by decide +kernel
theorem dX12_linkedTo_60 : decode cX12_linkedTo 60 = .ok (.goto 4, 3) := by decide +kernel
theorem dX12_linkedTo_63 : decode cX12_linkedTo 63 = .ok (.iload_n 2, 1) := by decide +kernel
theorem dX12_linkedTo_64 : decode cX12_linkedTo 64 = .ok (.istore_n 2, 1) := by decide +kernel
theorem dX12_linkedTo_65 : decode cX12_linkedTo 65 = .ok (.iinc 3 1, 3) := by decide +kernel
theorem dX12_linkedTo_68 : decode cX12_linkedTo 68 = .ok (.goto (-64), 3) := by decide +kernel
theorem dX12_linkedTo_71 : decode cX12_linkedTo 71 = .ok (.iload_n 1, 1) := by decide +kernel
theorem dX12_linkedTo_72 : decode cX12_linkedTo 72 = .ok (.iload_n 2, 1) := by decide +kernel
theorem dX12_linkedTo_73 : decode cX12_linkedTo 73 = .ok (.if_icmp .ge 7, 3) := by decide +kernel
theorem dX12_linkedTo_76 : decode cX12_linkedTo 76 = .ok (.iload_n 2, 1) := by decide +kernel
theorem dX12_linkedTo_77 : decode cX12_linkedTo 77 = .ok (.goto 4, 3) := by decide +kernel
theorem dX12_linkedTo_80 : decode cX12_linkedTo 80 = .ok (.iload_n 1, 1) := by decide +kernel
theorem dX12_linkedTo_81 : decode cX12_linkedTo 81 = .ok (.ireturn, 1) := by decide +kernel
theorem dX12_givesOf_0 : decode cX12_givesOf 0 = .ok (.aload_n 0, 1) := by decide +kernel
theorem dX12_givesOf_1 : decode cX12_givesOf 1 = .ok (.iload_n 1, 1) := by decide +kernel
theorem dX12_givesOf_2 : decode cX12_givesOf 2 = .ok (.iconst 0, 1) := by decide +kernel
theorem dX12_givesOf_3 : decode cX12_givesOf 3 = .ok (.invokevirtual 163, 3) := by decide +kernel
theorem dX12_givesOf_6 : decode cX12_givesOf 6 = .ok (.iconst 5, 1) := by decide +kernel
theorem dX12_givesOf_7 : decode cX12_givesOf 7 = .ok (.if_icmp .ne 10, 3) := by decide +kernel
theorem dX12_givesOf_10 : decode cX12_givesOf 10 = .ok (.aload_n 0, 1) := by decide +kernel
theorem dX12_givesOf_11 : decode cX12_givesOf 11 = .ok (.getfield 150, 3) := by decide +kernel
theorem dX12_givesOf_14 : decode cX12_givesOf 14 = .ok (.goto 16, 3) := by decide +kernel
theorem dX12_givesOf_17 : decode cX12_givesOf 17 = .ok (.aload_n 0, 1) := by decide +kernel
theorem dX12_givesOf_18 : decode cX12_givesOf 18 = .ok (.aload_n 0, 1) := by decide +kernel
theorem dX12_givesOf_19 : decode cX12_givesOf 19 = .ok (.aload_n 0, 1) := by decide +kernel
theorem dX12_givesOf_20 : decode cX12_givesOf 20 = .ok (.iload_n 1, 1) := by decide +kernel
theorem dX12_givesOf_21 : decode cX12_givesOf 21 = .ok (.invokevirtual 179, 3) := by decide +kernel
theorem dX12_givesOf_24 : decode cX12_givesOf 24 = .ok (.invokevirtual 182, 3) := by decide +kernel
theorem dX12_givesOf_27 : decode cX12_givesOf 27 = .ok (.invokevirtual 185, 3) := by decide +kernel
theorem dX12_givesOf_30 : decode cX12_givesOf 30 = .ok (.ireturn, 1) := by decide +kernel
theorem dX12_countWords_0 : decode cX12_countWords 0 = .ok (.aload_n 0, 1) := by decide +kernel
theorem dX12_countWords_1 : decode cX12_countWords 1 = .ok (.bipush (-9), 2) := by decide +kernel
theorem dX12_countWords_3 : decode cX12_countWords 3 = .ok (.putfield 194, 3) := by decide +kernel
theorem dX12_countWords_6 : decode cX12_countWords 6 = .ok (.aload_n 0, 1) := by decide +kernel
theorem dX12_countWords_7 : decode cX12_countWords 7 = .ok (.iconst 0, 1) := by decide +kernel
theorem dX12_countWords_8 : decode cX12_countWords 8 = .ok (.putfield 197, 3) := by decide +kernel
theorem dX12_countWords_11 : decode cX12_countWords 11 = .ok (.iconst 0, 1) := by decide +kernel
theorem dX12_countWords_12 : decode cX12_countWords 12 = .ok (.istore_n 1, 1) := by decide +kernel
theorem dX12_countWords_13 : decode cX12_countWords 13 = .ok (.iload_n 1, 1) := by decide +kernel
theorem dX12_countWords_14 : decode cX12_countWords 14 = .ok (.bipush 9, 2) := by decide +kernel
theorem dX12_countWords_16 : decode cX12_countWords 16 = .ok (.if_icmp .gt 96, 3) := by decide +kernel
theorem dX12_countWords_19 : decode cX12_countWords 19 = .ok (.iconst 0, 1) := by decide +kernel
theorem dX12_countWords_20 : decode cX12_countWords 20 = .ok (.istore_n 2, 1) := by decide +kernel
theorem dX12_countWords_21 : decode cX12_countWords 21 = .ok (.iconst 0, 1) := by decide +kernel
theorem dX12_countWords_22 : decode cX12_countWords 22 = .ok (.istore_n 3, 1) := by decide +kernel
theorem dX12_countWords_23 : decode cX12_countWords 23 = .ok (.iload_n 3, 1) := by decide +kernel
theorem dX12_countWords_24 : decode cX12_countWords 24 = .ok (.aload_n 0, 1) := by decide +kernel
theorem dX12_countWords_25 : decode cX12_countWords 25 = .ok (.getfield 141, 3) := by decide +kernel
theorem dX12_countWords_28 : decode cX12_countWords 28 = .ok (.if_icmp .ge 38, 3) := by decide +kernel
theorem dX12_countWords_31 : decode cX12_countWords 31 = .ok (.iload_n 2, 1) := by decide +kernel
theorem dX12_countWords_32 : decode cX12_countWords 32 = .ok (.aload_n 0, 1) := by decide +kernel
theorem dX12_countWords_33 : decode cX12_countWords 33 = .ok (.getfield 188, 3) := by decide +kernel
theorem dX12_countWords_36 : decode cX12_countWords 36 = .ok (.iload_n 3, 1) := by decide +kernel
theorem dX12_countWords_37 : decode cX12_countWords 37 = .ok (.invokestatic 191, 3) := by decide +kernel
theorem dX12_countWords_40 : decode cX12_countWords 40 = .ok (.ifCond .eq 17, 3) := by decide +kernel
theorem dX12_countWords_43 : decode cX12_countWords 43 = .ok (.aload_n 0, 1) := by decide +kernel
theorem dX12_countWords_44 : decode cX12_countWords 44 = .ok (.getfield 38, 3) := by decide +kernel
theorem dX12_countWords_47 : decode cX12_countWords 47 = .ok (.iload_n 3, 1) := by decide +kernel
theorem dX12_countWords_48 : decode cX12_countWords 48 = .ok (.iaload, 1) := by decide +kernel
theorem dX12_countWords_49 : decode cX12_countWords 49 = .ok (.iload_n 1, 1) := by decide +kernel
theorem dX12_countWords_50 : decode cX12_countWords 50 = .ok (.if_icmp .ne 7, 3) := by decide +kernel
theorem dX12_countWords_53 : decode cX12_countWords 53 = .ok (.iconst 1, 1) := by decide +kernel
theorem dX12_countWords_54 : decode cX12_countWords 54 = .ok (.goto 4, 3) := by decide +kernel
theorem dX12_countWords_57 : decode cX12_countWords 57 = .ok (.iconst 0, 1) := by decide +kernel
theorem dX12_countWords_58 : decode cX12_countWords 58 = .ok (.iadd, 1) := by decide +kernel
theorem dX12_countWords_59 : decode cX12_countWords 59 = .ok (.istore_n 2, 1) := by decide +kernel
theorem dX12_countWords_60 : decode cX12_countWords 60 = .ok (.iinc 3 1, 3) := by decide +kernel
theorem dX12_countWords_63 : decode cX12_countWords 63 = .ok (.goto (-40), 3) := by decide +kernel
theorem dX12_countWords_66 : decode cX12_countWords 66 = .ok (.aload_n 0, 1) := by decide +kernel
theorem dX12_countWords_67 : decode cX12_countWords 67 = .ok (.iload_n 2, 1) := by decide +kernel
theorem dX12_countWords_68 : decode cX12_countWords 68 = .ok (.aload_n 0, 1) := by decide +kernel
theorem dX12_countWords_69 : decode cX12_countWords 69 = .ok (.getfield 197, 3) := by decide +kernel
theorem dX12_countWords_72 : decode cX12_countWords 72 = .ok (.if_icmp .le 7, 3) := by decide +kernel
theorem dX12_countWords_75 : decode cX12_countWords 75 = .ok (.iload_n 1, 1) := by decide +kernel
theorem dX12_countWords_76 : decode cX12_countWords 76 = .ok (.goto 7, 3) := by decide +kernel
theorem dX12_countWords_79 : decode cX12_countWords 79 = .ok (.aload_n 0, 1) := by decide +kernel
theorem dX12_countWords_80 : decode cX12_countWords 80 = .ok (.getfield 194, 3) := by decide +kernel
theorem dX12_countWords_83 : decode cX12_countWords 83 = .ok (.putfield 194, 3) := by decide +kernel
theorem dX12_countWords_86 : decode cX12_countWords 86 = .ok (.aload_n 0, 1) := by decide +kernel
theorem dX12_countWords_87 : decode cX12_countWords 87 = .ok (.iload_n 2, 1) := by decide +kernel
theorem dX12_countWords_88 : decode cX12_countWords 88 = .ok (.aload_n 0, 1) := by decide +kernel
theorem dX12_countWords_89 : decode cX12_countWords 89 = .ok (.getfield 197, 3) := by decide +kernel
theorem dX12_countWords_92 : decode cX12_countWords 92 = .ok (.if_icmp .le 7, 3) := by decide +kernel
theorem dX12_countWords_95 : decode cX12_countWords 95 = .ok (.iload_n 2, 1) := by decide +kernel
theorem dX12_countWords_96 : decode cX12_countWords 96 = .ok (.goto 7, 3) := by decide +kernel
theorem dX12_countWords_99 : decode cX12_countWords 99 = .ok (.aload_n 0, 1) := by decide +kernel
theorem dX12_countWords_100 : decode cX12_countWords 100 = .ok (.getfield 197, 3) := by decide +kernel
theorem dX12_countWords_103 : decode cX12_countWords 103 = .ok (.putfield 197, 3) := by decide +kernel
theorem dX12_countWords_106 : decode cX12_countWords 106 = .ok (.iinc 1 1, 3) := by decide +kernel
theorem dX12_countWords_109 : decode cX12_countWords 109 = .ok (.goto (-96), 3) := by decide +kernel
theorem dX12_countWords_112 : decode cX12_countWords 112 = .ok (.return_, 1) := by decide +kernel
theorem dX12_wordOf_0 : decode cX12_wordOf 0 = .ok (.aload_n 0, 1) := by decide +kernel
theorem dX12_wordOf_1 : decode cX12_wordOf 1 = .ok (.invokevirtual 200, 3) := by decide +kernel
theorem dX12_wordOf_4 : decode cX12_wordOf 4 = .ok (.aload_n 0, 1) := by decide +kernel
theorem dX12_wordOf_5 : decode cX12_wordOf 5 = .ok (.iload_n 1, 1) := by decide +kernel
theorem dX12_wordOf_6 : decode cX12_wordOf 6 = .ok (.iconst 4, 1) := by decide +kernel
theorem dX12_wordOf_7 : decode cX12_wordOf 7 = .ok (.invokevirtual 166, 3) := by decide +kernel
theorem dX12_wordOf_10 : decode cX12_wordOf 10 = .ok (.ifCond .eq 19, 3) := by decide +kernel
theorem dX12_wordOf_13 : decode cX12_wordOf 13 = .ok (.aload_n 0, 1) := by decide +kernel
theorem dX12_wordOf_14 : decode cX12_wordOf 14 = .ok (.getfield 194, 3) := by decide +kernel
theorem dX12_wordOf_17 : decode cX12_wordOf 17 = .ok (.bipush (-9), 2) := by decide +kernel
theorem dX12_wordOf_19 : decode cX12_wordOf 19 = .ok (.if_icmp .eq 10, 3) := by decide +kernel
theorem dX12_wordOf_22 : decode cX12_wordOf 22 = .ok (.aload_n 0, 1) := by decide +kernel
theorem dX12_wordOf_23 : decode cX12_wordOf 23 = .ok (.getfield 194, 3) := by decide +kernel
theorem dX12_wordOf_26 : decode cX12_wordOf 26 = .ok (.goto 9, 3) := by decide +kernel
theorem dX12_wordOf_29 : decode cX12_wordOf 29 = .ok (.aload_n 0, 1) := by decide +kernel
theorem dX12_wordOf_30 : decode cX12_wordOf 30 = .ok (.iload_n 1, 1) := by decide +kernel
theorem dX12_wordOf_31 : decode cX12_wordOf 31 = .ok (.iconst 3, 1) := by decide +kernel
theorem dX12_wordOf_32 : decode cX12_wordOf 32 = .ok (.invokevirtual 163, 3) := by decide +kernel
theorem dX12_wordOf_35 : decode cX12_wordOf 35 = .ok (.ireturn, 1) := by decide +kernel
theorem dX12_puts_0 : decode cX12_puts 0 = .ok (.aload_n 0, 1) := by decide +kernel
theorem dX12_puts_1 : decode cX12_puts 1 = .ok (.iload_n 1, 1) := by decide +kernel
theorem dX12_puts_2 : decode cX12_puts 2 = .ok (.invokevirtual 203, 3) := by decide +kernel
theorem dX12_puts_5 : decode cX12_puts 5 = .ok (.istore_n 2, 1) := by decide +kernel
theorem dX12_puts_6 : decode cX12_puts 6 = .ok (.aload_n 0, 1) := by decide +kernel
theorem dX12_puts_7 : decode cX12_puts 7 = .ok (.iload_n 1, 1) := by decide +kernel
theorem dX12_puts_8 : decode cX12_puts 8 = .ok (.invokevirtual 176, 3) := by decide +kernel
theorem dX12_puts_11 : decode cX12_puts 11 = .ok (.istore_n 3, 1) := by decide +kernel
theorem dX12_puts_12 : decode cX12_puts 12 = .ok (.aload_n 0, 1) := by decide +kernel
theorem dX12_puts_13 : decode cX12_puts 13 = .ok (.getfield 35, 3) := by decide +kernel
theorem dX12_puts_16 : decode cX12_puts 16 = .ok (.iload_n 1, 1) := by decide +kernel
theorem dX12_puts_17 : decode cX12_puts 17 = .ok (.iload_n 2, 1) := by decide +kernel
theorem dX12_puts_18 : decode cX12_puts 18 = .ok (.iastore, 1) := by decide +kernel
theorem dX12_puts_19 : decode cX12_puts 19 = .ok (.aload_n 0, 1) := by decide +kernel
theorem dX12_puts_20 : decode cX12_puts 20 = .ok (.getfield 38, 3) := by decide +kernel
theorem dX12_puts_23 : decode cX12_puts 23 = .ok (.iload_n 1, 1) := by decide +kernel
theorem dX12_puts_24 : decode cX12_puts 24 = .ok (.iload_n 3, 1) := by decide +kernel
theorem dX12_puts_25 : decode cX12_puts 25 = .ok (.iastore, 1) := by decide +kernel
theorem dX12_puts_26 : decode cX12_puts 26 = .ok (.aload_n 0, 1) := by decide +kernel
theorem dX12_puts_27 : decode cX12_puts 27 = .ok (.getfield 41, 3) := by decide +kernel
theorem dX12_puts_30 : decode cX12_puts 30 = .ok (.iload_n 1, 1) := by decide +kernel
theorem dX12_puts_31 : decode cX12_puts 31 = .ok (.aload_n 0, 1) := by decide +kernel
theorem dX12_puts_32 : decode cX12_puts 32 = .ok (.getfield 170, 3) := by decide +kernel
theorem dX12_puts_35 : decode cX12_puts 35 = .ok (.iastore, 1) := by decide +kernel
theorem dX12_puts_36 : decode cX12_puts 36 = .ok (.aload_n 0, 1) := by decide +kernel
theorem dX12_puts_37 : decode cX12_puts 37 = .ok (.dup, 1) := by decide +kernel
theorem dX12_puts_38 : decode cX12_puts 38 = .ok (.getfield 188, 3) := by decide +kernel
theorem dX12_puts_41 : decode cX12_puts 41 = .ok (.iconst 1, 1) := by decide +kernel
theorem dX12_puts_42 : decode cX12_puts 42 = .ok (.iload_n 1, 1) := by decide +kernel
theorem dX12_puts_43 : decode cX12_puts 43 = .ok (.ishl, 1) := by decide +kernel
theorem dX12_puts_44 : decode cX12_puts 44 = .ok (.ior, 1) := by decide +kernel
theorem dX12_puts_45 : decode cX12_puts 45 = .ok (.putfield 188, 3) := by decide +kernel
theorem dX12_puts_48 : decode cX12_puts 48 = .ok (.return_, 1) := by decide +kernel
theorem dX12_putAside_0 : decode cX12_putAside 0 = .ok (.aload_n 0, 1) := by decide +kernel
theorem dX12_putAside_1 : decode cX12_putAside 1 = .ok (.getfield 44, 3) := by decide +kernel
theorem dX12_putAside_4 : decode cX12_putAside 4 = .ok (.bipush 27, 2) := by decide +kernel
theorem dX12_putAside_6 : decode cX12_putAside 6 = .ok (.aload_n 0, 1) := by decide +kernel
theorem dX12_putAside_7 : decode cX12_putAside 7 = .ok (.getfield 188, 3) := by decide +kernel
theorem dX12_putAside_10 : decode cX12_putAside 10 = .ok (.iastore, 1) := by decide +kernel
theorem dX12_putAside_11 : decode cX12_putAside 11 = .ok (.iconst 0, 1) := by decide +kernel
theorem dX12_putAside_12 : decode cX12_putAside 12 = .ok (.istore_n 1, 1) := by decide +kernel
theorem dX12_putAside_13 : decode cX12_putAside 13 = .ok (.iload_n 1, 1) := by decide +kernel
theorem dX12_putAside_14 : decode cX12_putAside 14 = .ok (.bipush 9, 2) := by decide +kernel
theorem dX12_putAside_16 : decode cX12_putAside 16 = .ok (.if_icmp .ge 51, 3) := by decide +kernel
theorem dX12_putAside_19 : decode cX12_putAside 19 = .ok (.aload_n 0, 1) := by decide +kernel
theorem dX12_putAside_20 : decode cX12_putAside 20 = .ok (.getfield 44, 3) := by decide +kernel
theorem dX12_putAside_23 : decode cX12_putAside 23 = .ok (.iload_n 1, 1) := by decide +kernel
theorem dX12_putAside_24 : decode cX12_putAside 24 = .ok (.aload_n 0, 1) := by decide +kernel
theorem dX12_putAside_25 : decode cX12_putAside 25 = .ok (.getfield 35, 3) := by decide +kernel
theorem dX12_putAside_28 : decode cX12_putAside 28 = .ok (.iload_n 1, 1) := by decide +kernel
theorem dX12_putAside_29 : decode cX12_putAside 29 = .ok (.iaload, 1) := by decide +kernel
theorem dX12_putAside_30 : decode cX12_putAside 30 = .ok (.iastore, 1) := by decide +kernel
theorem dX12_putAside_31 : decode cX12_putAside 31 = .ok (.aload_n 0, 1) := by decide +kernel
theorem dX12_putAside_32 : decode cX12_putAside 32 = .ok (.getfield 44, 3) := by decide +kernel
theorem dX12_putAside_35 : decode cX12_putAside 35 = .ok (.bipush 9, 2) := by decide +kernel
theorem dX12_putAside_37 : decode cX12_putAside 37 = .ok (.iload_n 1, 1) := by decide +kernel
theorem dX12_putAside_38 : decode cX12_putAside 38 = .ok (.iadd, 1) := by decide +kernel
theorem dX12_putAside_39 : decode cX12_putAside 39 = .ok (.aload_n 0, 1) := by decide +kernel
theorem dX12_putAside_40 : decode cX12_putAside 40 = .ok (.getfield 38, 3) := by decide +kernel
theorem dX12_putAside_43 : decode cX12_putAside 43 = .ok (.iload_n 1, 1) := by decide +kernel
theorem dX12_putAside_44 : decode cX12_putAside 44 = .ok (.iaload, 1) := by decide +kernel
theorem dX12_putAside_45 : decode cX12_putAside 45 = .ok (.iastore, 1) := by decide +kernel
theorem dX12_putAside_46 : decode cX12_putAside 46 = .ok (.aload_n 0, 1) := by decide +kernel
theorem dX12_putAside_47 : decode cX12_putAside 47 = .ok (.getfield 44, 3) := by decide +kernel
theorem dX12_putAside_50 : decode cX12_putAside 50 = .ok (.bipush 18, 2) := by decide +kernel
theorem dX12_putAside_52 : decode cX12_putAside 52 = .ok (.iload_n 1, 1) := by decide +kernel
theorem dX12_putAside_53 : decode cX12_putAside 53 = .ok (.iadd, 1) := by decide +kernel
theorem dX12_putAside_54 : decode cX12_putAside 54 = .ok (.aload_n 0, 1) := by decide +kernel
theorem dX12_putAside_55 : decode cX12_putAside 55 = .ok (.getfield 41, 3) := by decide +kernel
theorem dX12_putAside_58 : decode cX12_putAside 58 = .ok (.iload_n 1, 1) := by decide +kernel
theorem dX12_putAside_59 : decode cX12_putAside 59 = .ok (.iaload, 1) := by decide +kernel
theorem dX12_putAside_60 : decode cX12_putAside 60 = .ok (.iastore, 1) := by decide +kernel
theorem dX12_putAside_61 : decode cX12_putAside 61 = .ok (.iinc 1 1, 3) := by decide +kernel
theorem dX12_putAside_64 : decode cX12_putAside 64 = .ok (.goto (-51), 3) := by decide +kernel
theorem dX12_putAside_67 : decode cX12_putAside 67 = .ok (.return_, 1) := by decide +kernel
theorem dX12_comeBack_0 : decode cX12_comeBack 0 = .ok (.aload_n 0, 1) := by decide +kernel
theorem dX12_comeBack_1 : decode cX12_comeBack 1 = .ok (.aload_n 0, 1) := by decide +kernel
theorem dX12_comeBack_2 : decode cX12_comeBack 2 = .ok (.getfield 44, 3) := by decide +kernel
theorem dX12_comeBack_5 : decode cX12_comeBack 5 = .ok (.bipush 27, 2) := by decide +kernel
theorem dX12_comeBack_7 : decode cX12_comeBack 7 = .ok (.iaload, 1) := by decide +kernel
theorem dX12_comeBack_8 : decode cX12_comeBack 8 = .ok (.putfield 188, 3) := by decide +kernel
theorem dX12_comeBack_11 : decode cX12_comeBack 11 = .ok (.iconst 0, 1) := by decide +kernel
theorem dX12_comeBack_12 : decode cX12_comeBack 12 = .ok (.istore_n 1, 1) := by decide +kernel
theorem dX12_comeBack_13 : decode cX12_comeBack 13 = .ok (.iload_n 1, 1) := by decide +kernel
theorem dX12_comeBack_14 : decode cX12_comeBack 14 = .ok (.bipush 9, 2) := by decide +kernel
theorem dX12_comeBack_16 : decode cX12_comeBack 16 = .ok (.if_icmp .ge 51, 3) := by decide +kernel
theorem dX12_comeBack_19 : decode cX12_comeBack 19 = .ok (.aload_n 0, 1) := by decide +kernel
theorem dX12_comeBack_20 : decode cX12_comeBack 20 = .ok (.getfield 35, 3) := by decide +kernel
theorem dX12_comeBack_23 : decode cX12_comeBack 23 = .ok (.iload_n 1, 1) := by decide +kernel
theorem dX12_comeBack_24 : decode cX12_comeBack 24 = .ok (.aload_n 0, 1) := by decide +kernel
theorem dX12_comeBack_25 : decode cX12_comeBack 25 = .ok (.getfield 44, 3) := by decide +kernel
theorem dX12_comeBack_28 : decode cX12_comeBack 28 = .ok (.iload_n 1, 1) := by decide +kernel
theorem dX12_comeBack_29 : decode cX12_comeBack 29 = .ok (.iaload, 1) := by decide +kernel
theorem dX12_comeBack_30 : decode cX12_comeBack 30 = .ok (.iastore, 1) := by decide +kernel
theorem dX12_comeBack_31 : decode cX12_comeBack 31 = .ok (.aload_n 0, 1) := by decide +kernel
theorem dX12_comeBack_32 : decode cX12_comeBack 32 = .ok (.getfield 38, 3) := by decide +kernel
theorem dX12_comeBack_35 : decode cX12_comeBack 35 = .ok (.iload_n 1, 1) := by decide +kernel
theorem dX12_comeBack_36 : decode cX12_comeBack 36 = .ok (.aload_n 0, 1) := by decide +kernel
theorem dX12_comeBack_37 : decode cX12_comeBack 37 = .ok (.getfield 44, 3) := by decide +kernel
theorem dX12_comeBack_40 : decode cX12_comeBack 40 = .ok (.bipush 9, 2) := by decide +kernel
theorem dX12_comeBack_42 : decode cX12_comeBack 42 = .ok (.iload_n 1, 1) := by decide +kernel
theorem dX12_comeBack_43 : decode cX12_comeBack 43 = .ok (.iadd, 1) := by decide +kernel
theorem dX12_comeBack_44 : decode cX12_comeBack 44 = .ok (.iaload, 1) := by decide +kernel
theorem dX12_comeBack_45 : decode cX12_comeBack 45 = .ok (.iastore, 1) := by decide +kernel
theorem dX12_comeBack_46 : decode cX12_comeBack 46 = .ok (.aload_n 0, 1) := by decide +kernel
theorem dX12_comeBack_47 : decode cX12_comeBack 47 = .ok (.getfield 41, 3) := by decide +kernel
theorem dX12_comeBack_50 : decode cX12_comeBack 50 = .ok (.iload_n 1, 1) := by decide +kernel
theorem dX12_comeBack_51 : decode cX12_comeBack 51 = .ok (.aload_n 0, 1) := by decide +kernel
theorem dX12_comeBack_52 : decode cX12_comeBack 52 = .ok (.getfield 44, 3) := by decide +kernel
theorem dX12_comeBack_55 : decode cX12_comeBack 55 = .ok (.bipush 18, 2) := by decide +kernel
theorem dX12_comeBack_57 : decode cX12_comeBack 57 = .ok (.iload_n 1, 1) := by decide +kernel
theorem dX12_comeBack_58 : decode cX12_comeBack 58 = .ok (.iadd, 1) := by decide +kernel
theorem dX12_comeBack_59 : decode cX12_comeBack 59 = .ok (.iaload, 1) := by decide +kernel
theorem dX12_comeBack_60 : decode cX12_comeBack 60 = .ok (.iastore, 1) := by decide +kernel
theorem dX12_comeBack_61 : decode cX12_comeBack 61 = .ok (.iinc 1 1, 3) := by decide +kernel
theorem dX12_comeBack_64 : decode cX12_comeBack 64 = .ok (.goto (-51), 3) := by decide +kernel
theorem dX12_comeBack_67 : decode cX12_comeBack 67 = .ok (.return_, 1) := by decide +kernel
theorem dX12_coinsNow_0 : decode cX12_coinsNow 0 = .ok (.iconst 0, 1) := by decide +kernel
theorem dX12_coinsNow_1 : decode cX12_coinsNow 1 = .ok (.istore_n 1, 1) := by decide +kernel
theorem dX12_coinsNow_2 : decode cX12_coinsNow 2 = .ok (.iconst 0, 1) := by decide +kernel
theorem dX12_coinsNow_3 : decode cX12_coinsNow 3 = .ok (.istore_n 2, 1) := by decide +kernel
theorem dX12_coinsNow_4 : decode cX12_coinsNow 4 = .ok (.iload_n 2, 1) := by decide +kernel
theorem dX12_coinsNow_5 : decode cX12_coinsNow 5 = .ok (.aload_n 0, 1) := by decide +kernel
theorem dX12_coinsNow_6 : decode cX12_coinsNow 6 = .ok (.getfield 141, 3) := by decide +kernel
theorem dX12_coinsNow_9 : decode cX12_coinsNow 9 = .ok (.if_icmp .ge 33, 3) := by decide +kernel
theorem dX12_coinsNow_12 : decode cX12_coinsNow 12 = .ok (.iload_n 1, 1) := by decide +kernel
theorem dX12_coinsNow_13 : decode cX12_coinsNow 13 = .ok (.aload_n 0, 1) := by decide +kernel
theorem dX12_coinsNow_14 : decode cX12_coinsNow 14 = .ok (.getfield 188, 3) := by decide +kernel
theorem dX12_coinsNow_17 : decode cX12_coinsNow 17 = .ok (.iload_n 2, 1) := by decide +kernel
theorem dX12_coinsNow_18 : decode cX12_coinsNow 18 = .ok (.invokestatic 191, 3) := by decide +kernel
theorem dX12_coinsNow_21 : decode cX12_coinsNow 21 = .ok (.ifCond .eq 12, 3) := by decide +kernel
theorem dX12_coinsNow_24 : decode cX12_coinsNow 24 = .ok (.aload_n 0, 1) := by decide +kernel
theorem dX12_coinsNow_25 : decode cX12_coinsNow 25 = .ok (.getfield 35, 3) := by decide +kernel
theorem dX12_coinsNow_28 : decode cX12_coinsNow 28 = .ok (.iload_n 2, 1) := by decide +kernel
theorem dX12_coinsNow_29 : decode cX12_coinsNow 29 = .ok (.iaload, 1) := by decide +kernel
theorem dX12_coinsNow_30 : decode cX12_coinsNow 30 = .ok (.goto 4, 3) := by decide +kernel
theorem dX12_coinsNow_33 : decode cX12_coinsNow 33 = .ok (.iconst 0, 1) := by decide +kernel
theorem dX12_coinsNow_34 : decode cX12_coinsNow 34 = .ok (.iadd, 1) := by decide +kernel
theorem dX12_coinsNow_35 : decode cX12_coinsNow 35 = .ok (.istore_n 1, 1) := by decide +kernel
theorem dX12_coinsNow_36 : decode cX12_coinsNow 36 = .ok (.iinc 2 1, 3) := by decide +kernel
theorem dX12_coinsNow_39 : decode cX12_coinsNow 39 = .ok (.goto (-35), 3) := by decide +kernel
theorem dX12_coinsNow_42 : decode cX12_coinsNow 42 = .ok (.iload_n 1, 1) := by decide +kernel
theorem dX12_coinsNow_43 : decode cX12_coinsNow 43 = .ok (.ireturn, 1) := by decide +kernel
theorem dX12_starts0_0 : decode cX12_starts0 0 = .ok (.aload_n 0, 1) := by decide +kernel
theorem dX12_starts0_1 : decode cX12_starts0 1 = .ok (.iconst 0, 1) := by decide +kernel
theorem dX12_starts0_2 : decode cX12_starts0 2 = .ok (.putfield 170, 3) := by decide +kernel
theorem dX12_starts0_5 : decode cX12_starts0 5 = .ok (.aload_n 0, 1) := by decide +kernel
theorem dX12_starts0_6 : decode cX12_starts0 6 = .ok (.iload_n 1, 1) := by decide +kernel
theorem dX12_starts0_7 : decode cX12_starts0 7 = .ok (.putfield 206, 3) := by decide +kernel
theorem dX12_starts0_10 : decode cX12_starts0 10 = .ok (.aload_n 0, 1) := by decide +kernel
theorem dX12_starts0_11 : decode cX12_starts0 11 = .ok (.iload_n 2, 1) := by decide +kernel
theorem dX12_starts0_12 : decode cX12_starts0 12 = .ok (.putfield 209, 3) := by decide +kernel
theorem dX12_starts0_15 : decode cX12_starts0 15 = .ok (.aload_n 0, 1) := by decide +kernel
theorem dX12_starts0_16 : decode cX12_starts0 16 = .ok (.iload_n 1, 1) := by decide +kernel
theorem dX12_starts0_17 : decode cX12_starts0 17 = .ok (.putfield 212, 3) := by decide +kernel
theorem dX12_starts0_20 : decode cX12_starts0 20 = .ok (.aload_n 0, 1) := by decide +kernel
theorem dX12_starts0_21 : decode cX12_starts0 21 = .ok (.iconst 0, 1) := by decide +kernel
theorem dX12_starts0_22 : decode cX12_starts0 22 = .ok (.putfield 215, 3) := by decide +kernel
theorem dX12_starts0_25 : decode cX12_starts0 25 = .ok (.aload_n 0, 1) := by decide +kernel
theorem dX12_starts0_26 : decode cX12_starts0 26 = .ok (.iconst 0, 1) := by decide +kernel
theorem dX12_starts0_27 : decode cX12_starts0 27 = .ok (.putfield 188, 3) := by decide +kernel
theorem dX12_starts0_30 : decode cX12_starts0 30 = .ok (.return_, 1) := by decide +kernel
theorem dX12_all_0 : decode cX12_all 0 = .ok (.iconst 1, 1) := by decide +kernel
theorem dX12_all_1 : decode cX12_all 1 = .ok (.aload_n 0, 1) := by decide +kernel
theorem dX12_all_2 : decode cX12_all 2 = .ok (.getfield 141, 3) := by decide +kernel
theorem dX12_all_5 : decode cX12_all 5 = .ok (.ishl, 1) := by decide +kernel
theorem dX12_all_6 : decode cX12_all 6 = .ok (.iconst 1, 1) := by decide +kernel
theorem dX12_all_7 : decode cX12_all 7 = .ok (.isub, 1) := by decide +kernel
theorem dX12_all_8 : decode cX12_all 8 = .ok (.ireturn, 1) := by decide +kernel
theorem dX12_nextOf_0 : decode cX12_nextOf 0 = .ok (.bipush (-9), 2) := by decide +kernel
theorem dX12_nextOf_2 : decode cX12_nextOf 2 = .ok (.istore 5, 2) := by decide +kernel
theorem dX12_nextOf_4 : decode cX12_nextOf 4 = .ok (.iconst 0, 1) := by decide +kernel
theorem dX12_nextOf_5 : decode cX12_nextOf 5 = .ok (.istore 6, 2) := by decide +kernel
theorem dX12_nextOf_7 : decode cX12_nextOf 7 = .ok (.iconst 0, 1) := by decide +kernel
theorem dX12_nextOf_8 : decode cX12_nextOf 8 = .ok (.istore 7, 2) := by decide +kernel
theorem dX12_nextOf_10 : decode cX12_nextOf 10 = .ok (.iload 7, 2) := by decide +kernel
theorem dX12_nextOf_12 : decode cX12_nextOf 12 = .ok (.aload_n 0, 1) := by decide +kernel
theorem dX12_nextOf_13 : decode cX12_nextOf 13 = .ok (.getfield 141, 3) := by decide +kernel
theorem dX12_nextOf_16 : decode cX12_nextOf 16 = .ok (.if_icmp .ge 106, 3) := by decide +kernel
theorem dX12_nextOf_19 : decode cX12_nextOf 19 = .ok (.iload_n 3, 1) := by decide +kernel
theorem dX12_nextOf_20 : decode cX12_nextOf 20 = .ok (.iload 7, 2) := by decide +kernel
theorem dX12_nextOf_22 : decode cX12_nextOf 22 = .ok (.invokestatic 191, 3) := by decide +kernel
theorem dX12_nextOf_25 : decode cX12_nextOf 25 = .ok (.ifCond .ne 91, 3) := by decide +kernel
theorem dX12_nextOf_28 : decode cX12_nextOf 28 = .ok (.aload_n 0, 1) := by decide +kernel
theorem dX12_nextOf_29 : decode cX12_nextOf 29 = .ok (.iload 7, 2) := by decide +kernel
theorem dX12_nextOf_31 : decode cX12_nextOf 31 = .ok (.iload 4, 2) := by decide +kernel
theorem dX12_nextOf_33 : decode cX12_nextOf 33 = .ok (.invokevirtual 173, 3) := by decide +kernel
theorem dX12_nextOf_36 : decode cX12_nextOf 36 = .ok (.ifCond .ne 80, 3) := by decide +kernel
theorem dX12_nextOf_39 : decode cX12_nextOf 39 = .ok (.iload 7, 2) := by decide +kernel
theorem dX12_nextOf_41 : decode cX12_nextOf 41 = .ok (.iload_n 1, 1) := by decide +kernel
theorem dX12_nextOf_42 : decode cX12_nextOf 42 = .ok (.if_icmp .le 10, 3) := by decide +kernel
theorem dX12_nextOf_45 : decode cX12_nextOf 45 = .ok (.iload 7, 2) := by decide +kernel
theorem dX12_nextOf_47 : decode cX12_nextOf 47 = .ok (.iload_n 1, 1) := by decide +kernel
theorem dX12_nextOf_48 : decode cX12_nextOf 48 = .ok (.isub, 1) := by decide +kernel
theorem dX12_nextOf_49 : decode cX12_nextOf 49 = .ok (.goto 7, 3) := by decide +kernel
theorem dX12_nextOf_52 : decode cX12_nextOf 52 = .ok (.iload_n 1, 1) := by decide +kernel
theorem dX12_nextOf_53 : decode cX12_nextOf 53 = .ok (.iload 7, 2) := by decide +kernel
theorem dX12_nextOf_55 : decode cX12_nextOf 55 = .ok (.isub, 1) := by decide +kernel
theorem dX12_nextOf_56 : decode cX12_nextOf 56 = .ok (.istore 8, 2) := by decide +kernel
theorem dX12_nextOf_58 : decode cX12_nextOf 58 = .ok (.iload_n 2, 1) := by decide +kernel
theorem dX12_nextOf_59 : decode cX12_nextOf 59 = .ok (.ifCond .ne 20, 3) := by decide +kernel
theorem dX12_nextOf_62 : decode cX12_nextOf 62 = .ok (.iload 7, 2) := by decide +kernel
theorem dX12_nextOf_64 : decode cX12_nextOf 64 = .ok (.iload_n 1, 1) := by decide +kernel
theorem dX12_nextOf_65 : decode cX12_nextOf 65 = .ok (.isub, 1) := by decide +kernel
theorem dX12_nextOf_66 : decode cX12_nextOf 66 = .ok (.aload_n 0, 1) := by decide +kernel
theorem dX12_nextOf_67 : decode cX12_nextOf 67 = .ok (.getfield 141, 3) := by decide +kernel
theorem dX12_nextOf_70 : decode cX12_nextOf 70 = .ok (.iadd, 1) := by decide +kernel
theorem dX12_nextOf_71 : decode cX12_nextOf 71 = .ok (.aload_n 0, 1) := by decide +kernel
theorem dX12_nextOf_72 : decode cX12_nextOf 72 = .ok (.getfield 141, 3) := by decide +kernel
theorem dX12_nextOf_75 : decode cX12_nextOf 75 = .ok (.irem, 1) := by decide +kernel
theorem dX12_nextOf_76 : decode cX12_nextOf 76 = .ok (.goto 16, 3) := by decide +kernel
theorem dX12_nextOf_79 : decode cX12_nextOf 79 = .ok (.iload_n 2, 1) := by decide +kernel
theorem dX12_nextOf_80 : decode cX12_nextOf 80 = .ok (.iconst 1, 1) := by decide +kernel
theorem dX12_nextOf_81 : decode cX12_nextOf 81 = .ok (.if_icmp .ne 8, 3) := by decide +kernel
theorem dX12_nextOf_84 : decode cX12_nextOf 84 = .ok (.iload 8, 2) := by decide +kernel
theorem dX12_nextOf_86 : decode cX12_nextOf 86 = .ok (.goto 6, 3) := by decide +kernel
theorem dX12_nextOf_89 : decode cX12_nextOf 89 = .ok (.iload 8, 2) := by decide +kernel
theorem dX12_nextOf_91 : decode cX12_nextOf 91 = .ok (.ineg, 1) := by decide +kernel
theorem dX12_nextOf_92 : decode cX12_nextOf 92 = .ok (.istore 9, 2) := by decide +kernel
theorem dX12_nextOf_94 : decode cX12_nextOf 94 = .ok (.iload 5, 2) := by decide +kernel
theorem dX12_nextOf_96 : decode cX12_nextOf 96 = .ok (.bipush (-9), 2) := by decide +kernel
theorem dX12_nextOf_98 : decode cX12_nextOf 98 = .ok (.if_icmp .eq 10, 3) := by decide +kernel
theorem dX12_nextOf_101 : decode cX12_nextOf 101 = .ok (.iload 9, 2) := by decide +kernel
theorem dX12_nextOf_103 : decode cX12_nextOf 103 = .ok (.iload 6, 2) := by decide +kernel
theorem dX12_nextOf_105 : decode cX12_nextOf 105 = .ok (.if_icmp .ge 11, 3) := by decide +kernel
theorem dX12_nextOf_108 : decode cX12_nextOf 108 = .ok (.iload 7, 2) := by decide +kernel
theorem dX12_nextOf_110 : decode cX12_nextOf 110 = .ok (.istore 5, 2) := by decide +kernel
theorem dX12_nextOf_112 : decode cX12_nextOf 112 = .ok (.iload 9, 2) := by decide +kernel
theorem dX12_nextOf_114 : decode cX12_nextOf 114 = .ok (.istore 6, 2) := by decide +kernel
theorem dX12_nextOf_116 : decode cX12_nextOf 116 = .ok (.iinc 7 1, 3) := by decide +kernel
theorem dX12_nextOf_119 : decode cX12_nextOf 119 = .ok (.goto (-109), 3) := by decide +kernel
theorem dX12_nextOf_122 : decode cX12_nextOf 122 = .ok (.iload 5, 2) := by decide +kernel
theorem dX12_nextOf_124 : decode cX12_nextOf 124 = .ok (.ireturn, 1) := by decide +kernel
theorem dX12_passHour_0 : decode cX12_passHour 0 = .ok (.aload_n 0, 1) := by decide +kernel
theorem dX12_passHour_1 : decode cX12_passHour 1 = .ok (.iload_n 1, 1) := by decide +kernel
theorem dX12_passHour_2 : decode cX12_passHour 2 = .ok (.putfield 219, 3) := by decide +kernel
theorem dX12_passHour_5 : decode cX12_passHour 5 = .ok (.aload_n 0, 1) := by decide +kernel
theorem dX12_passHour_6 : decode cX12_passHour 6 = .ok (.iload_n 2, 1) := by decide +kernel
theorem dX12_passHour_7 : decode cX12_passHour 7 = .ok (.putfield 222, 3) := by decide +kernel
theorem dX12_passHour_10 : decode cX12_passHour 10 = .ok (.aload_n 0, 1) := by decide +kernel
theorem dX12_passHour_11 : decode cX12_passHour 11 = .ok (.iconst 0, 1) := by decide +kernel
theorem dX12_passHour_12 : decode cX12_passHour 12 = .ok (.putfield 225, 3) := by decide +kernel
theorem dX12_passHour_15 : decode cX12_passHour 15 = .ok (.aload_n 0, 1) := by decide +kernel
theorem dX12_passHour_16 : decode cX12_passHour 16 = .ok (.iconst 0, 1) := by decide +kernel
theorem dX12_passHour_17 : decode cX12_passHour 17 = .ok (.putfield 228, 3) := by decide +kernel
theorem dX12_passHour_20 : decode cX12_passHour 20 = .ok (.iconst 1, 1) := by decide +kernel
theorem dX12_passHour_21 : decode cX12_passHour 21 = .ok (.istore 6, 2) := by decide +kernel
theorem dX12_passHour_23 : decode cX12_passHour 23 = .ok (.iload 6, 2) := by decide +kernel
theorem dX12_passHour_25 : decode cX12_passHour 25 = .ok (.ifCond .eq 190, 3) := by decide +kernel
theorem dX12_passHour_28 : decode cX12_passHour 28 = .ok (.aload_n 0, 1) := by decide +kernel
theorem dX12_passHour_29 : decode cX12_passHour 29 = .ok (.aload_n 0, 1) := by decide +kernel
theorem dX12_passHour_30 : decode cX12_passHour 30 = .ok (.getfield 219, 3) := by decide +kernel
theorem dX12_passHour_33 : decode cX12_passHour 33 = .ok (.iload 4, 2) := by decide +kernel
theorem dX12_passHour_35 : decode cX12_passHour 35 = .ok (.invokevirtual 173, 3) := by decide +kernel
theorem dX12_passHour_38 : decode cX12_passHour 38 = .ok (.ifCond .ne 177, 3) := by decide +kernel
theorem dX12_passHour_41 : decode cX12_passHour 41 = .ok (.aload_n 0, 1) := by decide +kernel
theorem dX12_passHour_42 : decode cX12_passHour 42 = .ok (.getfield 222, 3) := by decide +kernel
theorem dX12_passHour_45 : decode cX12_passHour 45 = .ok (.aload_n 0, 1) := by decide +kernel
theorem dX12_passHour_46 : decode cX12_passHour 46 = .ok (.getfield 219, 3) := by decide +kernel
theorem dX12_passHour_49 : decode cX12_passHour 49 = .ok (.invokestatic 191, 3) := by decide +kernel
theorem dX12_passHour_52 : decode cX12_passHour 52 = .ok (.ifCond .ne 31, 3) := by decide +kernel
theorem dX12_passHour_55 : decode cX12_passHour 55 = .ok (.aload_n 0, 1) := by decide +kernel
theorem dX12_passHour_56 : decode cX12_passHour 56 = .ok (.dup, 1) := by decide +kernel
theorem dX12_passHour_57 : decode cX12_passHour 57 = .ok (.getfield 222, 3) := by decide +kernel
theorem dX12_passHour_60 : decode cX12_passHour 60 = .ok (.iconst 1, 1) := by decide +kernel
theorem dX12_passHour_61 : decode cX12_passHour 61 = .ok (.aload_n 0, 1) := by decide +kernel
theorem dX12_passHour_62 : decode cX12_passHour 62 = .ok (.getfield 219, 3) := by decide +kernel
theorem dX12_passHour_65 : decode cX12_passHour 65 = .ok (.ishl, 1) := by decide +kernel
theorem dX12_passHour_66 : decode cX12_passHour 66 = .ok (.ior, 1) := by decide +kernel
theorem dX12_passHour_67 : decode cX12_passHour 67 = .ok (.putfield 222, 3) := by decide +kernel
theorem dX12_passHour_70 : decode cX12_passHour 70 = .ok (.iload 5, 2) := by decide +kernel
theorem dX12_passHour_72 : decode cX12_passHour 72 = .ok (.ifCond .eq 11, 3) := by decide +kernel
theorem dX12_passHour_75 : decode cX12_passHour 75 = .ok (.aload_n 0, 1) := by decide +kernel
theorem dX12_passHour_76 : decode cX12_passHour 76 = .ok (.aload_n 0, 1) := by decide +kernel
theorem dX12_passHour_77 : decode cX12_passHour 77 = .ok (.getfield 219, 3) := by decide +kernel
theorem dX12_passHour_80 : decode cX12_passHour 80 = .ok (.invokevirtual 231, 3) := by decide +kernel
theorem dX12_passHour_83 : decode cX12_passHour 83 = .ok (.aload_n 0, 1) := by decide +kernel
theorem dX12_passHour_84 : decode cX12_passHour 84 = .ok (.aload_n 0, 1) := by decide +kernel
theorem dX12_passHour_85 : decode cX12_passHour 85 = .ok (.getfield 219, 3) := by decide +kernel
theorem dX12_passHour_88 : decode cX12_passHour 88 = .ok (.iload_n 3, 1) := by decide +kernel
theorem dX12_passHour_89 : decode cX12_passHour 89 = .ok (.aload_n 0, 1) := by decide +kernel
theorem dX12_passHour_90 : decode cX12_passHour 90 = .ok (.getfield 222, 3) := by decide +kernel
theorem dX12_passHour_93 : decode cX12_passHour 93 = .ok (.iload 4, 2) := by decide +kernel
theorem dX12_passHour_95 : decode cX12_passHour 95 = .ok (.iconst 1, 1) := by decide +kernel
theorem dX12_passHour_96 : decode cX12_passHour 96 = .ok (.iadd, 1) := by decide +kernel
theorem dX12_passHour_97 : decode cX12_passHour 97 = .ok (.invokevirtual 235, 3) := by decide +kernel
theorem dX12_passHour_100 : decode cX12_passHour 100 = .ok (.istore 7, 2) := by decide +kernel
theorem dX12_passHour_102 : decode cX12_passHour 102 = .ok (.aload_n 0, 1) := by decide +kernel
theorem dX12_passHour_103 : decode cX12_passHour 103 = .ok (.getfield 222, 3) := by decide +kernel
theorem dX12_passHour_106 : decode cX12_passHour 106 = .ok (.aload_n 0, 1) := by decide +kernel
theorem dX12_passHour_107 : decode cX12_passHour 107 = .ok (.invokevirtual 239, 3) := by decide +kernel
theorem dX12_passHour_110 : decode cX12_passHour 110 = .ok (.if_icmp .ne 7, 3) := by decide +kernel
theorem dX12_passHour_113 : decode cX12_passHour 113 = .ok (.iconst 1, 1) := by decide +kernel
theorem dX12_passHour_114 : decode cX12_passHour 114 = .ok (.goto 4, 3) := by decide +kernel
theorem dX12_passHour_117 : decode cX12_passHour 117 = .ok (.iconst 0, 1) := by decide +kernel
theorem dX12_passHour_118 : decode cX12_passHour 118 = .ok (.istore 8, 2) := by decide +kernel
theorem dX12_passHour_120 : decode cX12_passHour 120 = .ok (.iload 7, 2) := by decide +kernel
theorem dX12_passHour_122 : decode cX12_passHour 122 = .ok (.bipush (-9), 2) := by decide +kernel
theorem dX12_passHour_124 : decode cX12_passHour 124 = .ok (.if_icmp .ne 9, 3) := by decide +kernel
theorem dX12_passHour_127 : decode cX12_passHour 127 = .ok (.iload 8, 2) := by decide +kernel
theorem dX12_passHour_129 : decode cX12_passHour 129 = .ok (.ifCond .ne 4, 3) := by decide +kernel
theorem dX12_passHour_132 : decode cX12_passHour 132 = .ok (.return_, 1) := by decide +kernel
theorem dX12_passHour_133 : decode cX12_passHour 133 = .ok (.aload_n 0, 1) := by decide +kernel
theorem dX12_passHour_134 : decode cX12_passHour 134 = .ok (.aload_n 0, 1) := by decide +kernel
theorem dX12_passHour_135 : decode cX12_passHour 135 = .ok (.getfield 219, 3) := by decide +kernel
theorem dX12_passHour_138 : decode cX12_passHour 138 = .ok (.iconst 0, 1) := by decide +kernel
theorem dX12_passHour_139 : decode cX12_passHour 139 = .ok (.invokevirtual 163, 3) := by decide +kernel
theorem dX12_passHour_142 : decode cX12_passHour 142 = .ok (.istore 9, 2) := by decide +kernel
theorem dX12_passHour_144 : decode cX12_passHour 144 = .ok (.iload 9, 2) := by decide +kernel
theorem dX12_passHour_146 : decode cX12_passHour 146 = .ok (.iconst 2, 1) := by decide +kernel
theorem dX12_passHour_147 : decode cX12_passHour 147 = .ok (.if_icmp .ne 23, 3) := by decide +kernel
theorem dX12_passHour_150 : decode cX12_passHour 150 = .ok (.aload_n 0, 1) := by decide +kernel
theorem dX12_passHour_151 : decode cX12_passHour 151 = .ok (.aload_n 0, 1) := by decide +kernel
theorem dX12_passHour_152 : decode cX12_passHour 152 = .ok (.aload_n 0, 1) := by decide +kernel
theorem dX12_passHour_153 : decode cX12_passHour 153 = .ok (.getfield 219, 3) := by decide +kernel
theorem dX12_passHour_156 : decode cX12_passHour 156 = .ok (.iconst 4, 1) := by decide +kernel
theorem dX12_passHour_157 : decode cX12_passHour 157 = .ok (.invokevirtual 163, 3) := by decide +kernel
theorem dX12_passHour_160 : decode cX12_passHour 160 = .ok (.putfield 228, 3) := by decide +kernel
theorem dX12_passHour_163 : decode cX12_passHour 163 = .ok (.aload_n 0, 1) := by decide +kernel
theorem dX12_passHour_164 : decode cX12_passHour 164 = .ok (.iload 7, 2) := by decide +kernel
theorem dX12_passHour_166 : decode cX12_passHour 166 = .ok (.putfield 243, 3) := by decide +kernel
theorem dX12_passHour_169 : decode cX12_passHour 169 = .ok (.return_, 1) := by decide +kernel
theorem dX12_passHour_170 : decode cX12_passHour 170 = .ok (.aload_n 0, 1) := by decide +kernel
theorem dX12_passHour_171 : decode cX12_passHour 171 = .ok (.iload 8, 2) := by decide +kernel
theorem dX12_passHour_173 : decode cX12_passHour 173 = .ok (.putfield 225, 3) := by decide +kernel
theorem dX12_passHour_176 : decode cX12_passHour 176 = .ok (.aload_n 0, 1) := by decide +kernel
theorem dX12_passHour_177 : decode cX12_passHour 177 = .ok (.iload 8, 2) := by decide +kernel
theorem dX12_passHour_179 : decode cX12_passHour 179 = .ok (.ifCond .eq 10, 3) := by decide +kernel
theorem dX12_passHour_182 : decode cX12_passHour 182 = .ok (.aload_n 0, 1) := by decide +kernel
theorem dX12_passHour_183 : decode cX12_passHour 183 = .ok (.getfield 206, 3) := by decide +kernel
theorem dX12_passHour_186 : decode cX12_passHour 186 = .ok (.goto 5, 3) := by decide +kernel
theorem dX12_passHour_189 : decode cX12_passHour 189 = .ok (.iload 7, 2) := by decide +kernel
theorem dX12_passHour_191 : decode cX12_passHour 191 = .ok (.putfield 219, 3) := by decide +kernel
theorem dX12_passHour_194 : decode cX12_passHour 194 = .ok (.iload 9, 2) := by decide +kernel
theorem dX12_passHour_196 : decode cX12_passHour 196 = .ok (.iconst 1, 1) := by decide +kernel
theorem dX12_passHour_197 : decode cX12_passHour 197 = .ok (.if_icmp .ne 12, 3) := by decide +kernel
theorem dX12_passHour_200 : decode cX12_passHour 200 = .ok (.iload 8, 2) := by decide +kernel
theorem dX12_passHour_202 : decode cX12_passHour 202 = .ok (.ifCond .ne 7, 3) := by decide +kernel
theorem dX12_passHour_205 : decode cX12_passHour 205 = .ok (.iconst 1, 1) := by decide +kernel
theorem dX12_passHour_206 : decode cX12_passHour 206 = .ok (.goto 4, 3) := by decide +kernel
theorem dX12_passHour_209 : decode cX12_passHour 209 = .ok (.iconst 0, 1) := by decide +kernel
theorem dX12_passHour_210 : decode cX12_passHour 210 = .ok (.istore 6, 2) := by decide +kernel
theorem dX12_passHour_212 : decode cX12_passHour 212 = .ok (.goto (-189), 3) := by decide +kernel
theorem dX12_passHour_215 : decode cX12_passHour 215 = .ok (.return_, 1) := by decide +kernel
theorem dX12_begin_0 : decode cX12_begin 0 = .ok (.aload_n 0, 1) := by decide +kernel
theorem dX12_begin_1 : decode cX12_begin 1 = .ok (.iload_n 1, 1) := by decide +kernel
theorem dX12_begin_2 : decode cX12_begin 2 = .ok (.invokevirtual 160, 3) := by decide +kernel
theorem dX12_begin_5 : decode cX12_begin 5 = .ok (.ifCond .eq 12, 3) := by decide +kernel
theorem dX12_begin_8 : decode cX12_begin 8 = .ok (.iload_n 2, 1) := by decide +kernel
theorem dX12_begin_9 : decode cX12_begin 9 = .ok (.iconst 0, 1) := by decide +kernel
theorem dX12_begin_10 : decode cX12_begin 10 = .ok (.iconst 2, 1) := by decide +kernel
theorem dX12_begin_11 : decode cX12_begin 11 = .ok (.invokestatic 88, 3) := by decide +kernel
theorem dX12_begin_14 : decode cX12_begin 14 = .ok (.ifCond .ne 5, 3) := by decide +kernel
theorem dX12_begin_17 : decode cX12_begin 17 = .ok (.iconst (-1), 1) := by decide +kernel
theorem dX12_begin_18 : decode cX12_begin 18 = .ok (.ireturn, 1) := by decide +kernel
theorem dX12_begin_19 : decode cX12_begin 19 = .ok (.aload_n 0, 1) := by decide +kernel
theorem dX12_begin_20 : decode cX12_begin 20 = .ok (.iload_n 1, 1) := by decide +kernel
theorem dX12_begin_21 : decode cX12_begin 21 = .ok (.iload_n 2, 1) := by decide +kernel
theorem dX12_begin_22 : decode cX12_begin 22 = .ok (.invokevirtual 153, 3) := by decide +kernel
theorem dX12_begin_25 : decode cX12_begin 25 = .ok (.aload_n 0, 1) := by decide +kernel
theorem dX12_begin_26 : decode cX12_begin 26 = .ok (.getfield 141, 3) := by decide +kernel
theorem dX12_begin_29 : decode cX12_begin 29 = .ok (.ireturn, 1) := by decide +kernel
theorem dX12_go_0 : decode cX12_go 0 = .ok (.iload_n 1, 1) := by decide +kernel
theorem dX12_go_1 : decode cX12_go 1 = .ok (.iconst 0, 1) := by decide +kernel
theorem dX12_go_2 : decode cX12_go 2 = .ok (.bipush 60, 2) := by decide +kernel
theorem dX12_go_4 : decode cX12_go 4 = .ok (.invokestatic 88, 3) := by decide +kernel
theorem dX12_go_7 : decode cX12_go 7 = .ok (.ifCond .eq 13, 3) := by decide +kernel
theorem dX12_go_10 : decode cX12_go 10 = .ok (.iload_n 2, 1) := by decide +kernel
theorem dX12_go_11 : decode cX12_go 11 = .ok (.iconst 1, 1) := by decide +kernel
theorem dX12_go_12 : decode cX12_go 12 = .ok (.ldc 246, 2) := by decide +kernel
theorem dX12_go_14 : decode cX12_go 14 = .ok (.invokestatic 88, 3) := by decide +kernel
theorem dX12_go_17 : decode cX12_go 17 = .ok (.ifCond .ne 5, 3) := by decide +kernel
theorem dX12_go_20 : decode cX12_go 20 = .ok (.iconst (-1), 1) := by decide +kernel
theorem dX12_go_21 : decode cX12_go 21 = .ok (.ireturn, 1) := by decide +kernel
theorem dX12_go_22 : decode cX12_go 22 = .ok (.aload_n 0, 1) := by decide +kernel
theorem dX12_go_23 : decode cX12_go 23 = .ok (.getfield 141, 3) := by decide +kernel
theorem dX12_go_26 : decode cX12_go 26 = .ok (.ifCond .ne 6, 3) := by decide +kernel
theorem dX12_go_29 : decode cX12_go 29 = .ok (.bipush (-4), 2) := by decide +kernel
theorem dX12_go_31 : decode cX12_go 31 = .ok (.ireturn, 1) := by decide +kernel
theorem dX12_go_32 : decode cX12_go 32 = .ok (.aload_n 0, 1) := by decide +kernel
theorem dX12_go_33 : decode cX12_go 33 = .ok (.getfield 170, 3) := by decide +kernel
theorem dX12_go_36 : decode cX12_go 36 = .ok (.iload_n 1, 1) := by decide +kernel
theorem dX12_go_37 : decode cX12_go 37 = .ok (.iadd, 1) := by decide +kernel
theorem dX12_go_38 : decode cX12_go 38 = .ok (.sipush 1000, 3) := by decide +kernel
theorem dX12_go_41 : decode cX12_go 41 = .ok (.if_icmp .le 6, 3) := by decide +kernel
theorem dX12_go_44 : decode cX12_go 44 = .ok (.bipush (-6), 2) := by decide +kernel
theorem dX12_go_46 : decode cX12_go 46 = .ok (.ireturn, 1) := by decide +kernel
theorem dX12_go_47 : decode cX12_go 47 = .ok (.iload_n 2, 1) := by decide +kernel
theorem dX12_go_48 : decode cX12_go 48 = .ok (.i2l, 1) := by decide +kernel
theorem dX12_go_49 : decode cX12_go 49 = .ok (.lstore_n 3, 1) := by decide +kernel
theorem dX12_go_50 : decode cX12_go 50 = .ok (.iconst 0, 1) := by decide +kernel
theorem dX12_go_51 : decode cX12_go 51 = .ok (.istore 5, 2) := by decide +kernel
theorem dX12_go_53 : decode cX12_go 53 = .ok (.iload 5, 2) := by decide +kernel
theorem dX12_go_55 : decode cX12_go 55 = .ok (.iload_n 1, 1) := by decide +kernel
theorem dX12_go_56 : decode cX12_go 56 = .ok (.if_icmp .ge 134, 3) := by decide +kernel
theorem dX12_go_59 : decode cX12_go 59 = .ok (.aload_n 0, 1) := by decide +kernel
theorem dX12_go_60 : decode cX12_go 60 = .ok (.getfield 215, 3) := by decide +kernel
theorem dX12_go_63 : decode cX12_go 63 = .ok (.ifCond .ne 111, 3) := by decide +kernel
theorem dX12_go_66 : decode cX12_go 66 = .ok (.aload_n 0, 1) := by decide +kernel
theorem dX12_go_67 : decode cX12_go 67 = .ok (.aload_n 0, 1) := by decide +kernel
theorem dX12_go_68 : decode cX12_go 68 = .ok (.getfield 212, 3) := by decide +kernel
theorem dX12_go_71 : decode cX12_go 71 = .ok (.aload_n 0, 1) := by decide +kernel
theorem dX12_go_72 : decode cX12_go 72 = .ok (.getfield 188, 3) := by decide +kernel
theorem dX12_go_75 : decode cX12_go 75 = .ok (.aload_n 0, 1) := by decide +kernel
theorem dX12_go_76 : decode cX12_go 76 = .ok (.getfield 209, 3) := by decide +kernel
theorem dX12_go_79 : decode cX12_go 79 = .ok (.aload_n 0, 1) := by decide +kernel
theorem dX12_go_80 : decode cX12_go 80 = .ok (.getfield 170, 3) := by decide +kernel
theorem dX12_go_83 : decode cX12_go 83 = .ok (.iconst 1, 1) := by decide +kernel
theorem dX12_go_84 : decode cX12_go 84 = .ok (.invokevirtual 247, 3) := by decide +kernel
theorem dX12_go_87 : decode cX12_go 87 = .ok (.aload_n 0, 1) := by decide +kernel
theorem dX12_go_88 : decode cX12_go 88 = .ok (.aload_n 0, 1) := by decide +kernel
theorem dX12_go_89 : decode cX12_go 89 = .ok (.getfield 219, 3) := by decide +kernel
theorem dX12_go_92 : decode cX12_go 92 = .ok (.putfield 212, 3) := by decide +kernel
theorem dX12_go_95 : decode cX12_go 95 = .ok (.aload_n 0, 1) := by decide +kernel
theorem dX12_go_96 : decode cX12_go 96 = .ok (.aload_n 0, 1) := by decide +kernel
theorem dX12_go_97 : decode cX12_go 97 = .ok (.getfield 225, 3) := by decide +kernel
theorem dX12_go_100 : decode cX12_go 100 = .ok (.putfield 215, 3) := by decide +kernel
theorem dX12_go_103 : decode cX12_go 103 = .ok (.aload_n 0, 1) := by decide +kernel
theorem dX12_go_104 : decode cX12_go 104 = .ok (.getfield 228, 3) := by decide +kernel
theorem dX12_go_107 : decode cX12_go 107 = .ok (.ifCond .le 67, 3) := by decide +kernel
theorem dX12_go_110 : decode cX12_go 110 = .ok (.ldc2_w 251, 3) := by decide +kernel
theorem dX12_go_113 : decode cX12_go 113 = .ok (.lload_n 3, 1) := by decide +kernel
theorem dX12_go_114 : decode cX12_go 114 = .ok (.lmul, 1) := by decide +kernel
theorem dX12_go_115 : decode cX12_go 115 = .ok (.ldc2_w 253, 3) := by decide +kernel
theorem dX12_go_118 : decode cX12_go 118 = .ok (.lrem, 1) := by decide +kernel
theorem dX12_go_119 : decode cX12_go 119 = .ok (.lstore_n 3, 1) := by decide +kernel
theorem dX12_go_120 : decode cX12_go 120 = .ok (.lload_n 3, 1) := by decide +kernel
theorem dX12_go_121 : decode cX12_go 121 = .ok (.ldc2_w 255, 3) := by decide +kernel
theorem dX12_go_124 : decode cX12_go 124 = .ok (.lrem, 1) := by decide +kernel
theorem dX12_go_125 : decode cX12_go 125 = .ok (.aload_n 0, 1) := by decide +kernel
theorem dX12_go_126 : decode cX12_go 126 = .ok (.getfield 228, 3) := by decide +kernel
theorem dX12_go_129 : decode cX12_go 129 = .ok (.i2l, 1) := by decide +kernel
theorem dX12_go_130 : decode cX12_go 130 = .ok (.lcmp, 1) := by decide +kernel
theorem dX12_go_131 : decode cX12_go 131 = .ok (.ifCond .ge 43, 3) := by decide +kernel
theorem dX12_go_134 : decode cX12_go 134 = .ok (.aload_n 0, 1) := by decide +kernel
theorem dX12_go_135 : decode cX12_go 135 = .ok (.aload_n 0, 1) := by decide +kernel
theorem dX12_go_136 : decode cX12_go 136 = .ok (.getfield 243, 3) := by decide +kernel
theorem dX12_go_139 : decode cX12_go 139 = .ok (.bipush (-9), 2) := by decide +kernel
theorem dX12_go_141 : decode cX12_go 141 = .ok (.if_icmp .ne 7, 3) := by decide +kernel
theorem dX12_go_144 : decode cX12_go 144 = .ok (.iconst 1, 1) := by decide +kernel
theorem dX12_go_145 : decode cX12_go 145 = .ok (.goto 4, 3) := by decide +kernel
theorem dX12_go_148 : decode cX12_go 148 = .ok (.iconst 0, 1) := by decide +kernel
theorem dX12_go_149 : decode cX12_go 149 = .ok (.putfield 215, 3) := by decide +kernel
theorem dX12_go_152 : decode cX12_go 152 = .ok (.aload_n 0, 1) := by decide +kernel
theorem dX12_go_153 : decode cX12_go 153 = .ok (.aload_n 0, 1) := by decide +kernel
theorem dX12_go_154 : decode cX12_go 154 = .ok (.getfield 215, 3) := by decide +kernel
theorem dX12_go_157 : decode cX12_go 157 = .ok (.ifCond .eq 10, 3) := by decide +kernel
theorem dX12_go_160 : decode cX12_go 160 = .ok (.aload_n 0, 1) := by decide +kernel
theorem dX12_go_161 : decode cX12_go 161 = .ok (.getfield 206, 3) := by decide +kernel
theorem dX12_go_164 : decode cX12_go 164 = .ok (.goto 7, 3) := by decide +kernel
theorem dX12_go_167 : decode cX12_go 167 = .ok (.aload_n 0, 1) := by decide +kernel
theorem dX12_go_168 : decode cX12_go 168 = .ok (.getfield 243, 3) := by decide +kernel
theorem dX12_go_171 : decode cX12_go 171 = .ok (.putfield 212, 3) := by decide +kernel
theorem dX12_go_174 : decode cX12_go 174 = .ok (.aload_n 0, 1) := by decide +kernel
theorem dX12_go_175 : decode cX12_go 175 = .ok (.dup, 1) := by decide +kernel
theorem dX12_go_176 : decode cX12_go 176 = .ok (.getfield 170, 3) := by decide +kernel
theorem dX12_go_179 : decode cX12_go 179 = .ok (.iconst 1, 1) := by decide +kernel
theorem dX12_go_180 : decode cX12_go 180 = .ok (.iadd, 1) := by decide +kernel
theorem dX12_go_181 : decode cX12_go 181 = .ok (.putfield 170, 3) := by decide +kernel
theorem dX12_go_184 : decode cX12_go 184 = .ok (.iinc 5 1, 3) := by decide +kernel
theorem dX12_go_187 : decode cX12_go 187 = .ok (.goto (-134), 3) := by decide +kernel
theorem dX12_go_190 : decode cX12_go 190 = .ok (.aload_n 0, 1) := by decide +kernel
theorem dX12_go_191 : decode cX12_go 191 = .ok (.getfield 170, 3) := by decide +kernel
theorem dX12_go_194 : decode cX12_go 194 = .ok (.ireturn, 1) := by decide +kernel
theorem dX12_where_0 : decode cX12_where 0 = .ok (.aload_n 0, 1) := by decide +kernel
theorem dX12_where_1 : decode cX12_where 1 = .ok (.getfield 141, 3) := by decide +kernel
theorem dX12_where_4 : decode cX12_where 4 = .ok (.ifCond .ne 8, 3) := by decide +kernel
theorem dX12_where_7 : decode cX12_where 7 = .ok (.bipush (-4), 2) := by decide +kernel
theorem dX12_where_9 : decode cX12_where 9 = .ok (.goto 23, 3) := by decide +kernel
theorem dX12_where_12 : decode cX12_where 12 = .ok (.aload_n 0, 1) := by decide +kernel
theorem dX12_where_13 : decode cX12_where 13 = .ok (.aload_n 0, 1) := by decide +kernel
theorem dX12_where_14 : decode cX12_where 14 = .ok (.getfield 215, 3) := by decide +kernel
theorem dX12_where_17 : decode cX12_where 17 = .ok (.ifCond .eq 7, 3) := by decide +kernel
theorem dX12_where_20 : decode cX12_where 20 = .ok (.iconst 1, 1) := by decide +kernel
theorem dX12_where_21 : decode cX12_where 21 = .ok (.goto 4, 3) := by decide +kernel
theorem dX12_where_24 : decode cX12_where 24 = .ok (.iconst 0, 1) := by decide +kernel
theorem dX12_where_25 : decode cX12_where 25 = .ok (.aload_n 0, 1) := by decide +kernel
theorem dX12_where_26 : decode cX12_where 26 = .ok (.getfield 212, 3) := by decide +kernel
theorem dX12_where_29 : decode cX12_where 29 = .ok (.invokevirtual 114, 3) := by decide +kernel
theorem dX12_where_32 : decode cX12_where 32 = .ok (.ireturn, 1) := by decide +kernel
theorem dX12_toldOf_0 : decode cX12_toldOf 0 = .ok (.aload_n 0, 1) := by decide +kernel
theorem dX12_toldOf_1 : decode cX12_toldOf 1 = .ok (.getfield 188, 3) := by decide +kernel
theorem dX12_toldOf_4 : decode cX12_toldOf 4 = .ok (.iload_n 1, 1) := by decide +kernel
theorem dX12_toldOf_5 : decode cX12_toldOf 5 = .ok (.invokestatic 191, 3) := by decide +kernel
theorem dX12_toldOf_8 : decode cX12_toldOf 8 = .ok (.istore_n 3, 1) := by decide +kernel
theorem dX12_toldOf_9 : decode cX12_toldOf 9 = .ok (.iload_n 2, 1) := by decide +kernel
theorem dX12_toldOf_10 : decode cX12_toldOf 10 = .ok (.ifCond .ne 15, 3) := by decide +kernel
theorem dX12_toldOf_13 : decode cX12_toldOf 13 = .ok (.iload_n 3, 1) := by decide +kernel
theorem dX12_toldOf_14 : decode cX12_toldOf 14 = .ok (.ifCond .eq 7, 3) := by decide +kernel
theorem dX12_toldOf_17 : decode cX12_toldOf 17 = .ok (.iconst 1, 1) := by decide +kernel
theorem dX12_toldOf_18 : decode cX12_toldOf 18 = .ok (.goto 50, 3) := by decide +kernel
theorem dX12_toldOf_21 : decode cX12_toldOf 21 = .ok (.iconst 0, 1) := by decide +kernel
theorem dX12_toldOf_22 : decode cX12_toldOf 22 = .ok (.goto 46, 3) := by decide +kernel
theorem dX12_toldOf_25 : decode cX12_toldOf 25 = .ok (.iload_n 3, 1) := by decide +kernel
theorem dX12_toldOf_26 : decode cX12_toldOf 26 = .ok (.ifCond .ne 8, 3) := by decide +kernel
theorem dX12_toldOf_29 : decode cX12_toldOf 29 = .ok (.bipush (-9), 2) := by decide +kernel
theorem dX12_toldOf_31 : decode cX12_toldOf 31 = .ok (.goto 37, 3) := by decide +kernel
theorem dX12_toldOf_34 : decode cX12_toldOf 34 = .ok (.iload_n 2, 1) := by decide +kernel
theorem dX12_toldOf_35 : decode cX12_toldOf 35 = .ok (.iconst 1, 1) := by decide +kernel
theorem dX12_toldOf_36 : decode cX12_toldOf 36 = .ok (.if_icmp .ne 12, 3) := by decide +kernel
theorem dX12_toldOf_39 : decode cX12_toldOf 39 = .ok (.aload_n 0, 1) := by decide +kernel
theorem dX12_toldOf_40 : decode cX12_toldOf 40 = .ok (.getfield 41, 3) := by decide +kernel
theorem dX12_toldOf_43 : decode cX12_toldOf 43 = .ok (.iload_n 1, 1) := by decide +kernel
theorem dX12_toldOf_44 : decode cX12_toldOf 44 = .ok (.iaload, 1) := by decide +kernel
theorem dX12_toldOf_45 : decode cX12_toldOf 45 = .ok (.goto 23, 3) := by decide +kernel
theorem dX12_toldOf_48 : decode cX12_toldOf 48 = .ok (.iload_n 2, 1) := by decide +kernel
theorem dX12_toldOf_49 : decode cX12_toldOf 49 = .ok (.iconst 2, 1) := by decide +kernel
theorem dX12_toldOf_50 : decode cX12_toldOf 50 = .ok (.if_icmp .ne 12, 3) := by decide +kernel
theorem dX12_toldOf_53 : decode cX12_toldOf 53 = .ok (.aload_n 0, 1) := by decide +kernel
theorem dX12_toldOf_54 : decode cX12_toldOf 54 = .ok (.getfield 35, 3) := by decide +kernel
theorem dX12_toldOf_57 : decode cX12_toldOf 57 = .ok (.iload_n 1, 1) := by decide +kernel
theorem dX12_toldOf_58 : decode cX12_toldOf 58 = .ok (.iaload, 1) := by decide +kernel
theorem dX12_toldOf_59 : decode cX12_toldOf 59 = .ok (.goto 9, 3) := by decide +kernel
theorem dX12_toldOf_62 : decode cX12_toldOf 62 = .ok (.aload_n 0, 1) := by decide +kernel
theorem dX12_toldOf_63 : decode cX12_toldOf 63 = .ok (.getfield 38, 3) := by decide +kernel
theorem dX12_toldOf_66 : decode cX12_toldOf 66 = .ok (.iload_n 1, 1) := by decide +kernel
theorem dX12_toldOf_67 : decode cX12_toldOf 67 = .ok (.iaload, 1) := by decide +kernel
theorem dX12_toldOf_68 : decode cX12_toldOf 68 = .ok (.ireturn, 1) := by decide +kernel
theorem dX12_told_0 : decode cX12_told 0 = .ok (.aload_n 0, 1) := by decide +kernel
theorem dX12_told_1 : decode cX12_told 1 = .ok (.iload_n 1, 1) := by decide +kernel
theorem dX12_told_2 : decode cX12_told 2 = .ok (.invokevirtual 160, 3) := by decide +kernel
theorem dX12_told_5 : decode cX12_told 5 = .ok (.ifCond .eq 26, 3) := by decide +kernel
theorem dX12_told_8 : decode cX12_told 8 = .ok (.iload_n 2, 1) := by decide +kernel
theorem dX12_told_9 : decode cX12_told 9 = .ok (.iconst 0, 1) := by decide +kernel
theorem dX12_told_10 : decode cX12_told 10 = .ok (.iconst 3, 1) := by decide +kernel
theorem dX12_told_11 : decode cX12_told 11 = .ok (.invokestatic 88, 3) := by decide +kernel
theorem dX12_told_14 : decode cX12_told 14 = .ok (.ifCond .eq 17, 3) := by decide +kernel
theorem dX12_told_17 : decode cX12_told 17 = .ok (.aload_n 0, 1) := by decide +kernel
theorem dX12_told_18 : decode cX12_told 18 = .ok (.aload_n 0, 1) := by decide +kernel
theorem dX12_told_19 : decode cX12_told 19 = .ok (.iload_n 1, 1) := by decide +kernel
theorem dX12_told_20 : decode cX12_told 20 = .ok (.iload_n 2, 1) := by decide +kernel
theorem dX12_told_21 : decode cX12_told 21 = .ok (.invokevirtual 257, 3) := by decide +kernel
theorem dX12_told_24 : decode cX12_told 24 = .ok (.iconst 1, 1) := by decide +kernel
theorem dX12_told_25 : decode cX12_told 25 = .ok (.invokevirtual 114, 3) := by decide +kernel
theorem dX12_told_28 : decode cX12_told 28 = .ok (.goto 4, 3) := by decide +kernel
theorem dX12_told_31 : decode cX12_told 31 = .ok (.iconst (-1), 1) := by decide +kernel
theorem dX12_told_32 : decode cX12_told 32 = .ok (.ireturn, 1) := by decide +kernel
theorem dX12_coins_0 : decode cX12_coins 0 = .ok (.iconst 0, 1) := by decide +kernel
theorem dX12_coins_1 : decode cX12_coins 1 = .ok (.istore_n 1, 1) := by decide +kernel
theorem dX12_coins_2 : decode cX12_coins 2 = .ok (.iconst 0, 1) := by decide +kernel
theorem dX12_coins_3 : decode cX12_coins 3 = .ok (.istore_n 2, 1) := by decide +kernel
theorem dX12_coins_4 : decode cX12_coins 4 = .ok (.iload_n 2, 1) := by decide +kernel
theorem dX12_coins_5 : decode cX12_coins 5 = .ok (.aload_n 0, 1) := by decide +kernel
theorem dX12_coins_6 : decode cX12_coins 6 = .ok (.getfield 141, 3) := by decide +kernel
theorem dX12_coins_9 : decode cX12_coins 9 = .ok (.if_icmp .ge 37, 3) := by decide +kernel
theorem dX12_coins_12 : decode cX12_coins 12 = .ok (.iload_n 1, 1) := by decide +kernel
theorem dX12_coins_13 : decode cX12_coins 13 = .ok (.aload_n 0, 1) := by decide +kernel
theorem dX12_coins_14 : decode cX12_coins 14 = .ok (.getfield 188, 3) := by decide +kernel
theorem dX12_coins_17 : decode cX12_coins 17 = .ok (.iload_n 2, 1) := by decide +kernel
theorem dX12_coins_18 : decode cX12_coins 18 = .ok (.invokestatic 191, 3) := by decide +kernel
theorem dX12_coins_21 : decode cX12_coins 21 = .ok (.ifCond .eq 16, 3) := by decide +kernel
theorem dX12_coins_24 : decode cX12_coins 24 = .ok (.aload_n 0, 1) := by decide +kernel
theorem dX12_coins_25 : decode cX12_coins 25 = .ok (.getfield 35, 3) := by decide +kernel
theorem dX12_coins_28 : decode cX12_coins 28 = .ok (.iload_n 2, 1) := by decide +kernel
theorem dX12_coins_29 : decode cX12_coins 29 = .ok (.iaload, 1) := by decide +kernel
theorem dX12_coins_30 : decode cX12_coins 30 = .ok (.ifCond .le 7, 3) := by decide +kernel
theorem dX12_coins_33 : decode cX12_coins 33 = .ok (.iconst 1, 1) := by decide +kernel
theorem dX12_coins_34 : decode cX12_coins 34 = .ok (.goto 4, 3) := by decide +kernel
theorem dX12_coins_37 : decode cX12_coins 37 = .ok (.iconst 0, 1) := by decide +kernel
theorem dX12_coins_38 : decode cX12_coins 38 = .ok (.iadd, 1) := by decide +kernel
theorem dX12_coins_39 : decode cX12_coins 39 = .ok (.istore_n 1, 1) := by decide +kernel
theorem dX12_coins_40 : decode cX12_coins 40 = .ok (.iinc 2 1, 3) := by decide +kernel
theorem dX12_coins_43 : decode cX12_coins 43 = .ok (.goto (-39), 3) := by decide +kernel
theorem dX12_coins_46 : decode cX12_coins 46 = .ok (.aload_n 0, 1) := by decide +kernel
theorem dX12_coins_47 : decode cX12_coins 47 = .ok (.iload_n 1, 1) := by decide +kernel
theorem dX12_coins_48 : decode cX12_coins 48 = .ok (.aload_n 0, 1) := by decide +kernel
theorem dX12_coins_49 : decode cX12_coins 49 = .ok (.invokevirtual 260, 3) := by decide +kernel
theorem dX12_coins_52 : decode cX12_coins 52 = .ok (.invokevirtual 114, 3) := by decide +kernel
theorem dX12_coins_55 : decode cX12_coins 55 = .ok (.ireturn, 1) := by decide +kernel
theorem dX12_words_0 : decode cX12_words 0 = .ok (.aload_n 0, 1) := by decide +kernel
theorem dX12_words_1 : decode cX12_words 1 = .ok (.invokevirtual 200, 3) := by decide +kernel
theorem dX12_words_4 : decode cX12_words 4 = .ok (.aload_n 0, 1) := by decide +kernel
theorem dX12_words_5 : decode cX12_words 5 = .ok (.aload_n 0, 1) := by decide +kernel
theorem dX12_words_6 : decode cX12_words 6 = .ok (.getfield 197, 3) := by decide +kernel
theorem dX12_words_9 : decode cX12_words 9 = .ok (.aload_n 0, 1) := by decide +kernel
theorem dX12_words_10 : decode cX12_words 10 = .ok (.getfield 194, 3) := by decide +kernel
theorem dX12_words_13 : decode cX12_words 13 = .ok (.invokevirtual 114, 3) := by decide +kernel
theorem dX12_words_16 : decode cX12_words 16 = .ok (.ireturn, 1) := by decide +kernel
theorem dX12_next_0 : decode cX12_next 0 = .ok (.aload_n 0, 1) := by decide +kernel
theorem dX12_next_1 : decode cX12_next 1 = .ok (.iload_n 1, 1) := by decide +kernel
theorem dX12_next_2 : decode cX12_next 2 = .ok (.invokevirtual 160, 3) := by decide +kernel
theorem dX12_next_5 : decode cX12_next 5 = .ok (.ifCond .ne 5, 3) := by decide +kernel
theorem dX12_next_8 : decode cX12_next 8 = .ok (.iconst (-1), 1) := by decide +kernel
theorem dX12_next_9 : decode cX12_next 9 = .ok (.ireturn, 1) := by decide +kernel
theorem dX12_next_10 : decode cX12_next 10 = .ok (.aload_n 0, 1) := by decide +kernel
theorem dX12_next_11 : decode cX12_next 11 = .ok (.getfield 215, 3) := by decide +kernel
theorem dX12_next_14 : decode cX12_next 14 = .ok (.ifCond .eq 6, 3) := by decide +kernel
theorem dX12_next_17 : decode cX12_next 17 = .ok (.bipush (-4), 2) := by decide +kernel
theorem dX12_next_19 : decode cX12_next 19 = .ok (.ireturn, 1) := by decide +kernel
theorem dX12_next_20 : decode cX12_next 20 = .ok (.aload_n 0, 1) := by decide +kernel
theorem dX12_next_21 : decode cX12_next 21 = .ok (.getfield 188, 3) := by decide +kernel
theorem dX12_next_24 : decode cX12_next 24 = .ok (.iconst 1, 1) := by decide +kernel
theorem dX12_next_25 : decode cX12_next 25 = .ok (.iload_n 1, 1) := by decide +kernel
theorem dX12_next_26 : decode cX12_next 26 = .ok (.ishl, 1) := by decide +kernel
theorem dX12_next_27 : decode cX12_next 27 = .ok (.ior, 1) := by decide +kernel
theorem dX12_next_28 : decode cX12_next 28 = .ok (.istore_n 2, 1) := by decide +kernel
theorem dX12_next_29 : decode cX12_next 29 = .ok (.aload_n 0, 1) := by decide +kernel
theorem dX12_next_30 : decode cX12_next 30 = .ok (.iload_n 2, 1) := by decide +kernel
theorem dX12_next_31 : decode cX12_next 31 = .ok (.aload_n 0, 1) := by decide +kernel
theorem dX12_next_32 : decode cX12_next 32 = .ok (.invokevirtual 239, 3) := by decide +kernel
theorem dX12_next_35 : decode cX12_next 35 = .ok (.if_icmp .ne 7, 3) := by decide +kernel
theorem dX12_next_38 : decode cX12_next 38 = .ok (.iconst 1, 1) := by decide +kernel
theorem dX12_next_39 : decode cX12_next 39 = .ok (.goto 4, 3) := by decide +kernel
theorem dX12_next_42 : decode cX12_next 42 = .ok (.iconst 0, 1) := by decide +kernel
theorem dX12_next_43 : decode cX12_next 43 = .ok (.aload_n 0, 1) := by decide +kernel
theorem dX12_next_44 : decode cX12_next 44 = .ok (.iload_n 1, 1) := by decide +kernel
theorem dX12_next_45 : decode cX12_next 45 = .ok (.aload_n 0, 1) := by decide +kernel
theorem dX12_next_46 : decode cX12_next 46 = .ok (.getfield 209, 3) := by decide +kernel
theorem dX12_next_49 : decode cX12_next 49 = .ok (.iload_n 2, 1) := by decide +kernel
theorem dX12_next_50 : decode cX12_next 50 = .ok (.aload_n 0, 1) := by decide +kernel
theorem dX12_next_51 : decode cX12_next 51 = .ok (.getfield 170, 3) := by decide +kernel
theorem dX12_next_54 : decode cX12_next 54 = .ok (.iconst 1, 1) := by decide +kernel
theorem dX12_next_55 : decode cX12_next 55 = .ok (.iadd, 1) := by decide +kernel
theorem dX12_next_56 : decode cX12_next 56 = .ok (.invokevirtual 235, 3) := by decide +kernel
theorem dX12_next_59 : decode cX12_next 59 = .ok (.invokevirtual 114, 3) := by decide +kernel
theorem dX12_next_62 : decode cX12_next 62 = .ok (.ireturn, 1) := by decide +kernel
theorem dX12_keep_0 : decode cX12_keep 0 = .ok (.iload_n 1, 1) := by decide +kernel
theorem dX12_keep_1 : decode cX12_keep 1 = .ok (.iconst 0, 1) := by decide +kernel
theorem dX12_keep_2 : decode cX12_keep 2 = .ok (.iconst 2, 1) := by decide +kernel
theorem dX12_keep_3 : decode cX12_keep 3 = .ok (.invokestatic 88, 3) := by decide +kernel
theorem dX12_keep_6 : decode cX12_keep 6 = .ok (.ifCond .ne 5, 3) := by decide +kernel
theorem dX12_keep_9 : decode cX12_keep 9 = .ok (.iconst (-1), 1) := by decide +kernel
theorem dX12_keep_10 : decode cX12_keep 10 = .ok (.ireturn, 1) := by decide +kernel
theorem dX12_keep_11 : decode cX12_keep 11 = .ok (.aload_n 0, 1) := by decide +kernel
theorem dX12_keep_12 : decode cX12_keep 12 = .ok (.getfield 141, 3) := by decide +kernel
theorem dX12_keep_15 : decode cX12_keep 15 = .ok (.ifCond .ne 6, 3) := by decide +kernel
theorem dX12_keep_18 : decode cX12_keep 18 = .ok (.bipush (-4), 2) := by decide +kernel
theorem dX12_keep_20 : decode cX12_keep 20 = .ok (.ireturn, 1) := by decide +kernel
theorem dX12_keep_21 : decode cX12_keep 21 = .ok (.bipush 50, 2) := by decide +kernel
theorem dX12_keep_23 : decode cX12_keep 23 = .ok (.iload_n 1, 1) := by decide +kernel
theorem dX12_keep_24 : decode cX12_keep 24 = .ok (.imul, 1) := by decide +kernel
theorem dX12_keep_25 : decode cX12_keep 25 = .ok (.istore_n 2, 1) := by decide +kernel
theorem dX12_keep_26 : decode cX12_keep 26 = .ok (.aload_n 0, 1) := by decide +kernel
theorem dX12_keep_27 : decode cX12_keep 27 = .ok (.getfield 47, 3) := by decide +kernel
theorem dX12_keep_30 : decode cX12_keep 30 = .ok (.iload_n 2, 1) := by decide +kernel
theorem dX12_keep_31 : decode cX12_keep 31 = .ok (.aload_n 0, 1) := by decide +kernel
theorem dX12_keep_32 : decode cX12_keep 32 = .ok (.getfield 170, 3) := by decide +kernel
theorem dX12_keep_35 : decode cX12_keep 35 = .ok (.iastore, 1) := by decide +kernel
theorem dX12_keep_36 : decode cX12_keep 36 = .ok (.aload_n 0, 1) := by decide +kernel
theorem dX12_keep_37 : decode cX12_keep 37 = .ok (.getfield 47, 3) := by decide +kernel
theorem dX12_keep_40 : decode cX12_keep 40 = .ok (.iload_n 2, 1) := by decide +kernel
theorem dX12_keep_41 : decode cX12_keep 41 = .ok (.iconst 1, 1) := by decide +kernel
theorem dX12_keep_42 : decode cX12_keep 42 = .ok (.iadd, 1) := by decide +kernel
theorem dX12_keep_43 : decode cX12_keep 43 = .ok (.aload_n 0, 1) := by decide +kernel
theorem dX12_keep_44 : decode cX12_keep 44 = .ok (.getfield 206, 3) := by decide +kernel
theorem dX12_keep_47 : decode cX12_keep 47 = .ok (.iastore, 1) := by decide +kernel
theorem dX12_keep_48 : decode cX12_keep 48 = .ok (.aload_n 0, 1) := by decide +kernel
theorem dX12_keep_49 : decode cX12_keep 49 = .ok (.getfield 47, 3) := by decide +kernel
theorem dX12_keep_52 : decode cX12_keep 52 = .ok (.iload_n 2, 1) := by decide +kernel
theorem dX12_keep_53 : decode cX12_keep 53 = .ok (.iconst 2, 1) := by decide +kernel
theorem dX12_keep_54 : decode cX12_keep 54 = .ok (.iadd, 1) := by decide +kernel
theorem dX12_keep_55 : decode cX12_keep 55 = .ok (.aload_n 0, 1) := by decide +kernel
theorem dX12_keep_56 : decode cX12_keep 56 = .ok (.getfield 209, 3) := by decide +kernel
theorem dX12_keep_59 : decode cX12_keep 59 = .ok (.iastore, 1) := by decide +kernel
theorem dX12_keep_60 : decode cX12_keep 60 = .ok (.aload_n 0, 1) := by decide +kernel
theorem dX12_keep_61 : decode cX12_keep 61 = .ok (.getfield 47, 3) := by decide +kernel
theorem dX12_keep_64 : decode cX12_keep 64 = .ok (.iload_n 2, 1) := by decide +kernel
theorem dX12_keep_65 : decode cX12_keep 65 = .ok (.iconst 3, 1) := by decide +kernel
theorem dX12_keep_66 : decode cX12_keep 66 = .ok (.iadd, 1) := by decide +kernel
theorem dX12_keep_67 : decode cX12_keep 67 = .ok (.aload_n 0, 1) := by decide +kernel
theorem dX12_keep_68 : decode cX12_keep 68 = .ok (.getfield 212, 3) := by decide +kernel
theorem dX12_keep_71 : decode cX12_keep 71 = .ok (.iastore, 1) := by decide +kernel
theorem dX12_keep_72 : decode cX12_keep 72 = .ok (.aload_n 0, 1) := by decide +kernel
theorem dX12_keep_73 : decode cX12_keep 73 = .ok (.getfield 47, 3) := by decide +kernel
theorem dX12_keep_76 : decode cX12_keep 76 = .ok (.iload_n 2, 1) := by decide +kernel
theorem dX12_keep_77 : decode cX12_keep 77 = .ok (.iconst 4, 1) := by decide +kernel
theorem dX12_keep_78 : decode cX12_keep 78 = .ok (.iadd, 1) := by decide +kernel
theorem dX12_keep_79 : decode cX12_keep 79 = .ok (.aload_n 0, 1) := by decide +kernel
theorem dX12_keep_80 : decode cX12_keep 80 = .ok (.getfield 215, 3) := by decide +kernel
theorem dX12_keep_83 : decode cX12_keep 83 = .ok (.ifCond .eq 7, 3) := by decide +kernel
theorem dX12_keep_86 : decode cX12_keep 86 = .ok (.iconst 1, 1) := by decide +kernel
theorem dX12_keep_87 : decode cX12_keep 87 = .ok (.goto 4, 3) := by decide +kernel
theorem dX12_keep_90 : decode cX12_keep 90 = .ok (.iconst 0, 1) := by decide +kernel
theorem dX12_keep_91 : decode cX12_keep 91 = .ok (.iastore, 1) := by decide +kernel
theorem dX12_keep_92 : decode cX12_keep 92 = .ok (.aload_n 0, 1) := by decide +kernel
theorem dX12_keep_93 : decode cX12_keep 93 = .ok (.getfield 47, 3) := by decide +kernel
theorem dX12_keep_96 : decode cX12_keep 96 = .ok (.iload_n 2, 1) := by decide +kernel
theorem dX12_keep_97 : decode cX12_keep 97 = .ok (.iconst 5, 1) := by decide +kernel
theorem dX12_keep_98 : decode cX12_keep 98 = .ok (.iadd, 1) := by decide +kernel
theorem dX12_keep_99 : decode cX12_keep 99 = .ok (.aload_n 0, 1) := by decide +kernel
theorem dX12_keep_100 : decode cX12_keep 100 = .ok (.getfield 188, 3) := by decide +kernel
theorem dX12_keep_103 : decode cX12_keep 103 = .ok (.iastore, 1) := by decide +kernel
theorem dX12_keep_104 : decode cX12_keep 104 = .ok (.aload_n 0, 1) := by decide +kernel
theorem dX12_keep_105 : decode cX12_keep 105 = .ok (.getfield 47, 3) := by decide +kernel
theorem dX12_keep_108 : decode cX12_keep 108 = .ok (.iload_n 2, 1) := by decide +kernel
theorem dX12_keep_109 : decode cX12_keep 109 = .ok (.bipush 6, 2) := by decide +kernel
theorem dX12_keep_111 : decode cX12_keep 111 = .ok (.iadd, 1) := by decide +kernel
theorem dX12_keep_112 : decode cX12_keep 112 = .ok (.aload_n 0, 1) := by decide +kernel
theorem dX12_keep_113 : decode cX12_keep 113 = .ok (.getfield 144, 3) := by decide +kernel
theorem dX12_keep_116 : decode cX12_keep 116 = .ok (.iastore, 1) := by decide +kernel
theorem dX12_keep_117 : decode cX12_keep 117 = .ok (.aload_n 0, 1) := by decide +kernel
theorem dX12_keep_118 : decode cX12_keep 118 = .ok (.getfield 47, 3) := by decide +kernel
theorem dX12_keep_121 : decode cX12_keep 121 = .ok (.iload_n 2, 1) := by decide +kernel
theorem dX12_keep_122 : decode cX12_keep 122 = .ok (.bipush 7, 2) := by decide +kernel
theorem dX12_keep_124 : decode cX12_keep 124 = .ok (.iadd, 1) := by decide +kernel
theorem dX12_keep_125 : decode cX12_keep 125 = .ok (.aload_n 0, 1) := by decide +kernel
theorem dX12_keep_126 : decode cX12_keep 126 = .ok (.getfield 147, 3) := by decide +kernel
theorem dX12_keep_129 : decode cX12_keep 129 = .ok (.iastore, 1) := by decide +kernel
theorem dX12_keep_130 : decode cX12_keep 130 = .ok (.aload_n 0, 1) := by decide +kernel
theorem dX12_keep_131 : decode cX12_keep 131 = .ok (.getfield 47, 3) := by decide +kernel
theorem dX12_keep_134 : decode cX12_keep 134 = .ok (.iload_n 2, 1) := by decide +kernel
theorem dX12_keep_135 : decode cX12_keep 135 = .ok (.bipush 8, 2) := by decide +kernel
theorem dX12_keep_137 : decode cX12_keep 137 = .ok (.iadd, 1) := by decide +kernel
theorem dX12_keep_138 : decode cX12_keep 138 = .ok (.aload_n 0, 1) := by decide +kernel
theorem dX12_keep_139 : decode cX12_keep 139 = .ok (.getfield 150, 3) := by decide +kernel
theorem dX12_keep_142 : decode cX12_keep 142 = .ok (.iastore, 1) := by decide +kernel
theorem dX12_keep_143 : decode cX12_keep 143 = .ok (.iconst 0, 1) := by decide +kernel
theorem dX12_keep_144 : decode cX12_keep 144 = .ok (.istore_n 3, 1) := by decide +kernel
theorem dX12_keep_145 : decode cX12_keep 145 = .ok (.iload_n 3, 1) := by decide +kernel
theorem dX12_keep_146 : decode cX12_keep 146 = .ok (.bipush 9, 2) := by decide +kernel
theorem dX12_keep_148 : decode cX12_keep 148 = .ok (.if_icmp .ge 60, 3) := by decide +kernel
theorem dX12_keep_151 : decode cX12_keep 151 = .ok (.aload_n 0, 1) := by decide +kernel
theorem dX12_keep_152 : decode cX12_keep 152 = .ok (.getfield 47, 3) := by decide +kernel
theorem dX12_keep_155 : decode cX12_keep 155 = .ok (.iload_n 2, 1) := by decide +kernel
theorem dX12_keep_156 : decode cX12_keep 156 = .ok (.bipush 9, 2) := by decide +kernel
theorem dX12_keep_158 : decode cX12_keep 158 = .ok (.iadd, 1) := by decide +kernel
theorem dX12_keep_159 : decode cX12_keep 159 = .ok (.iload_n 3, 1) := by decide +kernel
theorem dX12_keep_160 : decode cX12_keep 160 = .ok (.iadd, 1) := by decide +kernel
theorem dX12_keep_161 : decode cX12_keep 161 = .ok (.aload_n 0, 1) := by decide +kernel
theorem dX12_keep_162 : decode cX12_keep 162 = .ok (.getfield 35, 3) := by decide +kernel
theorem dX12_keep_165 : decode cX12_keep 165 = .ok (.iload_n 3, 1) := by decide +kernel
theorem dX12_keep_166 : decode cX12_keep 166 = .ok (.iaload, 1) := by decide +kernel
theorem dX12_keep_167 : decode cX12_keep 167 = .ok (.iastore, 1) := by decide +kernel
theorem dX12_keep_168 : decode cX12_keep 168 = .ok (.aload_n 0, 1) := by decide +kernel
theorem dX12_keep_169 : decode cX12_keep 169 = .ok (.getfield 47, 3) := by decide +kernel
theorem dX12_keep_172 : decode cX12_keep 172 = .ok (.iload_n 2, 1) := by decide +kernel
theorem dX12_keep_173 : decode cX12_keep 173 = .ok (.bipush 18, 2) := by decide +kernel
theorem dX12_keep_175 : decode cX12_keep 175 = .ok (.iadd, 1) := by decide +kernel
theorem dX12_keep_176 : decode cX12_keep 176 = .ok (.iload_n 3, 1) := by decide +kernel
theorem dX12_keep_177 : decode cX12_keep 177 = .ok (.iadd, 1) := by decide +kernel
theorem dX12_keep_178 : decode cX12_keep 178 = .ok (.aload_n 0, 1) := by decide +kernel
theorem dX12_keep_179 : decode cX12_keep 179 = .ok (.getfield 38, 3) := by decide +kernel
theorem dX12_keep_182 : decode cX12_keep 182 = .ok (.iload_n 3, 1) := by decide +kernel
theorem dX12_keep_183 : decode cX12_keep 183 = .ok (.iaload, 1) := by decide +kernel
theorem dX12_keep_184 : decode cX12_keep 184 = .ok (.iastore, 1) := by decide +kernel
theorem dX12_keep_185 : decode cX12_keep 185 = .ok (.aload_n 0, 1) := by decide +kernel
theorem dX12_keep_186 : decode cX12_keep 186 = .ok (.getfield 47, 3) := by decide +kernel
theorem dX12_keep_189 : decode cX12_keep 189 = .ok (.iload_n 2, 1) := by decide +kernel
theorem dX12_keep_190 : decode cX12_keep 190 = .ok (.bipush 27, 2) := by decide +kernel
theorem dX12_keep_192 : decode cX12_keep 192 = .ok (.iadd, 1) := by decide +kernel
theorem dX12_keep_193 : decode cX12_keep 193 = .ok (.iload_n 3, 1) := by decide +kernel
theorem dX12_keep_194 : decode cX12_keep 194 = .ok (.iadd, 1) := by decide +kernel
theorem dX12_keep_195 : decode cX12_keep 195 = .ok (.aload_n 0, 1) := by decide +kernel
theorem dX12_keep_196 : decode cX12_keep 196 = .ok (.getfield 41, 3) := by decide +kernel
theorem dX12_keep_199 : decode cX12_keep 199 = .ok (.iload_n 3, 1) := by decide +kernel
theorem dX12_keep_200 : decode cX12_keep 200 = .ok (.iaload, 1) := by decide +kernel
theorem dX12_keep_201 : decode cX12_keep 201 = .ok (.iastore, 1) := by decide +kernel
theorem dX12_keep_202 : decode cX12_keep 202 = .ok (.iinc 3 1, 3) := by decide +kernel
theorem dX12_keep_205 : decode cX12_keep 205 = .ok (.goto (-60), 3) := by decide +kernel
theorem dX12_keep_208 : decode cX12_keep 208 = .ok (.aload_n 0, 1) := by decide +kernel
theorem dX12_keep_209 : decode cX12_keep 209 = .ok (.getfield 170, 3) := by decide +kernel
theorem dX12_keep_212 : decode cX12_keep 212 = .ok (.ireturn, 1) := by decide +kernel
theorem dX12_on_0 : decode cX12_on 0 = .ok (.iload_n 1, 1) := by decide +kernel
theorem dX12_on_1 : decode cX12_on 1 = .ok (.iconst 0, 1) := by decide +kernel
theorem dX12_on_2 : decode cX12_on 2 = .ok (.iconst 2, 1) := by decide +kernel
theorem dX12_on_3 : decode cX12_on 3 = .ok (.invokestatic 88, 3) := by decide +kernel
theorem dX12_on_6 : decode cX12_on 6 = .ok (.ifCond .ne 5, 3) := by decide +kernel
theorem dX12_on_9 : decode cX12_on 9 = .ok (.iconst (-1), 1) := by decide +kernel
theorem dX12_on_10 : decode cX12_on 10 = .ok (.ireturn, 1) := by decide +kernel
theorem dX12_on_11 : decode cX12_on 11 = .ok (.bipush 50, 2) := by decide +kernel
theorem dX12_on_13 : decode cX12_on 13 = .ok (.iload_n 1, 1) := by decide +kernel
theorem dX12_on_14 : decode cX12_on 14 = .ok (.imul, 1) := by decide +kernel
theorem dX12_on_15 : decode cX12_on 15 = .ok (.istore_n 2, 1) := by decide +kernel
theorem dX12_on_16 : decode cX12_on 16 = .ok (.aload_n 0, 1) := by decide +kernel
theorem dX12_on_17 : decode cX12_on 17 = .ok (.getfield 47, 3) := by decide +kernel
theorem dX12_on_20 : decode cX12_on 20 = .ok (.iload_n 2, 1) := by decide +kernel
theorem dX12_on_21 : decode cX12_on 21 = .ok (.iaload, 1) := by decide +kernel
theorem dX12_on_22 : decode cX12_on 22 = .ok (.bipush (-9), 2) := by decide +kernel
theorem dX12_on_24 : decode cX12_on 24 = .ok (.if_icmp .ne 9, 3) := by decide +kernel
theorem dX12_on_27 : decode cX12_on 27 = .ok (.aload_n 0, 1) := by decide +kernel
theorem dX12_on_28 : decode cX12_on 28 = .ok (.iconst 1, 1) := by decide +kernel
theorem dX12_on_29 : decode cX12_on 29 = .ok (.invokevirtual 96, 3) := by decide +kernel
theorem dX12_on_32 : decode cX12_on 32 = .ok (.ireturn, 1) := by decide +kernel
theorem dX12_on_33 : decode cX12_on 33 = .ok (.aload_n 0, 1) := by decide +kernel
theorem dX12_on_34 : decode cX12_on 34 = .ok (.aload_n 0, 1) := by decide +kernel
theorem dX12_on_35 : decode cX12_on 35 = .ok (.getfield 47, 3) := by decide +kernel
theorem dX12_on_38 : decode cX12_on 38 = .ok (.iload_n 2, 1) := by decide +kernel
theorem dX12_on_39 : decode cX12_on 39 = .ok (.iaload, 1) := by decide +kernel
theorem dX12_on_40 : decode cX12_on 40 = .ok (.putfield 170, 3) := by decide +kernel
theorem dX12_on_43 : decode cX12_on 43 = .ok (.aload_n 0, 1) := by decide +kernel
theorem dX12_on_44 : decode cX12_on 44 = .ok (.aload_n 0, 1) := by decide +kernel
theorem dX12_on_45 : decode cX12_on 45 = .ok (.getfield 47, 3) := by decide +kernel
theorem dX12_on_48 : decode cX12_on 48 = .ok (.iload_n 2, 1) := by decide +kernel
theorem dX12_on_49 : decode cX12_on 49 = .ok (.iconst 1, 1) := by decide +kernel
theorem dX12_on_50 : decode cX12_on 50 = .ok (.iadd, 1) := by decide +kernel
theorem dX12_on_51 : decode cX12_on 51 = .ok (.iaload, 1) := by decide +kernel
theorem dX12_on_52 : decode cX12_on 52 = .ok (.putfield 206, 3) := by decide +kernel
theorem dX12_on_55 : decode cX12_on 55 = .ok (.aload_n 0, 1) := by decide +kernel
theorem dX12_on_56 : decode cX12_on 56 = .ok (.aload_n 0, 1) := by decide +kernel
theorem dX12_on_57 : decode cX12_on 57 = .ok (.getfield 47, 3) := by decide +kernel
theorem dX12_on_60 : decode cX12_on 60 = .ok (.iload_n 2, 1) := by decide +kernel
theorem dX12_on_61 : decode cX12_on 61 = .ok (.iconst 2, 1) := by decide +kernel
theorem dX12_on_62 : decode cX12_on 62 = .ok (.iadd, 1) := by decide +kernel
theorem dX12_on_63 : decode cX12_on 63 = .ok (.iaload, 1) := by decide +kernel
theorem dX12_on_64 : decode cX12_on 64 = .ok (.putfield 209, 3) := by decide +kernel
theorem dX12_on_67 : decode cX12_on 67 = .ok (.aload_n 0, 1) := by decide +kernel
theorem dX12_on_68 : decode cX12_on 68 = .ok (.aload_n 0, 1) := by decide +kernel
theorem dX12_on_69 : decode cX12_on 69 = .ok (.getfield 47, 3) := by decide +kernel
theorem dX12_on_72 : decode cX12_on 72 = .ok (.iload_n 2, 1) := by decide +kernel
theorem dX12_on_73 : decode cX12_on 73 = .ok (.iconst 3, 1) := by decide +kernel
theorem dX12_on_74 : decode cX12_on 74 = .ok (.iadd, 1) := by decide +kernel
theorem dX12_on_75 : decode cX12_on 75 = .ok (.iaload, 1) := by decide +kernel
theorem dX12_on_76 : decode cX12_on 76 = .ok (.putfield 212, 3) := by decide +kernel
theorem dX12_on_79 : decode cX12_on 79 = .ok (.aload_n 0, 1) := by decide +kernel
theorem dX12_on_80 : decode cX12_on 80 = .ok (.aload_n 0, 1) := by decide +kernel
theorem dX12_on_81 : decode cX12_on 81 = .ok (.getfield 47, 3) := by decide +kernel
theorem dX12_on_84 : decode cX12_on 84 = .ok (.iload_n 2, 1) := by decide +kernel
theorem dX12_on_85 : decode cX12_on 85 = .ok (.iconst 4, 1) := by decide +kernel
theorem dX12_on_86 : decode cX12_on 86 = .ok (.iadd, 1) := by decide +kernel
theorem dX12_on_87 : decode cX12_on 87 = .ok (.iaload, 1) := by decide +kernel
theorem dX12_on_88 : decode cX12_on 88 = .ok (.iconst 1, 1) := by decide +kernel
theorem dX12_on_89 : decode cX12_on 89 = .ok (.if_icmp .ne 7, 3) := by decide +kernel
theorem dX12_on_92 : decode cX12_on 92 = .ok (.iconst 1, 1) := by decide +kernel
theorem dX12_on_93 : decode cX12_on 93 = .ok (.goto 4, 3) := by decide +kernel
theorem dX12_on_96 : decode cX12_on 96 = .ok (.iconst 0, 1) := by decide +kernel
theorem dX12_on_97 : decode cX12_on 97 = .ok (.putfield 215, 3) := by decide +kernel
theorem dX12_on_100 : decode cX12_on 100 = .ok (.aload_n 0, 1) := by decide +kernel
theorem dX12_on_101 : decode cX12_on 101 = .ok (.aload_n 0, 1) := by decide +kernel
theorem dX12_on_102 : decode cX12_on 102 = .ok (.getfield 47, 3) := by decide +kernel
theorem dX12_on_105 : decode cX12_on 105 = .ok (.iload_n 2, 1) := by decide +kernel
theorem dX12_on_106 : decode cX12_on 106 = .ok (.iconst 5, 1) := by decide +kernel
theorem dX12_on_107 : decode cX12_on 107 = .ok (.iadd, 1) := by decide +kernel
theorem dX12_on_108 : decode cX12_on 108 = .ok (.iaload, 1) := by decide +kernel
theorem dX12_on_109 : decode cX12_on 109 = .ok (.putfield 188, 3) := by decide +kernel
theorem dX12_on_112 : decode cX12_on 112 = .ok (.aload_n 0, 1) := by decide +kernel
theorem dX12_on_113 : decode cX12_on 113 = .ok (.aload_n 0, 1) := by decide +kernel
theorem dX12_on_114 : decode cX12_on 114 = .ok (.getfield 47, 3) := by decide +kernel
theorem dX12_on_117 : decode cX12_on 117 = .ok (.iload_n 2, 1) := by decide +kernel
theorem dX12_on_118 : decode cX12_on 118 = .ok (.bipush 6, 2) := by decide +kernel
theorem dX12_on_120 : decode cX12_on 120 = .ok (.iadd, 1) := by decide +kernel
theorem dX12_on_121 : decode cX12_on 121 = .ok (.iaload, 1) := by decide +kernel
theorem dX12_on_122 : decode cX12_on 122 = .ok (.putfield 144, 3) := by decide +kernel
theorem dX12_on_125 : decode cX12_on 125 = .ok (.aload_n 0, 1) := by decide +kernel
theorem dX12_on_126 : decode cX12_on 126 = .ok (.aload_n 0, 1) := by decide +kernel
theorem dX12_on_127 : decode cX12_on 127 = .ok (.getfield 47, 3) := by decide +kernel
theorem dX12_on_130 : decode cX12_on 130 = .ok (.iload_n 2, 1) := by decide +kernel
theorem dX12_on_131 : decode cX12_on 131 = .ok (.bipush 7, 2) := by decide +kernel
theorem dX12_on_133 : decode cX12_on 133 = .ok (.iadd, 1) := by decide +kernel
theorem dX12_on_134 : decode cX12_on 134 = .ok (.iaload, 1) := by decide +kernel
theorem dX12_on_135 : decode cX12_on 135 = .ok (.putfield 147, 3) := by decide +kernel
theorem dX12_on_138 : decode cX12_on 138 = .ok (.aload_n 0, 1) := by decide +kernel
theorem dX12_on_139 : decode cX12_on 139 = .ok (.aload_n 0, 1) := by decide +kernel
theorem dX12_on_140 : decode cX12_on 140 = .ok (.getfield 47, 3) := by decide +kernel
theorem dX12_on_143 : decode cX12_on 143 = .ok (.iload_n 2, 1) := by decide +kernel
theorem dX12_on_144 : decode cX12_on 144 = .ok (.bipush 8, 2) := by decide +kernel
theorem dX12_on_146 : decode cX12_on 146 = .ok (.iadd, 1) := by decide +kernel
theorem dX12_on_147 : decode cX12_on 147 = .ok (.iaload, 1) := by decide +kernel
theorem dX12_on_148 : decode cX12_on 148 = .ok (.putfield 150, 3) := by decide +kernel
theorem dX12_on_151 : decode cX12_on 151 = .ok (.iconst 0, 1) := by decide +kernel
theorem dX12_on_152 : decode cX12_on 152 = .ok (.istore_n 3, 1) := by decide +kernel
theorem dX12_on_153 : decode cX12_on 153 = .ok (.iload_n 3, 1) := by decide +kernel
theorem dX12_on_154 : decode cX12_on 154 = .ok (.bipush 9, 2) := by decide +kernel
theorem dX12_on_156 : decode cX12_on 156 = .ok (.if_icmp .ge 60, 3) := by decide +kernel
theorem dX12_on_159 : decode cX12_on 159 = .ok (.aload_n 0, 1) := by decide +kernel
theorem dX12_on_160 : decode cX12_on 160 = .ok (.getfield 35, 3) := by decide +kernel
theorem dX12_on_163 : decode cX12_on 163 = .ok (.iload_n 3, 1) := by decide +kernel
theorem dX12_on_164 : decode cX12_on 164 = .ok (.aload_n 0, 1) := by decide +kernel
theorem dX12_on_165 : decode cX12_on 165 = .ok (.getfield 47, 3) := by decide +kernel
theorem dX12_on_168 : decode cX12_on 168 = .ok (.iload_n 2, 1) := by decide +kernel
theorem dX12_on_169 : decode cX12_on 169 = .ok (.bipush 9, 2) := by decide +kernel
theorem dX12_on_171 : decode cX12_on 171 = .ok (.iadd, 1) := by decide +kernel
theorem dX12_on_172 : decode cX12_on 172 = .ok (.iload_n 3, 1) := by decide +kernel
theorem dX12_on_173 : decode cX12_on 173 = .ok (.iadd, 1) := by decide +kernel
theorem dX12_on_174 : decode cX12_on 174 = .ok (.iaload, 1) := by decide +kernel
theorem dX12_on_175 : decode cX12_on 175 = .ok (.iastore, 1) := by decide +kernel
theorem dX12_on_176 : decode cX12_on 176 = .ok (.aload_n 0, 1) := by decide +kernel
theorem dX12_on_177 : decode cX12_on 177 = .ok (.getfield 38, 3) := by decide +kernel
theorem dX12_on_180 : decode cX12_on 180 = .ok (.iload_n 3, 1) := by decide +kernel
theorem dX12_on_181 : decode cX12_on 181 = .ok (.aload_n 0, 1) := by decide +kernel
theorem dX12_on_182 : decode cX12_on 182 = .ok (.getfield 47, 3) := by decide +kernel
theorem dX12_on_185 : decode cX12_on 185 = .ok (.iload_n 2, 1) := by decide +kernel
theorem dX12_on_186 : decode cX12_on 186 = .ok (.bipush 18, 2) := by decide +kernel
theorem dX12_on_188 : decode cX12_on 188 = .ok (.iadd, 1) := by decide +kernel
theorem dX12_on_189 : decode cX12_on 189 = .ok (.iload_n 3, 1) := by decide +kernel
theorem dX12_on_190 : decode cX12_on 190 = .ok (.iadd, 1) := by decide +kernel
theorem dX12_on_191 : decode cX12_on 191 = .ok (.iaload, 1) := by decide +kernel
theorem dX12_on_192 : decode cX12_on 192 = .ok (.iastore, 1) := by decide +kernel
theorem dX12_on_193 : decode cX12_on 193 = .ok (.aload_n 0, 1) := by decide +kernel
theorem dX12_on_194 : decode cX12_on 194 = .ok (.getfield 41, 3) := by decide +kernel
theorem dX12_on_197 : decode cX12_on 197 = .ok (.iload_n 3, 1) := by decide +kernel
theorem dX12_on_198 : decode cX12_on 198 = .ok (.aload_n 0, 1) := by decide +kernel
theorem dX12_on_199 : decode cX12_on 199 = .ok (.getfield 47, 3) := by decide +kernel
theorem dX12_on_202 : decode cX12_on 202 = .ok (.iload_n 2, 1) := by decide +kernel
theorem dX12_on_203 : decode cX12_on 203 = .ok (.bipush 27, 2) := by decide +kernel
theorem dX12_on_205 : decode cX12_on 205 = .ok (.iadd, 1) := by decide +kernel
theorem dX12_on_206 : decode cX12_on 206 = .ok (.iload_n 3, 1) := by decide +kernel
theorem dX12_on_207 : decode cX12_on 207 = .ok (.iadd, 1) := by decide +kernel
theorem dX12_on_208 : decode cX12_on 208 = .ok (.iaload, 1) := by decide +kernel
theorem dX12_on_209 : decode cX12_on 209 = .ok (.iastore, 1) := by decide +kernel
theorem dX12_on_210 : decode cX12_on 210 = .ok (.iinc 3 1, 3) := by decide +kernel
theorem dX12_on_213 : decode cX12_on 213 = .ok (.goto (-60), 3) := by decide +kernel
theorem dX12_on_216 : decode cX12_on 216 = .ok (.aload_n 0, 1) := by decide +kernel
theorem dX12_on_217 : decode cX12_on 217 = .ok (.getfield 170, 3) := by decide +kernel
theorem dX12_on_220 : decode cX12_on 220 = .ok (.ireturn, 1) := by decide +kernel
theorem dX12_setOdds_0 : decode cX12_setOdds 0 = .ok (.iconst 0, 1) := by decide +kernel
theorem dX12_setOdds_1 : decode cX12_setOdds 1 = .ok (.istore 7, 2) := by decide +kernel
theorem dX12_setOdds_3 : decode cX12_setOdds 3 = .ok (.iload 7, 2) := by decide +kernel
theorem dX12_setOdds_5 : decode cX12_setOdds 5 = .ok (.sipush 4608, 3) := by decide +kernel
theorem dX12_setOdds_8 : decode cX12_setOdds 8 = .ok (.if_icmp .ge 17, 3) := by decide +kernel
theorem dX12_setOdds_11 : decode cX12_setOdds 11 = .ok (.aload_n 0, 1) := by decide +kernel
theorem dX12_setOdds_12 : decode cX12_setOdds 12 = .ok (.getfield 50, 3) := by decide +kernel
theorem dX12_setOdds_15 : decode cX12_setOdds 15 = .ok (.iload 7, 2) := by decide +kernel
theorem dX12_setOdds_17 : decode cX12_setOdds 17 = .ok (.lconst 0, 1) := by decide +kernel
theorem dX12_setOdds_18 : decode cX12_setOdds 18 = .ok (.lastore, 1) := by decide +kernel
theorem dX12_setOdds_19 : decode cX12_setOdds 19 = .ok (.iinc 7 1, 3) := by decide +kernel
theorem dX12_setOdds_22 : decode cX12_setOdds 22 = .ok (.goto (-19), 3) := by decide +kernel
theorem dX12_setOdds_25 : decode cX12_setOdds 25 = .ok (.aload_n 0, 1) := by decide +kernel
theorem dX12_setOdds_26 : decode cX12_setOdds 26 = .ok (.iload_n 2, 1) := by decide +kernel
theorem dX12_setOdds_27 : decode cX12_setOdds 27 = .ok (.ifCond .eq 7, 3) := by decide +kernel
theorem dX12_setOdds_30 : decode cX12_setOdds 30 = .ok (.lconst 1, 1) := by decide +kernel
theorem dX12_setOdds_31 : decode cX12_setOdds 31 = .ok (.goto 4, 3) := by decide +kernel
theorem dX12_setOdds_34 : decode cX12_setOdds 34 = .ok (.lconst 0, 1) := by decide +kernel
theorem dX12_setOdds_35 : decode cX12_setOdds 35 = .ok (.putfield 263, 3) := by decide +kernel
theorem dX12_setOdds_38 : decode cX12_setOdds 38 = .ok (.aload_n 0, 1) := by decide +kernel
theorem dX12_setOdds_39 : decode cX12_setOdds 39 = .ok (.lconst 1, 1) := by decide +kernel
theorem dX12_setOdds_40 : decode cX12_setOdds 40 = .ok (.putfield 266, 3) := by decide +kernel
theorem dX12_setOdds_43 : decode cX12_setOdds 43 = .ok (.iload_n 2, 1) := by decide +kernel
theorem dX12_setOdds_44 : decode cX12_setOdds 44 = .ok (.ifCond .ne 16, 3) := by decide +kernel
theorem dX12_setOdds_47 : decode cX12_setOdds 47 = .ok (.aload_n 0, 1) := by decide +kernel
theorem dX12_setOdds_48 : decode cX12_setOdds 48 = .ok (.getfield 50, 3) := by decide +kernel
theorem dX12_setOdds_51 : decode cX12_setOdds 51 = .ok (.sipush 512, 3) := by decide +kernel
theorem dX12_setOdds_54 : decode cX12_setOdds 54 = .ok (.iload_n 1, 1) := by decide +kernel
theorem dX12_setOdds_55 : decode cX12_setOdds 55 = .ok (.imul, 1) := by decide +kernel
theorem dX12_setOdds_56 : decode cX12_setOdds 56 = .ok (.iload_n 3, 1) := by decide +kernel
theorem dX12_setOdds_57 : decode cX12_setOdds 57 = .ok (.iadd, 1) := by decide +kernel
theorem dX12_setOdds_58 : decode cX12_setOdds 58 = .ok (.lconst 1, 1) := by decide +kernel
theorem dX12_setOdds_59 : decode cX12_setOdds 59 = .ok (.lastore, 1) := by decide +kernel
theorem dX12_setOdds_60 : decode cX12_setOdds 60 = .ok (.iconst 0, 1) := by decide +kernel
theorem dX12_setOdds_61 : decode cX12_setOdds 61 = .ok (.istore 7, 2) := by decide +kernel
theorem dX12_setOdds_63 : decode cX12_setOdds 63 = .ok (.iload 7, 2) := by decide +kernel
theorem dX12_setOdds_65 : decode cX12_setOdds 65 = .ok (.iload 6, 2) := by decide +kernel
theorem dX12_setOdds_67 : decode cX12_setOdds 67 = .ok (.if_icmp .ge 136, 3) := by decide +kernel
theorem dX12_setOdds_70 : decode cX12_setOdds 70 = .ok (.iconst 0, 1) := by decide +kernel
theorem dX12_setOdds_71 : decode cX12_setOdds 71 = .ok (.istore 8, 2) := by decide +kernel
theorem dX12_setOdds_73 : decode cX12_setOdds 73 = .ok (.iload 8, 2) := by decide +kernel
theorem dX12_setOdds_75 : decode cX12_setOdds 75 = .ok (.sipush 4608, 3) := by decide +kernel
theorem dX12_setOdds_78 : decode cX12_setOdds 78 = .ok (.if_icmp .ge 17, 3) := by decide +kernel
theorem dX12_setOdds_81 : decode cX12_setOdds 81 = .ok (.aload_n 0, 1) := by decide +kernel
theorem dX12_setOdds_82 : decode cX12_setOdds 82 = .ok (.getfield 54, 3) := by decide +kernel
theorem dX12_setOdds_85 : decode cX12_setOdds 85 = .ok (.iload 8, 2) := by decide +kernel
theorem dX12_setOdds_87 : decode cX12_setOdds 87 = .ok (.lconst 0, 1) := by decide +kernel
theorem dX12_setOdds_88 : decode cX12_setOdds 88 = .ok (.lastore, 1) := by decide +kernel
theorem dX12_setOdds_89 : decode cX12_setOdds 89 = .ok (.iinc 8 1, 3) := by decide +kernel
theorem dX12_setOdds_92 : decode cX12_setOdds 92 = .ok (.goto (-19), 3) := by decide +kernel
theorem dX12_setOdds_95 : decode cX12_setOdds 95 = .ok (.aload_n 0, 1) := by decide +kernel
theorem dX12_setOdds_96 : decode cX12_setOdds 96 = .ok (.dup, 1) := by decide +kernel
theorem dX12_setOdds_97 : decode cX12_setOdds 97 = .ok (.getfield 263, 3) := by decide +kernel
theorem dX12_setOdds_100 : decode cX12_setOdds 100 = .ok (.ldc2_w 255, 3) := by decide +kernel
theorem dX12_setOdds_103 : decode cX12_setOdds 103 = .ok (.lmul, 1) := by decide +kernel
theorem dX12_setOdds_104 : decode cX12_setOdds 104 = .ok (.putfield 263, 3) := by decide +kernel
theorem dX12_setOdds_107 : decode cX12_setOdds 107 = .ok (.aload_n 0, 1) := by decide +kernel
theorem dX12_setOdds_108 : decode cX12_setOdds 108 = .ok (.dup, 1) := by decide +kernel
theorem dX12_setOdds_109 : decode cX12_setOdds 109 = .ok (.getfield 266, 3) := by decide +kernel
theorem dX12_setOdds_112 : decode cX12_setOdds 112 = .ok (.ldc2_w 255, 3) := by decide +kernel
theorem dX12_setOdds_115 : decode cX12_setOdds 115 = .ok (.lmul, 1) := by decide +kernel
theorem dX12_setOdds_116 : decode cX12_setOdds 116 = .ok (.putfield 266, 3) := by decide +kernel
theorem dX12_setOdds_119 : decode cX12_setOdds 119 = .ok (.iconst 0, 1) := by decide +kernel
theorem dX12_setOdds_120 : decode cX12_setOdds 120 = .ok (.istore 8, 2) := by decide +kernel
theorem dX12_setOdds_122 : decode cX12_setOdds 122 = .ok (.iload 8, 2) := by decide +kernel
theorem dX12_setOdds_124 : decode cX12_setOdds 124 = .ok (.sipush 512, 3) := by decide +kernel
theorem dX12_setOdds_127 : decode cX12_setOdds 127 = .ok (.aload_n 0, 1) := by decide +kernel
theorem dX12_setOdds_128 : decode cX12_setOdds 128 = .ok (.getfield 141, 3) := by decide +kernel
theorem dX12_setOdds_131 : decode cX12_setOdds 131 = .ok (.imul, 1) := by decide +kernel
theorem dX12_setOdds_132 : decode cX12_setOdds 132 = .ok (.if_icmp .ge 34, 3) := by decide +kernel
theorem dX12_setOdds_135 : decode cX12_setOdds 135 = .ok (.aload_n 0, 1) := by decide +kernel
theorem dX12_setOdds_136 : decode cX12_setOdds 136 = .ok (.getfield 50, 3) := by decide +kernel
theorem dX12_setOdds_139 : decode cX12_setOdds 139 = .ok (.iload 8, 2) := by decide +kernel
theorem dX12_setOdds_141 : decode cX12_setOdds 141 = .ok (.laload, 1) := by decide +kernel
theorem dX12_setOdds_142 : decode cX12_setOdds 142 = .ok (.lconst 0, 1) := by decide +kernel
theorem dX12_setOdds_143 : decode cX12_setOdds 143 = .ok (.lcmp, 1) := by decide +kernel
theorem dX12_setOdds_144 : decode cX12_setOdds 144 = .ok (.ifCond .le 16, 3) := by decide +kernel
theorem dX12_setOdds_147 : decode cX12_setOdds 147 = .ok (.aload_n 0, 1) := by decide +kernel
theorem dX12_setOdds_148 : decode cX12_setOdds 148 = .ok (.iload 8, 2) := by decide +kernel
theorem dX12_setOdds_150 : decode cX12_setOdds 150 = .ok (.iload 4, 2) := by decide +kernel
theorem dX12_setOdds_152 : decode cX12_setOdds 152 = .ok (.iload 5, 2) := by decide +kernel
theorem dX12_setOdds_154 : decode cX12_setOdds 154 = .ok (.iload 7, 2) := by decide +kernel
theorem dX12_setOdds_156 : decode cX12_setOdds 156 = .ok (.iadd, 1) := by decide +kernel
theorem dX12_setOdds_157 : decode cX12_setOdds 157 = .ok (.invokevirtual 269, 3) := by decide +kernel
theorem dX12_setOdds_160 : decode cX12_setOdds 160 = .ok (.iinc 8 1, 3) := by decide +kernel
theorem dX12_setOdds_163 : decode cX12_setOdds 163 = .ok (.goto (-41), 3) := by decide +kernel
theorem dX12_setOdds_166 : decode cX12_setOdds 166 = .ok (.iconst 0, 1) := by decide +kernel
theorem dX12_setOdds_167 : decode cX12_setOdds 167 = .ok (.istore 8, 2) := by decide +kernel
theorem dX12_setOdds_169 : decode cX12_setOdds 169 = .ok (.iload 8, 2) := by decide +kernel
theorem dX12_setOdds_171 : decode cX12_setOdds 171 = .ok (.sipush 4608, 3) := by decide +kernel
theorem dX12_setOdds_174 : decode cX12_setOdds 174 = .ok (.if_icmp .ge 23, 3) := by decide +kernel
theorem dX12_setOdds_177 : decode cX12_setOdds 177 = .ok (.aload_n 0, 1) := by decide +kernel
theorem dX12_setOdds_178 : decode cX12_setOdds 178 = .ok (.getfield 50, 3) := by decide +kernel
theorem dX12_setOdds_181 : decode cX12_setOdds 181 = .ok (.iload 8, 2) := by decide +kernel
theorem dX12_setOdds_183 : decode cX12_setOdds 183 = .ok (.aload_n 0, 1) := by decide +kernel
theorem dX12_setOdds_184 : decode cX12_setOdds 184 = .ok (.getfield 54, 3) := by decide +kernel
theorem dX12_setOdds_187 : decode cX12_setOdds 187 = .ok (.iload 8, 2) := by decide +kernel
theorem dX12_setOdds_189 : decode cX12_setOdds 189 = .ok (.laload, 1) := by decide +kernel
theorem dX12_setOdds_190 : decode cX12_setOdds 190 = .ok (.lastore, 1) := by decide +kernel
theorem dX12_setOdds_191 : decode cX12_setOdds 191 = .ok (.iinc 8 1, 3) := by decide +kernel
theorem dX12_setOdds_194 : decode cX12_setOdds 194 = .ok (.goto (-25), 3) := by decide +kernel
theorem dX12_setOdds_197 : decode cX12_setOdds 197 = .ok (.iinc 7 1, 3) := by decide +kernel
theorem dX12_setOdds_200 : decode cX12_setOdds 200 = .ok (.goto (-137), 3) := by decide +kernel
theorem dX12_setOdds_203 : decode cX12_setOdds 203 = .ok (.return_, 1) := by decide +kernel
theorem dX12_addHour_0 : decode cX12_addHour 0 = .ok (.aload_n 0, 1) := by decide +kernel
theorem dX12_addHour_1 : decode cX12_addHour 1 = .ok (.iload_n 1, 1) := by decide +kernel
theorem dX12_addHour_2 : decode cX12_addHour 2 = .ok (.sipush 512, 3) := by decide +kernel
theorem dX12_addHour_5 : decode cX12_addHour 5 = .ok (.idiv, 1) := by decide +kernel
theorem dX12_addHour_6 : decode cX12_addHour 6 = .ok (.iload_n 1, 1) := by decide +kernel
theorem dX12_addHour_7 : decode cX12_addHour 7 = .ok (.sipush 512, 3) := by decide +kernel
theorem dX12_addHour_10 : decode cX12_addHour 10 = .ok (.irem, 1) := by decide +kernel
theorem dX12_addHour_11 : decode cX12_addHour 11 = .ok (.iload_n 2, 1) := by decide +kernel
theorem dX12_addHour_12 : decode cX12_addHour 12 = .ok (.iload_n 3, 1) := by decide +kernel
theorem dX12_addHour_13 : decode cX12_addHour 13 = .ok (.iconst 0, 1) := by decide +kernel
theorem dX12_addHour_14 : decode cX12_addHour 14 = .ok (.invokevirtual 247, 3) := by decide +kernel
theorem dX12_addHour_17 : decode cX12_addHour 17 = .ok (.aload_n 0, 1) := by decide +kernel
theorem dX12_addHour_18 : decode cX12_addHour 18 = .ok (.getfield 228, 3) := by decide +kernel
theorem dX12_addHour_21 : decode cX12_addHour 21 = .ok (.ifCond .le 11, 3) := by decide +kernel
theorem dX12_addHour_24 : decode cX12_addHour 24 = .ok (.aload_n 0, 1) := by decide +kernel
theorem dX12_addHour_25 : decode cX12_addHour 25 = .ok (.getfield 228, 3) := by decide +kernel
theorem dX12_addHour_28 : decode cX12_addHour 28 = .ok (.i2l, 1) := by decide +kernel
theorem dX12_addHour_29 : decode cX12_addHour 29 = .ok (.goto 17, 3) := by decide +kernel
theorem dX12_addHour_32 : decode cX12_addHour 32 = .ok (.aload_n 0, 1) := by decide +kernel
theorem dX12_addHour_33 : decode cX12_addHour 33 = .ok (.getfield 225, 3) := by decide +kernel
theorem dX12_addHour_36 : decode cX12_addHour 36 = .ok (.ifCond .eq 9, 3) := by decide +kernel
theorem dX12_addHour_39 : decode cX12_addHour 39 = .ok (.ldc2_w 255, 3) := by decide +kernel
theorem dX12_addHour_42 : decode cX12_addHour 42 = .ok (.goto 4, 3) := by decide +kernel
theorem dX12_addHour_45 : decode cX12_addHour 45 = .ok (.lconst 0, 1) := by decide +kernel
theorem dX12_addHour_46 : decode cX12_addHour 46 = .ok (.lstore 4, 2) := by decide +kernel
theorem dX12_addHour_48 : decode cX12_addHour 48 = .ok (.aload_n 0, 1) := by decide +kernel
theorem dX12_addHour_49 : decode cX12_addHour 49 = .ok (.getfield 228, 3) := by decide +kernel
theorem dX12_addHour_52 : decode cX12_addHour 52 = .ok (.ifCond .le 20, 3) := by decide +kernel
theorem dX12_addHour_55 : decode cX12_addHour 55 = .ok (.aload_n 0, 1) := by decide +kernel
theorem dX12_addHour_56 : decode cX12_addHour 56 = .ok (.getfield 243, 3) := by decide +kernel
theorem dX12_addHour_59 : decode cX12_addHour 59 = .ok (.bipush (-9), 2) := by decide +kernel
theorem dX12_addHour_61 : decode cX12_addHour 61 = .ok (.if_icmp .ne 7, 3) := by decide +kernel
theorem dX12_addHour_64 : decode cX12_addHour 64 = .ok (.iconst 1, 1) := by decide +kernel
theorem dX12_addHour_65 : decode cX12_addHour 65 = .ok (.goto 11, 3) := by decide +kernel
theorem dX12_addHour_68 : decode cX12_addHour 68 = .ok (.iconst 0, 1) := by decide +kernel
theorem dX12_addHour_69 : decode cX12_addHour 69 = .ok (.goto 7, 3) := by decide +kernel
theorem dX12_addHour_72 : decode cX12_addHour 72 = .ok (.aload_n 0, 1) := by decide +kernel
theorem dX12_addHour_73 : decode cX12_addHour 73 = .ok (.getfield 225, 3) := by decide +kernel
theorem dX12_addHour_76 : decode cX12_addHour 76 = .ok (.istore 6, 2) := by decide +kernel
theorem dX12_addHour_78 : decode cX12_addHour 78 = .ok (.aload_n 0, 1) := by decide +kernel
theorem dX12_addHour_79 : decode cX12_addHour 79 = .ok (.dup, 1) := by decide +kernel
theorem dX12_addHour_80 : decode cX12_addHour 80 = .ok (.getfield 263, 3) := by decide +kernel
theorem dX12_addHour_83 : decode cX12_addHour 83 = .ok (.iload 6, 2) := by decide +kernel
theorem dX12_addHour_85 : decode cX12_addHour 85 = .ok (.ifCond .eq 15, 3) := by decide +kernel
theorem dX12_addHour_88 : decode cX12_addHour 88 = .ok (.lload 4, 2) := by decide +kernel
theorem dX12_addHour_90 : decode cX12_addHour 90 = .ok (.aload_n 0, 1) := by decide +kernel
theorem dX12_addHour_91 : decode cX12_addHour 91 = .ok (.getfield 50, 3) := by decide +kernel
theorem dX12_addHour_94 : decode cX12_addHour 94 = .ok (.iload_n 1, 1) := by decide +kernel
theorem dX12_addHour_95 : decode cX12_addHour 95 = .ok (.laload, 1) := by decide +kernel
theorem dX12_addHour_96 : decode cX12_addHour 96 = .ok (.lmul, 1) := by decide +kernel
theorem dX12_addHour_97 : decode cX12_addHour 97 = .ok (.goto 4, 3) := by decide +kernel
theorem dX12_addHour_100 : decode cX12_addHour 100 = .ok (.lconst 0, 1) := by decide +kernel
theorem dX12_addHour_101 : decode cX12_addHour 101 = .ok (.ladd, 1) := by decide +kernel
theorem dX12_addHour_102 : decode cX12_addHour 102 = .ok (.putfield 263, 3) := by decide +kernel
theorem dX12_addHour_105 : decode cX12_addHour 105 = .ok (.aload_n 0, 1) := by decide +kernel
theorem dX12_addHour_106 : decode cX12_addHour 106 = .ok (.getfield 228, 3) := by decide +kernel
theorem dX12_addHour_109 : decode cX12_addHour 109 = .ok (.ifCond .le 38, 3) := by decide +kernel
theorem dX12_addHour_112 : decode cX12_addHour 112 = .ok (.iload 6, 2) := by decide +kernel
theorem dX12_addHour_114 : decode cX12_addHour 114 = .ok (.ifCond .ne 33, 3) := by decide +kernel
theorem dX12_addHour_117 : decode cX12_addHour 117 = .ok (.aload_n 0, 1) := by decide +kernel
theorem dX12_addHour_118 : decode cX12_addHour 118 = .ok (.getfield 54, 3) := by decide +kernel
theorem dX12_addHour_121 : decode cX12_addHour 121 = .ok (.sipush 512, 3) := by decide +kernel
theorem dX12_addHour_124 : decode cX12_addHour 124 = .ok (.aload_n 0, 1) := by decide +kernel
theorem dX12_addHour_125 : decode cX12_addHour 125 = .ok (.getfield 243, 3) := by decide +kernel
theorem dX12_addHour_128 : decode cX12_addHour 128 = .ok (.imul, 1) := by decide +kernel
theorem dX12_addHour_129 : decode cX12_addHour 129 = .ok (.aload_n 0, 1) := by decide +kernel
theorem dX12_addHour_130 : decode cX12_addHour 130 = .ok (.getfield 222, 3) := by decide +kernel
theorem dX12_addHour_133 : decode cX12_addHour 133 = .ok (.iadd, 1) := by decide +kernel
theorem dX12_addHour_134 : decode cX12_addHour 134 = .ok (.dup2, 1) := by decide +kernel
theorem dX12_addHour_135 : decode cX12_addHour 135 = .ok (.laload, 1) := by decide +kernel
theorem dX12_addHour_136 : decode cX12_addHour 136 = .ok (.lload 4, 2) := by decide +kernel
theorem dX12_addHour_138 : decode cX12_addHour 138 = .ok (.aload_n 0, 1) := by decide +kernel
theorem dX12_addHour_139 : decode cX12_addHour 139 = .ok (.getfield 50, 3) := by decide +kernel
theorem dX12_addHour_142 : decode cX12_addHour 142 = .ok (.iload_n 1, 1) := by decide +kernel
theorem dX12_addHour_143 : decode cX12_addHour 143 = .ok (.laload, 1) := by decide +kernel
theorem dX12_addHour_144 : decode cX12_addHour 144 = .ok (.lmul, 1) := by decide +kernel
theorem dX12_addHour_145 : decode cX12_addHour 145 = .ok (.ladd, 1) := by decide +kernel
theorem dX12_addHour_146 : decode cX12_addHour 146 = .ok (.lastore, 1) := by decide +kernel
theorem dX12_addHour_147 : decode cX12_addHour 147 = .ok (.lload 4, 2) := by decide +kernel
theorem dX12_addHour_149 : decode cX12_addHour 149 = .ok (.ldc2_w 255, 3) := by decide +kernel
theorem dX12_addHour_152 : decode cX12_addHour 152 = .ok (.lcmp, 1) := by decide +kernel
theorem dX12_addHour_153 : decode cX12_addHour 153 = .ok (.ifCond .ge 37, 3) := by decide +kernel
theorem dX12_addHour_156 : decode cX12_addHour 156 = .ok (.aload_n 0, 1) := by decide +kernel
theorem dX12_addHour_157 : decode cX12_addHour 157 = .ok (.getfield 54, 3) := by decide +kernel
theorem dX12_addHour_160 : decode cX12_addHour 160 = .ok (.sipush 512, 3) := by decide +kernel
theorem dX12_addHour_163 : decode cX12_addHour 163 = .ok (.aload_n 0, 1) := by decide +kernel
theorem dX12_addHour_164 : decode cX12_addHour 164 = .ok (.getfield 219, 3) := by decide +kernel
theorem dX12_addHour_167 : decode cX12_addHour 167 = .ok (.imul, 1) := by decide +kernel
theorem dX12_addHour_168 : decode cX12_addHour 168 = .ok (.aload_n 0, 1) := by decide +kernel
theorem dX12_addHour_169 : decode cX12_addHour 169 = .ok (.getfield 222, 3) := by decide +kernel
theorem dX12_addHour_172 : decode cX12_addHour 172 = .ok (.iadd, 1) := by decide +kernel
theorem dX12_addHour_173 : decode cX12_addHour 173 = .ok (.dup2, 1) := by decide +kernel
theorem dX12_addHour_174 : decode cX12_addHour 174 = .ok (.laload, 1) := by decide +kernel
theorem dX12_addHour_175 : decode cX12_addHour 175 = .ok (.ldc2_w 255, 3) := by decide +kernel
theorem dX12_addHour_178 : decode cX12_addHour 178 = .ok (.lload 4, 2) := by decide +kernel
theorem dX12_addHour_180 : decode cX12_addHour 180 = .ok (.lsub, 1) := by decide +kernel
theorem dX12_addHour_181 : decode cX12_addHour 181 = .ok (.aload_n 0, 1) := by decide +kernel
theorem dX12_addHour_182 : decode cX12_addHour 182 = .ok (.getfield 50, 3) := by decide +kernel
theorem dX12_addHour_185 : decode cX12_addHour 185 = .ok (.iload_n 1, 1) := by decide +kernel
theorem dX12_addHour_186 : decode cX12_addHour 186 = .ok (.laload, 1) := by decide +kernel
theorem dX12_addHour_187 : decode cX12_addHour 187 = .ok (.lmul, 1) := by decide +kernel
theorem dX12_addHour_188 : decode cX12_addHour 188 = .ok (.ladd, 1) := by decide +kernel
theorem dX12_addHour_189 : decode cX12_addHour 189 = .ok (.lastore, 1) := by decide +kernel
theorem dX12_addHour_190 : decode cX12_addHour 190 = .ok (.return_, 1) := by decide +kernel
theorem dX12_weightAt_0 : decode cX12_weightAt 0 = .ok (.iload_n 1, 1) := by decide +kernel
theorem dX12_weightAt_1 : decode cX12_weightAt 1 = .ok (.aload_n 0, 1) := by decide +kernel
theorem dX12_weightAt_2 : decode cX12_weightAt 2 = .ok (.getfield 206, 3) := by decide +kernel
theorem dX12_weightAt_5 : decode cX12_weightAt 5 = .ok (.if_icmp .ne 10, 3) := by decide +kernel
theorem dX12_weightAt_8 : decode cX12_weightAt 8 = .ok (.aload_n 0, 1) := by decide +kernel
theorem dX12_weightAt_9 : decode cX12_weightAt 9 = .ok (.getfield 263, 3) := by decide +kernel
theorem dX12_weightAt_12 : decode cX12_weightAt 12 = .ok (.goto 4, 3) := by decide +kernel
theorem dX12_weightAt_15 : decode cX12_weightAt 15 = .ok (.lconst 0, 1) := by decide +kernel
theorem dX12_weightAt_16 : decode cX12_weightAt 16 = .ok (.lstore_n 2, 1) := by decide +kernel
theorem dX12_weightAt_17 : decode cX12_weightAt 17 = .ok (.iconst 0, 1) := by decide +kernel
theorem dX12_weightAt_18 : decode cX12_weightAt 18 = .ok (.istore 4, 2) := by decide +kernel
theorem dX12_weightAt_20 : decode cX12_weightAt 20 = .ok (.iload 4, 2) := by decide +kernel
theorem dX12_weightAt_22 : decode cX12_weightAt 22 = .ok (.sipush 512, 3) := by decide +kernel
theorem dX12_weightAt_25 : decode cX12_weightAt 25 = .ok (.if_icmp .ge 25, 3) := by decide +kernel
theorem dX12_weightAt_28 : decode cX12_weightAt 28 = .ok (.lload_n 2, 1) := by decide +kernel
theorem dX12_weightAt_29 : decode cX12_weightAt 29 = .ok (.aload_n 0, 1) := by decide +kernel
theorem dX12_weightAt_30 : decode cX12_weightAt 30 = .ok (.getfield 50, 3) := by decide +kernel
theorem dX12_weightAt_33 : decode cX12_weightAt 33 = .ok (.sipush 512, 3) := by decide +kernel
theorem dX12_weightAt_36 : decode cX12_weightAt 36 = .ok (.iload_n 1, 1) := by decide +kernel
theorem dX12_weightAt_37 : decode cX12_weightAt 37 = .ok (.imul, 1) := by decide +kernel
theorem dX12_weightAt_38 : decode cX12_weightAt 38 = .ok (.iload 4, 2) := by decide +kernel
theorem dX12_weightAt_40 : decode cX12_weightAt 40 = .ok (.iadd, 1) := by decide +kernel
theorem dX12_weightAt_41 : decode cX12_weightAt 41 = .ok (.laload, 1) := by decide +kernel
theorem dX12_weightAt_42 : decode cX12_weightAt 42 = .ok (.ladd, 1) := by decide +kernel
theorem dX12_weightAt_43 : decode cX12_weightAt 43 = .ok (.lstore_n 2, 1) := by decide +kernel
theorem dX12_weightAt_44 : decode cX12_weightAt 44 = .ok (.iinc 4 1, 3) := by decide +kernel
theorem dX12_weightAt_47 : decode cX12_weightAt 47 = .ok (.goto (-27), 3) := by decide +kernel
theorem dX12_weightAt_50 : decode cX12_weightAt 50 = .ok (.lload_n 2, 1) := by decide +kernel
theorem dX12_weightAt_51 : decode cX12_weightAt 51 = .ok (.lreturn, 1) := by decide +kernel
theorem dX12_friday_0 : decode cX12_friday 0 = .ok (.iload_n 1, 1) := by decide +kernel
theorem dX12_friday_1 : decode cX12_friday 1 = .ok (.iconst 0, 1) := by decide +kernel
theorem dX12_friday_2 : decode cX12_friday 2 = .ok (.bipush 12, 2) := by decide +kernel
theorem dX12_friday_4 : decode cX12_friday 4 = .ok (.invokestatic 88, 3) := by decide +kernel
theorem dX12_friday_7 : decode cX12_friday 7 = .ok (.ifCond .ne 5, 3) := by decide +kernel
theorem dX12_friday_10 : decode cX12_friday 10 = .ok (.iconst (-1), 1) := by decide +kernel
theorem dX12_friday_11 : decode cX12_friday 11 = .ok (.ireturn, 1) := by decide +kernel
theorem dX12_friday_12 : decode cX12_friday 12 = .ok (.aload_n 0, 1) := by decide +kernel
theorem dX12_friday_13 : decode cX12_friday 13 = .ok (.getfield 141, 3) := by decide +kernel
theorem dX12_friday_16 : decode cX12_friday 16 = .ok (.ifCond .ne 6, 3) := by decide +kernel
theorem dX12_friday_19 : decode cX12_friday 19 = .ok (.bipush (-4), 2) := by decide +kernel
theorem dX12_friday_21 : decode cX12_friday 21 = .ok (.ireturn, 1) := by decide +kernel
theorem dX12_friday_22 : decode cX12_friday 22 = .ok (.aload_n 0, 1) := by decide +kernel
theorem dX12_friday_23 : decode cX12_friday 23 = .ok (.aload_n 0, 1) := by decide +kernel
theorem dX12_friday_24 : decode cX12_friday 24 = .ok (.getfield 212, 3) := by decide +kernel
theorem dX12_friday_27 : decode cX12_friday 27 = .ok (.aload_n 0, 1) := by decide +kernel
theorem dX12_friday_28 : decode cX12_friday 28 = .ok (.getfield 215, 3) := by decide +kernel
theorem dX12_friday_31 : decode cX12_friday 31 = .ok (.aload_n 0, 1) := by decide +kernel
theorem dX12_friday_32 : decode cX12_friday 32 = .ok (.getfield 188, 3) := by decide +kernel
theorem dX12_friday_35 : decode cX12_friday 35 = .ok (.aload_n 0, 1) := by decide +kernel
theorem dX12_friday_36 : decode cX12_friday 36 = .ok (.getfield 209, 3) := by decide +kernel
theorem dX12_friday_39 : decode cX12_friday 39 = .ok (.aload_n 0, 1) := by decide +kernel
theorem dX12_friday_40 : decode cX12_friday 40 = .ok (.getfield 170, 3) := by decide +kernel
theorem dX12_friday_43 : decode cX12_friday 43 = .ok (.iload_n 1, 1) := by decide +kernel
theorem dX12_friday_44 : decode cX12_friday 44 = .ok (.invokevirtual 272, 3) := by decide +kernel
theorem dX12_friday_47 : decode cX12_friday 47 = .ok (.aload_n 0, 1) := by decide +kernel
theorem dX12_friday_48 : decode cX12_friday 48 = .ok (.aload_n 0, 1) := by decide +kernel
theorem dX12_friday_49 : decode cX12_friday 49 = .ok (.getfield 263, 3) := by decide +kernel
theorem dX12_friday_52 : decode cX12_friday 52 = .ok (.aload_n 0, 1) := by decide +kernel
theorem dX12_friday_53 : decode cX12_friday 53 = .ok (.getfield 266, 3) := by decide +kernel
theorem dX12_friday_56 : decode cX12_friday 56 = .ok (.iconst 1, 1) := by decide +kernel
theorem dX12_friday_57 : decode cX12_friday 57 = .ok (.invokevirtual 276, 3) := by decide +kernel
theorem dX12_friday_60 : decode cX12_friday 60 = .ok (.ireturn, 1) := by decide +kernel
theorem dX12_odds_0 : decode cX12_odds 0 = .ok (.iload_n 1, 1) := by decide +kernel
theorem dX12_odds_1 : decode cX12_odds 1 = .ok (.iconst 0, 1) := by decide +kernel
theorem dX12_odds_2 : decode cX12_odds 2 = .ok (.bipush 12, 2) := by decide +kernel
theorem dX12_odds_4 : decode cX12_odds 4 = .ok (.invokestatic 88, 3) := by decide +kernel
theorem dX12_odds_7 : decode cX12_odds 7 = .ok (.ifCond .eq 11, 3) := by decide +kernel
theorem dX12_odds_10 : decode cX12_odds 10 = .ok (.aload_n 0, 1) := by decide +kernel
theorem dX12_odds_11 : decode cX12_odds 11 = .ok (.iload_n 2, 1) := by decide +kernel
theorem dX12_odds_12 : decode cX12_odds 12 = .ok (.invokevirtual 160, 3) := by decide +kernel
theorem dX12_odds_15 : decode cX12_odds 15 = .ok (.ifCond .ne 5, 3) := by decide +kernel
theorem dX12_odds_18 : decode cX12_odds 18 = .ok (.iconst (-1), 1) := by decide +kernel
theorem dX12_odds_19 : decode cX12_odds 19 = .ok (.ireturn, 1) := by decide +kernel
theorem dX12_odds_20 : decode cX12_odds 20 = .ok (.aload_n 0, 1) := by decide +kernel
theorem dX12_odds_21 : decode cX12_odds 21 = .ok (.aload_n 0, 1) := by decide +kernel
theorem dX12_odds_22 : decode cX12_odds 22 = .ok (.getfield 212, 3) := by decide +kernel
theorem dX12_odds_25 : decode cX12_odds 25 = .ok (.aload_n 0, 1) := by decide +kernel
theorem dX12_odds_26 : decode cX12_odds 26 = .ok (.getfield 215, 3) := by decide +kernel
theorem dX12_odds_29 : decode cX12_odds 29 = .ok (.aload_n 0, 1) := by decide +kernel
theorem dX12_odds_30 : decode cX12_odds 30 = .ok (.getfield 188, 3) := by decide +kernel
theorem dX12_odds_33 : decode cX12_odds 33 = .ok (.aload_n 0, 1) := by decide +kernel
theorem dX12_odds_34 : decode cX12_odds 34 = .ok (.getfield 209, 3) := by decide +kernel
theorem dX12_odds_37 : decode cX12_odds 37 = .ok (.aload_n 0, 1) := by decide +kernel
theorem dX12_odds_38 : decode cX12_odds 38 = .ok (.getfield 170, 3) := by decide +kernel
theorem dX12_odds_41 : decode cX12_odds 41 = .ok (.iload_n 1, 1) := by decide +kernel
theorem dX12_odds_42 : decode cX12_odds 42 = .ok (.invokevirtual 272, 3) := by decide +kernel
theorem dX12_odds_45 : decode cX12_odds 45 = .ok (.aload_n 0, 1) := by decide +kernel
theorem dX12_odds_46 : decode cX12_odds 46 = .ok (.aload_n 0, 1) := by decide +kernel
theorem dX12_odds_47 : decode cX12_odds 47 = .ok (.iload_n 2, 1) := by decide +kernel
theorem dX12_odds_48 : decode cX12_odds 48 = .ok (.invokevirtual 280, 3) := by decide +kernel
theorem dX12_odds_51 : decode cX12_odds 51 = .ok (.aload_n 0, 1) := by decide +kernel
theorem dX12_odds_52 : decode cX12_odds 52 = .ok (.getfield 266, 3) := by decide +kernel
theorem dX12_odds_55 : decode cX12_odds 55 = .ok (.iconst 1, 1) := by decide +kernel
theorem dX12_odds_56 : decode cX12_odds 56 = .ok (.invokevirtual 276, 3) := by decide +kernel
theorem dX12_odds_59 : decode cX12_odds 59 = .ok (.ireturn, 1) := by decide +kernel
theorem dX12_ask_0 : decode cX12_ask 0 = .ok (.iload_n 1, 1) := by decide +kernel
theorem dX12_ask_1 : decode cX12_ask 1 = .ok (.iconst 0, 1) := by decide +kernel
theorem dX12_ask_2 : decode cX12_ask 2 = .ok (.bipush 12, 2) := by decide +kernel
theorem dX12_ask_4 : decode cX12_ask 4 = .ok (.invokestatic 88, 3) := by decide +kernel
theorem dX12_ask_7 : decode cX12_ask 7 = .ok (.ifCond .eq 22, 3) := by decide +kernel
theorem dX12_ask_10 : decode cX12_ask 10 = .ok (.iload_n 3, 1) := by decide +kernel
theorem dX12_ask_11 : decode cX12_ask 11 = .ok (.iconst 1, 1) := by decide +kernel
theorem dX12_ask_12 : decode cX12_ask 12 = .ok (.bipush 99, 2) := by decide +kernel
theorem dX12_ask_14 : decode cX12_ask 14 = .ok (.invokestatic 88, 3) := by decide +kernel
theorem dX12_ask_17 : decode cX12_ask 17 = .ok (.ifCond .eq 12, 3) := by decide +kernel
theorem dX12_ask_20 : decode cX12_ask 20 = .ok (.iload_n 2, 1) := by decide +kernel
theorem dX12_ask_21 : decode cX12_ask 21 = .ok (.iconst 0, 1) := by decide +kernel
theorem dX12_ask_22 : decode cX12_ask 22 = .ok (.iload_n 3, 1) := by decide +kernel
theorem dX12_ask_23 : decode cX12_ask 23 = .ok (.invokestatic 88, 3) := by decide +kernel
theorem dX12_ask_26 : decode cX12_ask 26 = .ok (.ifCond .ne 5, 3) := by decide +kernel
theorem dX12_ask_29 : decode cX12_ask 29 = .ok (.iconst (-1), 1) := by decide +kernel
theorem dX12_ask_30 : decode cX12_ask 30 = .ok (.ireturn, 1) := by decide +kernel
theorem dX12_ask_31 : decode cX12_ask 31 = .ok (.aload_n 0, 1) := by decide +kernel
theorem dX12_ask_32 : decode cX12_ask 32 = .ok (.getfield 141, 3) := by decide +kernel
theorem dX12_ask_35 : decode cX12_ask 35 = .ok (.ifCond .ne 6, 3) := by decide +kernel
theorem dX12_ask_38 : decode cX12_ask 38 = .ok (.bipush (-4), 2) := by decide +kernel
theorem dX12_ask_40 : decode cX12_ask 40 = .ok (.ireturn, 1) := by decide +kernel
theorem dX12_ask_41 : decode cX12_ask 41 = .ok (.aload_n 0, 1) := by decide +kernel
theorem dX12_ask_42 : decode cX12_ask 42 = .ok (.aload_n 0, 1) := by decide +kernel
theorem dX12_ask_43 : decode cX12_ask 43 = .ok (.getfield 212, 3) := by decide +kernel
theorem dX12_ask_46 : decode cX12_ask 46 = .ok (.aload_n 0, 1) := by decide +kernel
theorem dX12_ask_47 : decode cX12_ask 47 = .ok (.getfield 215, 3) := by decide +kernel
theorem dX12_ask_50 : decode cX12_ask 50 = .ok (.aload_n 0, 1) := by decide +kernel
theorem dX12_ask_51 : decode cX12_ask 51 = .ok (.getfield 188, 3) := by decide +kernel
theorem dX12_ask_54 : decode cX12_ask 54 = .ok (.aload_n 0, 1) := by decide +kernel
theorem dX12_ask_55 : decode cX12_ask 55 = .ok (.getfield 209, 3) := by decide +kernel
theorem dX12_ask_58 : decode cX12_ask 58 = .ok (.aload_n 0, 1) := by decide +kernel
theorem dX12_ask_59 : decode cX12_ask 59 = .ok (.getfield 170, 3) := by decide +kernel
theorem dX12_ask_62 : decode cX12_ask 62 = .ok (.iload_n 1, 1) := by decide +kernel
theorem dX12_ask_63 : decode cX12_ask 63 = .ok (.invokevirtual 272, 3) := by decide +kernel
theorem dX12_ask_66 : decode cX12_ask 66 = .ok (.iconst 0, 1) := by decide +kernel
theorem dX12_ask_67 : decode cX12_ask 67 = .ok (.istore 4, 2) := by decide +kernel
theorem dX12_ask_69 : decode cX12_ask 69 = .ok (.iconst 0, 1) := by decide +kernel
theorem dX12_ask_70 : decode cX12_ask 70 = .ok (.istore 5, 2) := by decide +kernel
theorem dX12_ask_72 : decode cX12_ask 72 = .ok (.lconst 0, 1) := by decide +kernel
theorem dX12_ask_73 : decode cX12_ask 73 = .ok (.lstore 6, 2) := by decide +kernel
theorem dX12_ask_75 : decode cX12_ask 75 = .ok (.lload 6, 2) := by decide +kernel
theorem dX12_ask_77 : decode cX12_ask 77 = .ok (.iload_n 3, 1) := by decide +kernel
theorem dX12_ask_78 : decode cX12_ask 78 = .ok (.i2l, 1) := by decide +kernel
theorem dX12_ask_79 : decode cX12_ask 79 = .ok (.lmul, 1) := by decide +kernel
theorem dX12_ask_80 : decode cX12_ask 80 = .ok (.aload_n 0, 1) := by decide +kernel
theorem dX12_ask_81 : decode cX12_ask 81 = .ok (.getfield 266, 3) := by decide +kernel
theorem dX12_ask_84 : decode cX12_ask 84 = .ok (.iload_n 2, 1) := by decide +kernel
theorem dX12_ask_85 : decode cX12_ask 85 = .ok (.i2l, 1) := by decide +kernel
theorem dX12_ask_86 : decode cX12_ask 86 = .ok (.lmul, 1) := by decide +kernel
theorem dX12_ask_87 : decode cX12_ask 87 = .ok (.lcmp, 1) := by decide +kernel
theorem dX12_ask_88 : decode cX12_ask 88 = .ok (.ifCond .ge 88, 3) := by decide +kernel
theorem dX12_ask_91 : decode cX12_ask 91 = .ok (.bipush (-9), 2) := by decide +kernel
theorem dX12_ask_93 : decode cX12_ask 93 = .ok (.istore 8, 2) := by decide +kernel
theorem dX12_ask_95 : decode cX12_ask 95 = .ok (.iconst 0, 1) := by decide +kernel
theorem dX12_ask_96 : decode cX12_ask 96 = .ok (.istore 9, 2) := by decide +kernel
theorem dX12_ask_98 : decode cX12_ask 98 = .ok (.iload 9, 2) := by decide +kernel
theorem dX12_ask_100 : decode cX12_ask 100 = .ok (.aload_n 0, 1) := by decide +kernel
theorem dX12_ask_101 : decode cX12_ask 101 = .ok (.getfield 141, 3) := by decide +kernel
theorem dX12_ask_104 : decode cX12_ask 104 = .ok (.if_icmp .ge 46, 3) := by decide +kernel
theorem dX12_ask_107 : decode cX12_ask 107 = .ok (.iload 4, 2) := by decide +kernel
theorem dX12_ask_109 : decode cX12_ask 109 = .ok (.iload 9, 2) := by decide +kernel
theorem dX12_ask_111 : decode cX12_ask 111 = .ok (.invokestatic 191, 3) := by decide +kernel
theorem dX12_ask_114 : decode cX12_ask 114 = .ok (.ifCond .ne 30, 3) := by decide +kernel
theorem dX12_ask_117 : decode cX12_ask 117 = .ok (.iload 8, 2) := by decide +kernel
theorem dX12_ask_119 : decode cX12_ask 119 = .ok (.bipush (-9), 2) := by decide +kernel
theorem dX12_ask_121 : decode cX12_ask 121 = .ok (.if_icmp .eq 19, 3) := by decide +kernel
theorem dX12_ask_124 : decode cX12_ask 124 = .ok (.aload_n 0, 1) := by decide +kernel
theorem dX12_ask_125 : decode cX12_ask 125 = .ok (.iload 9, 2) := by decide +kernel
theorem dX12_ask_127 : decode cX12_ask 127 = .ok (.invokevirtual 280, 3) := by decide +kernel
theorem dX12_ask_130 : decode cX12_ask 130 = .ok (.aload_n 0, 1) := by decide +kernel
theorem dX12_ask_131 : decode cX12_ask 131 = .ok (.iload 8, 2) := by decide +kernel
theorem dX12_ask_133 : decode cX12_ask 133 = .ok (.invokevirtual 280, 3) := by decide +kernel
theorem dX12_ask_136 : decode cX12_ask 136 = .ok (.lcmp, 1) := by decide +kernel
theorem dX12_ask_137 : decode cX12_ask 137 = .ok (.ifCond .le 7, 3) := by decide +kernel
theorem dX12_ask_140 : decode cX12_ask 140 = .ok (.iload 9, 2) := by decide +kernel
theorem dX12_ask_142 : decode cX12_ask 142 = .ok (.istore 8, 2) := by decide +kernel
theorem dX12_ask_144 : decode cX12_ask 144 = .ok (.iinc 9 1, 3) := by decide +kernel
theorem dX12_ask_147 : decode cX12_ask 147 = .ok (.goto (-49), 3) := by decide +kernel
theorem dX12_ask_150 : decode cX12_ask 150 = .ok (.iload 4, 2) := by decide +kernel
theorem dX12_ask_152 : decode cX12_ask 152 = .ok (.iconst 1, 1) := by decide +kernel
theorem dX12_ask_153 : decode cX12_ask 153 = .ok (.iload 8, 2) := by decide +kernel
theorem dX12_ask_155 : decode cX12_ask 155 = .ok (.ishl, 1) := by decide +kernel
theorem dX12_ask_156 : decode cX12_ask 156 = .ok (.ior, 1) := by decide +kernel
theorem dX12_ask_157 : decode cX12_ask 157 = .ok (.istore 4, 2) := by decide +kernel
theorem dX12_ask_159 : decode cX12_ask 159 = .ok (.lload 6, 2) := by decide +kernel
theorem dX12_ask_161 : decode cX12_ask 161 = .ok (.aload_n 0, 1) := by decide +kernel
theorem dX12_ask_162 : decode cX12_ask 162 = .ok (.iload 8, 2) := by decide +kernel
theorem dX12_ask_164 : decode cX12_ask 164 = .ok (.invokevirtual 280, 3) := by decide +kernel
theorem dX12_ask_167 : decode cX12_ask 167 = .ok (.ladd, 1) := by decide +kernel
theorem dX12_ask_168 : decode cX12_ask 168 = .ok (.lstore 6, 2) := by decide +kernel
theorem dX12_ask_170 : decode cX12_ask 170 = .ok (.iinc 5 1, 3) := by decide +kernel
theorem dX12_ask_173 : decode cX12_ask 173 = .ok (.goto (-98), 3) := by decide +kernel
theorem dX12_ask_176 : decode cX12_ask 176 = .ok (.aload_n 0, 1) := by decide +kernel
theorem dX12_ask_177 : decode cX12_ask 177 = .ok (.iload 4, 2) := by decide +kernel
theorem dX12_ask_179 : decode cX12_ask 179 = .ok (.iload 5, 2) := by decide +kernel
theorem dX12_ask_181 : decode cX12_ask 181 = .ok (.invokevirtual 114, 3) := by decide +kernel
theorem dX12_ask_184 : decode cX12_ask 184 = .ok (.ireturn, 1) := by decide +kernel
theorem dX12_rule_0 : decode cX12_rule 0 = .ok (.aload_n 0, 1) := by decide +kernel
theorem dX12_rule_1 : decode cX12_rule 1 = .ok (.iload_n 1, 1) := by decide +kernel
theorem dX12_rule_2 : decode cX12_rule 2 = .ok (.invokevirtual 160, 3) := by decide +kernel
theorem dX12_rule_5 : decode cX12_rule 5 = .ok (.ifCond .eq 13, 3) := by decide +kernel
theorem dX12_rule_8 : decode cX12_rule 8 = .ok (.iload_n 2, 1) := by decide +kernel
theorem dX12_rule_9 : decode cX12_rule 9 = .ok (.iconst 0, 1) := by decide +kernel
theorem dX12_rule_10 : decode cX12_rule 10 = .ok (.bipush 12, 2) := by decide +kernel
theorem dX12_rule_12 : decode cX12_rule 12 = .ok (.invokestatic 88, 3) := by decide +kernel
theorem dX12_rule_15 : decode cX12_rule 15 = .ok (.ifCond .ne 5, 3) := by decide +kernel
theorem dX12_rule_18 : decode cX12_rule 18 = .ok (.iconst (-1), 1) := by decide +kernel
theorem dX12_rule_19 : decode cX12_rule 19 = .ok (.ireturn, 1) := by decide +kernel
theorem dX12_rule_20 : decode cX12_rule 20 = .ok (.aload_n 0, 1) := by decide +kernel
theorem dX12_rule_21 : decode cX12_rule 21 = .ok (.getfield 206, 3) := by decide +kernel
theorem dX12_rule_24 : decode cX12_rule 24 = .ok (.istore_n 3, 1) := by decide +kernel
theorem dX12_rule_25 : decode cX12_rule 25 = .ok (.aload_n 0, 1) := by decide +kernel
theorem dX12_rule_26 : decode cX12_rule 26 = .ok (.iload_n 1, 1) := by decide +kernel
theorem dX12_rule_27 : decode cX12_rule 27 = .ok (.putfield 206, 3) := by decide +kernel
theorem dX12_rule_30 : decode cX12_rule 30 = .ok (.iconst 0, 1) := by decide +kernel
theorem dX12_rule_31 : decode cX12_rule 31 = .ok (.istore 4, 2) := by decide +kernel
theorem dX12_rule_33 : decode cX12_rule 33 = .ok (.ldc2_w 284, 3) := by decide +kernel
theorem dX12_rule_36 : decode cX12_rule 36 = .ok (.lstore 5, 2) := by decide +kernel
theorem dX12_rule_38 : decode cX12_rule 38 = .ok (.iconst 0, 1) := by decide +kernel
theorem dX12_rule_39 : decode cX12_rule 39 = .ok (.istore 7, 2) := by decide +kernel
theorem dX12_rule_41 : decode cX12_rule 41 = .ok (.iload 7, 2) := by decide +kernel
theorem dX12_rule_43 : decode cX12_rule 43 = .ok (.iconst 3, 1) := by decide +kernel
theorem dX12_rule_44 : decode cX12_rule 44 = .ok (.if_icmp .ge 60, 3) := by decide +kernel
theorem dX12_rule_47 : decode cX12_rule 47 = .ok (.aload_n 0, 1) := by decide +kernel
theorem dX12_rule_48 : decode cX12_rule 48 = .ok (.iload_n 1, 1) := by decide +kernel
theorem dX12_rule_49 : decode cX12_rule 49 = .ok (.iconst 0, 1) := by decide +kernel
theorem dX12_rule_50 : decode cX12_rule 50 = .ok (.iconst 0, 1) := by decide +kernel
theorem dX12_rule_51 : decode cX12_rule 51 = .ok (.iload 7, 2) := by decide +kernel
theorem dX12_rule_53 : decode cX12_rule 53 = .ok (.iconst 0, 1) := by decide +kernel
theorem dX12_rule_54 : decode cX12_rule 54 = .ok (.iload_n 2, 1) := by decide +kernel
theorem dX12_rule_55 : decode cX12_rule 55 = .ok (.invokevirtual 272, 3) := by decide +kernel
theorem dX12_rule_58 : decode cX12_rule 58 = .ok (.aload_n 0, 1) := by decide +kernel
theorem dX12_rule_59 : decode cX12_rule 59 = .ok (.getfield 263, 3) := by decide +kernel
theorem dX12_rule_62 : decode cX12_rule 62 = .ok (.lload 5, 2) := by decide +kernel
theorem dX12_rule_64 : decode cX12_rule 64 = .ok (.lcmp, 1) := by decide +kernel
theorem dX12_rule_65 : decode cX12_rule 65 = .ok (.ifCond .le 8, 3) := by decide +kernel
theorem dX12_rule_68 : decode cX12_rule 68 = .ok (.iload 7, 2) := by decide +kernel
theorem dX12_rule_70 : decode cX12_rule 70 = .ok (.goto 5, 3) := by decide +kernel
theorem dX12_rule_73 : decode cX12_rule 73 = .ok (.iload 4, 2) := by decide +kernel
theorem dX12_rule_75 : decode cX12_rule 75 = .ok (.istore 4, 2) := by decide +kernel
theorem dX12_rule_77 : decode cX12_rule 77 = .ok (.aload_n 0, 1) := by decide +kernel
theorem dX12_rule_78 : decode cX12_rule 78 = .ok (.getfield 263, 3) := by decide +kernel
theorem dX12_rule_81 : decode cX12_rule 81 = .ok (.lload 5, 2) := by decide +kernel
theorem dX12_rule_83 : decode cX12_rule 83 = .ok (.lcmp, 1) := by decide +kernel
theorem dX12_rule_84 : decode cX12_rule 84 = .ok (.ifCond .le 10, 3) := by decide +kernel
theorem dX12_rule_87 : decode cX12_rule 87 = .ok (.aload_n 0, 1) := by decide +kernel
theorem dX12_rule_88 : decode cX12_rule 88 = .ok (.getfield 263, 3) := by decide +kernel
theorem dX12_rule_91 : decode cX12_rule 91 = .ok (.goto 5, 3) := by decide +kernel
theorem dX12_rule_94 : decode cX12_rule 94 = .ok (.lload 5, 2) := by decide +kernel
theorem dX12_rule_96 : decode cX12_rule 96 = .ok (.lstore 5, 2) := by decide +kernel
theorem dX12_rule_98 : decode cX12_rule 98 = .ok (.iinc 7 1, 3) := by decide +kernel
theorem dX12_rule_101 : decode cX12_rule 101 = .ok (.goto (-60), 3) := by decide +kernel
theorem dX12_rule_104 : decode cX12_rule 104 = .ok (.aload_n 0, 1) := by decide +kernel
theorem dX12_rule_105 : decode cX12_rule 105 = .ok (.iload_n 3, 1) := by decide +kernel
theorem dX12_rule_106 : decode cX12_rule 106 = .ok (.putfield 206, 3) := by decide +kernel
theorem dX12_rule_109 : decode cX12_rule 109 = .ok (.aload_n 0, 1) := by decide +kernel
theorem dX12_rule_110 : decode cX12_rule 110 = .ok (.lload 5, 2) := by decide +kernel
theorem dX12_rule_112 : decode cX12_rule 112 = .ok (.aload_n 0, 1) := by decide +kernel
theorem dX12_rule_113 : decode cX12_rule 113 = .ok (.getfield 266, 3) := by decide +kernel
theorem dX12_rule_116 : decode cX12_rule 116 = .ok (.iload 4, 2) := by decide +kernel
theorem dX12_rule_118 : decode cX12_rule 118 = .ok (.invokevirtual 276, 3) := by decide +kernel
theorem dX12_rule_121 : decode cX12_rule 121 = .ok (.ireturn, 1) := by decide +kernel
theorem dX12_askedOrder_0 : decode cX12_askedOrder 0 = .ok (.aload_n 0, 1) := by decide +kernel
theorem dX12_askedOrder_1 : decode cX12_askedOrder 1 = .ok (.iload_n 1, 1) := by decide +kernel
theorem dX12_askedOrder_2 : decode cX12_askedOrder 2 = .ok (.invokevirtual 107, 3) := by decide +kernel
theorem dX12_askedOrder_5 : decode cX12_askedOrder 5 = .ok (.istore_n 2, 1) := by decide +kernel
theorem dX12_askedOrder_6 : decode cX12_askedOrder 6 = .ok (.iload_n 2, 1) := by decide +kernel
theorem dX12_askedOrder_7 : decode cX12_askedOrder 7 = .ok (.ifCond .ge 5, 3) := by decide +kernel
theorem dX12_askedOrder_10 : decode cX12_askedOrder 10 = .ok (.iload_n 2, 1) := by decide +kernel
theorem dX12_askedOrder_11 : decode cX12_askedOrder 11 = .ok (.ireturn, 1) := by decide +kernel
theorem dX12_askedOrder_12 : decode cX12_askedOrder 12 = .ok (.aload_n 0, 1) := by decide +kernel
theorem dX12_askedOrder_13 : decode cX12_askedOrder 13 = .ok (.getfield 188, 3) := by decide +kernel
theorem dX12_askedOrder_16 : decode cX12_askedOrder 16 = .ok (.istore_n 3, 1) := by decide +kernel
theorem dX12_askedOrder_17 : decode cX12_askedOrder 17 = .ok (.iconst 0, 1) := by decide +kernel
theorem dX12_askedOrder_18 : decode cX12_askedOrder 18 = .ok (.istore 4, 2) := by decide +kernel
theorem dX12_askedOrder_20 : decode cX12_askedOrder 20 = .ok (.iload 4, 2) := by decide +kernel
theorem dX12_askedOrder_22 : decode cX12_askedOrder 22 = .ok (.aload_n 0, 1) := by decide +kernel
theorem dX12_askedOrder_23 : decode cX12_askedOrder 23 = .ok (.getfield 17, 3) := by decide +kernel
theorem dX12_askedOrder_26 : decode cX12_askedOrder 26 = .ok (.iload_n 1, 1) := by decide +kernel
theorem dX12_askedOrder_27 : decode cX12_askedOrder 27 = .ok (.iaload, 1) := by decide +kernel
theorem dX12_askedOrder_28 : decode cX12_askedOrder 28 = .ok (.if_icmp .ge 49, 3) := by decide +kernel
theorem dX12_askedOrder_31 : decode cX12_askedOrder 31 = .ok (.aload_n 0, 1) := by decide +kernel
theorem dX12_askedOrder_32 : decode cX12_askedOrder 32 = .ok (.iload_n 1, 1) := by decide +kernel
theorem dX12_askedOrder_33 : decode cX12_askedOrder 33 = .ok (.iload 4, 2) := by decide +kernel
theorem dX12_askedOrder_35 : decode cX12_askedOrder 35 = .ok (.invokevirtual 110, 3) := by decide +kernel
theorem dX12_askedOrder_38 : decode cX12_askedOrder 38 = .ok (.istore 5, 2) := by decide +kernel
theorem dX12_askedOrder_40 : decode cX12_askedOrder 40 = .ok (.aload_n 0, 1) := by decide +kernel
theorem dX12_askedOrder_41 : decode cX12_askedOrder 41 = .ok (.iload 5, 2) := by decide +kernel
theorem dX12_askedOrder_43 : decode cX12_askedOrder 43 = .ok (.invokevirtual 160, 3) := by decide +kernel
theorem dX12_askedOrder_46 : decode cX12_askedOrder 46 = .ok (.ifCond .eq 12, 3) := by decide +kernel
theorem dX12_askedOrder_49 : decode cX12_askedOrder 49 = .ok (.iload_n 3, 1) := by decide +kernel
theorem dX12_askedOrder_50 : decode cX12_askedOrder 50 = .ok (.iload 5, 2) := by decide +kernel
theorem dX12_askedOrder_52 : decode cX12_askedOrder 52 = .ok (.invokestatic 191, 3) := by decide +kernel
theorem dX12_askedOrder_55 : decode cX12_askedOrder 55 = .ok (.ifCond .eq 9, 3) := by decide +kernel
theorem dX12_askedOrder_58 : decode cX12_askedOrder 58 = .ok (.aload_n 0, 1) := by decide +kernel
theorem dX12_askedOrder_59 : decode cX12_askedOrder 59 = .ok (.iconst 3, 1) := by decide +kernel
theorem dX12_askedOrder_60 : decode cX12_askedOrder 60 = .ok (.invokevirtual 96, 3) := by decide +kernel
theorem dX12_askedOrder_63 : decode cX12_askedOrder 63 = .ok (.ireturn, 1) := by decide +kernel
theorem dX12_askedOrder_64 : decode cX12_askedOrder 64 = .ok (.iload_n 3, 1) := by decide +kernel
theorem dX12_askedOrder_65 : decode cX12_askedOrder 65 = .ok (.iconst 1, 1) := by decide +kernel
theorem dX12_askedOrder_66 : decode cX12_askedOrder 66 = .ok (.iload 5, 2) := by decide +kernel
theorem dX12_askedOrder_68 : decode cX12_askedOrder 68 = .ok (.ishl, 1) := by decide +kernel
theorem dX12_askedOrder_69 : decode cX12_askedOrder 69 = .ok (.ior, 1) := by decide +kernel
theorem dX12_askedOrder_70 : decode cX12_askedOrder 70 = .ok (.istore_n 3, 1) := by decide +kernel
theorem dX12_askedOrder_71 : decode cX12_askedOrder 71 = .ok (.iinc 4 1, 3) := by decide +kernel
theorem dX12_askedOrder_74 : decode cX12_askedOrder 74 = .ok (.goto (-54), 3) := by decide +kernel
theorem dX12_askedOrder_77 : decode cX12_askedOrder 77 = .ok (.iconst 0, 1) := by decide +kernel
theorem dX12_askedOrder_78 : decode cX12_askedOrder 78 = .ok (.ireturn, 1) := by decide +kernel
theorem dX12_putsRow_0 : decode cX12_putsRow 0 = .ok (.iconst 0, 1) := by decide +kernel
theorem dX12_putsRow_1 : decode cX12_putsRow 1 = .ok (.istore_n 2, 1) := by decide +kernel
theorem dX12_putsRow_2 : decode cX12_putsRow 2 = .ok (.iconst 0, 1) := by decide +kernel
theorem dX12_putsRow_3 : decode cX12_putsRow 3 = .ok (.istore_n 3, 1) := by decide +kernel
theorem dX12_putsRow_4 : decode cX12_putsRow 4 = .ok (.iload_n 3, 1) := by decide +kernel
theorem dX12_putsRow_5 : decode cX12_putsRow 5 = .ok (.aload_n 0, 1) := by decide +kernel
theorem dX12_putsRow_6 : decode cX12_putsRow 6 = .ok (.getfield 17, 3) := by decide +kernel
theorem dX12_putsRow_9 : decode cX12_putsRow 9 = .ok (.iload_n 1, 1) := by decide +kernel
theorem dX12_putsRow_10 : decode cX12_putsRow 10 = .ok (.iaload, 1) := by decide +kernel
theorem dX12_putsRow_11 : decode cX12_putsRow 11 = .ok (.if_icmp .ge 33, 3) := by decide +kernel
theorem dX12_putsRow_14 : decode cX12_putsRow 14 = .ok (.aload_n 0, 1) := by decide +kernel
theorem dX12_putsRow_15 : decode cX12_putsRow 15 = .ok (.aload_n 0, 1) := by decide +kernel
theorem dX12_putsRow_16 : decode cX12_putsRow 16 = .ok (.iload_n 1, 1) := by decide +kernel
theorem dX12_putsRow_17 : decode cX12_putsRow 17 = .ok (.iload_n 3, 1) := by decide +kernel
theorem dX12_putsRow_18 : decode cX12_putsRow 18 = .ok (.invokevirtual 110, 3) := by decide +kernel
theorem dX12_putsRow_21 : decode cX12_putsRow 21 = .ok (.invokevirtual 231, 3) := by decide +kernel
theorem dX12_putsRow_24 : decode cX12_putsRow 24 = .ok (.iload_n 2, 1) := by decide +kernel
theorem dX12_putsRow_25 : decode cX12_putsRow 25 = .ok (.aload_n 0, 1) := by decide +kernel
theorem dX12_putsRow_26 : decode cX12_putsRow 26 = .ok (.getfield 35, 3) := by decide +kernel
theorem dX12_putsRow_29 : decode cX12_putsRow 29 = .ok (.aload_n 0, 1) := by decide +kernel
theorem dX12_putsRow_30 : decode cX12_putsRow 30 = .ok (.iload_n 1, 1) := by decide +kernel
theorem dX12_putsRow_31 : decode cX12_putsRow 31 = .ok (.iload_n 3, 1) := by decide +kernel
theorem dX12_putsRow_32 : decode cX12_putsRow 32 = .ok (.invokevirtual 110, 3) := by decide +kernel
theorem dX12_putsRow_35 : decode cX12_putsRow 35 = .ok (.iaload, 1) := by decide +kernel
theorem dX12_putsRow_36 : decode cX12_putsRow 36 = .ok (.iadd, 1) := by decide +kernel
theorem dX12_putsRow_37 : decode cX12_putsRow 37 = .ok (.istore_n 2, 1) := by decide +kernel
theorem dX12_putsRow_38 : decode cX12_putsRow 38 = .ok (.iinc 3 1, 3) := by decide +kernel
theorem dX12_putsRow_41 : decode cX12_putsRow 41 = .ok (.goto (-37), 3) := by decide +kernel
theorem dX12_putsRow_44 : decode cX12_putsRow 44 = .ok (.iload_n 2, 1) := by decide +kernel
theorem dX12_putsRow_45 : decode cX12_putsRow 45 = .ok (.ireturn, 1) := by decide +kernel
theorem dX12_sumBy_0 : decode cX12_sumBy 0 = .ok (.aload_n 0, 1) := by decide +kernel
theorem dX12_sumBy_1 : decode cX12_sumBy 1 = .ok (.invokevirtual 286, 3) := by decide +kernel
theorem dX12_sumBy_4 : decode cX12_sumBy 4 = .ok (.aload_n 0, 1) := by decide +kernel
theorem dX12_sumBy_5 : decode cX12_sumBy 5 = .ok (.iload_n 1, 1) := by decide +kernel
theorem dX12_sumBy_6 : decode cX12_sumBy 6 = .ok (.invokevirtual 289, 3) := by decide +kernel
theorem dX12_sumBy_9 : decode cX12_sumBy 9 = .ok (.istore_n 2, 1) := by decide +kernel
theorem dX12_sumBy_10 : decode cX12_sumBy 10 = .ok (.aload_n 0, 1) := by decide +kernel
theorem dX12_sumBy_11 : decode cX12_sumBy 11 = .ok (.invokevirtual 292, 3) := by decide +kernel
theorem dX12_sumBy_14 : decode cX12_sumBy 14 = .ok (.iload_n 2, 1) := by decide +kernel
theorem dX12_sumBy_15 : decode cX12_sumBy 15 = .ok (.ireturn, 1) := by decide +kernel
theorem dX12_order_0 : decode cX12_order 0 = .ok (.aload_n 0, 1) := by decide +kernel
theorem dX12_order_1 : decode cX12_order 1 = .ok (.iload_n 1, 1) := by decide +kernel
theorem dX12_order_2 : decode cX12_order 2 = .ok (.invokevirtual 295, 3) := by decide +kernel
theorem dX12_order_5 : decode cX12_order 5 = .ok (.istore_n 2, 1) := by decide +kernel
theorem dX12_order_6 : decode cX12_order 6 = .ok (.iload_n 2, 1) := by decide +kernel
theorem dX12_order_7 : decode cX12_order 7 = .ok (.ifCond .ge 7, 3) := by decide +kernel
theorem dX12_order_10 : decode cX12_order 10 = .ok (.iload_n 2, 1) := by decide +kernel
theorem dX12_order_11 : decode cX12_order 11 = .ok (.goto 8, 3) := by decide +kernel
theorem dX12_order_14 : decode cX12_order 14 = .ok (.aload_n 0, 1) := by decide +kernel
theorem dX12_order_15 : decode cX12_order 15 = .ok (.iload_n 1, 1) := by decide +kernel
theorem dX12_order_16 : decode cX12_order 16 = .ok (.invokevirtual 298, 3) := by decide +kernel
theorem dX12_order_19 : decode cX12_order 19 = .ok (.ireturn, 1) := by decide +kernel
theorem dX12_orderOn_0 : decode cX12_orderOn 0 = .ok (.iload_n 1, 1) := by decide +kernel
theorem dX12_orderOn_1 : decode cX12_orderOn 1 = .ok (.ifCond .ne 85, 3) := by decide +kernel
theorem dX12_orderOn_4 : decode cX12_orderOn 4 = .ok (.aload_n 0, 1) := by decide +kernel
theorem dX12_orderOn_5 : decode cX12_orderOn 5 = .ok (.getfield 301, 3) := by decide +kernel
theorem dX12_orderOn_8 : decode cX12_orderOn 8 = .ok (.ifCond .eq 11, 3) := by decide +kernel
theorem dX12_orderOn_11 : decode cX12_orderOn 11 = .ok (.iload_n 3, 1) := by decide +kernel
theorem dX12_orderOn_12 : decode cX12_orderOn 12 = .ok (.aload_n 0, 1) := by decide +kernel
theorem dX12_orderOn_13 : decode cX12_orderOn 13 = .ok (.getfield 304, 3) := by decide +kernel
theorem dX12_orderOn_16 : decode cX12_orderOn 16 = .ok (.if_icmp .le 37, 3) := by decide +kernel
theorem dX12_orderOn_19 : decode cX12_orderOn 19 = .ok (.aload_n 0, 1) := by decide +kernel
theorem dX12_orderOn_20 : decode cX12_orderOn 20 = .ok (.iload_n 3, 1) := by decide +kernel
theorem dX12_orderOn_21 : decode cX12_orderOn 21 = .ok (.putfield 304, 3) := by decide +kernel
theorem dX12_orderOn_24 : decode cX12_orderOn 24 = .ok (.iconst 0, 1) := by decide +kernel
theorem dX12_orderOn_25 : decode cX12_orderOn 25 = .ok (.istore 4, 2) := by decide +kernel
theorem dX12_orderOn_27 : decode cX12_orderOn 27 = .ok (.iload 4, 2) := by decide +kernel
theorem dX12_orderOn_29 : decode cX12_orderOn 29 = .ok (.iload_n 2, 1) := by decide +kernel
theorem dX12_orderOn_30 : decode cX12_orderOn 30 = .ok (.if_icmp .ge 23, 3) := by decide +kernel
theorem dX12_orderOn_33 : decode cX12_orderOn 33 = .ok (.aload_n 0, 1) := by decide +kernel
theorem dX12_orderOn_34 : decode cX12_orderOn 34 = .ok (.getfield 60, 3) := by decide +kernel
theorem dX12_orderOn_37 : decode cX12_orderOn 37 = .ok (.iload 4, 2) := by decide +kernel
theorem dX12_orderOn_39 : decode cX12_orderOn 39 = .ok (.aload_n 0, 1) := by decide +kernel
theorem dX12_orderOn_40 : decode cX12_orderOn 40 = .ok (.getfield 57, 3) := by decide +kernel
theorem dX12_orderOn_43 : decode cX12_orderOn 43 = .ok (.iload 4, 2) := by decide +kernel
theorem dX12_orderOn_45 : decode cX12_orderOn 45 = .ok (.iaload, 1) := by decide +kernel
theorem dX12_orderOn_46 : decode cX12_orderOn 46 = .ok (.iastore, 1) := by decide +kernel
theorem dX12_orderOn_47 : decode cX12_orderOn 47 = .ok (.iinc 4 1, 3) := by decide +kernel
theorem dX12_orderOn_50 : decode cX12_orderOn 50 = .ok (.goto (-23), 3) := by decide +kernel
theorem dX12_orderOn_53 : decode cX12_orderOn 53 = .ok (.aload_n 0, 1) := by decide +kernel
theorem dX12_orderOn_54 : decode cX12_orderOn 54 = .ok (.aload_n 0, 1) := by decide +kernel
theorem dX12_orderOn_55 : decode cX12_orderOn 55 = .ok (.getfield 301, 3) := by decide +kernel
theorem dX12_orderOn_58 : decode cX12_orderOn 58 = .ok (.ifCond .eq 11, 3) := by decide +kernel
theorem dX12_orderOn_61 : decode cX12_orderOn 61 = .ok (.iload_n 3, 1) := by decide +kernel
theorem dX12_orderOn_62 : decode cX12_orderOn 62 = .ok (.aload_n 0, 1) := by decide +kernel
theorem dX12_orderOn_63 : decode cX12_orderOn 63 = .ok (.getfield 307, 3) := by decide +kernel
theorem dX12_orderOn_66 : decode cX12_orderOn 66 = .ok (.if_icmp .ge 7, 3) := by decide +kernel
theorem dX12_orderOn_69 : decode cX12_orderOn 69 = .ok (.iload_n 3, 1) := by decide +kernel
theorem dX12_orderOn_70 : decode cX12_orderOn 70 = .ok (.goto 7, 3) := by decide +kernel
theorem dX12_orderOn_73 : decode cX12_orderOn 73 = .ok (.aload_n 0, 1) := by decide +kernel
theorem dX12_orderOn_74 : decode cX12_orderOn 74 = .ok (.getfield 307, 3) := by decide +kernel
theorem dX12_orderOn_77 : decode cX12_orderOn 77 = .ok (.putfield 307, 3) := by decide +kernel
theorem dX12_orderOn_80 : decode cX12_orderOn 80 = .ok (.aload_n 0, 1) := by decide +kernel
theorem dX12_orderOn_81 : decode cX12_orderOn 81 = .ok (.iconst 1, 1) := by decide +kernel
theorem dX12_orderOn_82 : decode cX12_orderOn 82 = .ok (.putfield 301, 3) := by decide +kernel
theorem dX12_orderOn_85 : decode cX12_orderOn 85 = .ok (.return_, 1) := by decide +kernel
theorem dX12_orderOn_86 : decode cX12_orderOn 86 = .ok (.iconst 0, 1) := by decide +kernel
theorem dX12_orderOn_87 : decode cX12_orderOn 87 = .ok (.istore 4, 2) := by decide +kernel
theorem dX12_orderOn_89 : decode cX12_orderOn 89 = .ok (.iload 4, 2) := by decide +kernel
theorem dX12_orderOn_91 : decode cX12_orderOn 91 = .ok (.aload_n 0, 1) := by decide +kernel
theorem dX12_orderOn_92 : decode cX12_orderOn 92 = .ok (.getfield 141, 3) := by decide +kernel
theorem dX12_orderOn_95 : decode cX12_orderOn 95 = .ok (.if_icmp .ge 71, 3) := by decide +kernel
theorem dX12_orderOn_98 : decode cX12_orderOn 98 = .ok (.iload_n 1, 1) := by decide +kernel
theorem dX12_orderOn_99 : decode cX12_orderOn 99 = .ok (.iload 4, 2) := by decide +kernel
theorem dX12_orderOn_101 : decode cX12_orderOn 101 = .ok (.invokestatic 191, 3) := by decide +kernel
theorem dX12_orderOn_104 : decode cX12_orderOn 104 = .ok (.ifCond .eq 56, 3) := by decide +kernel
theorem dX12_orderOn_107 : decode cX12_orderOn 107 = .ok (.aload_n 0, 1) := by decide +kernel
theorem dX12_orderOn_108 : decode cX12_orderOn 108 = .ok (.iload 4, 2) := by decide +kernel
theorem dX12_orderOn_110 : decode cX12_orderOn 110 = .ok (.invokevirtual 231, 3) := by decide +kernel
theorem dX12_orderOn_113 : decode cX12_orderOn 113 = .ok (.aload_n 0, 1) := by decide +kernel
theorem dX12_orderOn_114 : decode cX12_orderOn 114 = .ok (.getfield 57, 3) := by decide +kernel
theorem dX12_orderOn_117 : decode cX12_orderOn 117 = .ok (.iload_n 2, 1) := by decide +kernel
theorem dX12_orderOn_118 : decode cX12_orderOn 118 = .ok (.iload 4, 2) := by decide +kernel
theorem dX12_orderOn_120 : decode cX12_orderOn 120 = .ok (.iastore, 1) := by decide +kernel
theorem dX12_orderOn_121 : decode cX12_orderOn 121 = .ok (.aload_n 0, 1) := by decide +kernel
theorem dX12_orderOn_122 : decode cX12_orderOn 122 = .ok (.iload_n 1, 1) := by decide +kernel
theorem dX12_orderOn_123 : decode cX12_orderOn 123 = .ok (.iconst 1, 1) := by decide +kernel
theorem dX12_orderOn_124 : decode cX12_orderOn 124 = .ok (.iload 4, 2) := by decide +kernel
theorem dX12_orderOn_126 : decode cX12_orderOn 126 = .ok (.ishl, 1) := by decide +kernel
theorem dX12_orderOn_127 : decode cX12_orderOn 127 = .ok (.iconst (-1), 1) := by decide +kernel
theorem dX12_orderOn_128 : decode cX12_orderOn 128 = .ok (.ixor, 1) := by decide +kernel
theorem dX12_orderOn_129 : decode cX12_orderOn 129 = .ok (.iand, 1) := by decide +kernel
theorem dX12_orderOn_130 : decode cX12_orderOn 130 = .ok (.iload_n 2, 1) := by decide +kernel
theorem dX12_orderOn_131 : decode cX12_orderOn 131 = .ok (.iconst 1, 1) := by decide +kernel
theorem dX12_orderOn_132 : decode cX12_orderOn 132 = .ok (.iadd, 1) := by decide +kernel
theorem dX12_orderOn_133 : decode cX12_orderOn 133 = .ok (.iload_n 3, 1) := by decide +kernel
theorem dX12_orderOn_134 : decode cX12_orderOn 134 = .ok (.aload_n 0, 1) := by decide +kernel
theorem dX12_orderOn_135 : decode cX12_orderOn 135 = .ok (.getfield 35, 3) := by decide +kernel
theorem dX12_orderOn_138 : decode cX12_orderOn 138 = .ok (.iload 4, 2) := by decide +kernel
theorem dX12_orderOn_140 : decode cX12_orderOn 140 = .ok (.iaload, 1) := by decide +kernel
theorem dX12_orderOn_141 : decode cX12_orderOn 141 = .ok (.iadd, 1) := by decide +kernel
theorem dX12_orderOn_142 : decode cX12_orderOn 142 = .ok (.invokevirtual 310, 3) := by decide +kernel
theorem dX12_orderOn_145 : decode cX12_orderOn 145 = .ok (.aload_n 0, 1) := by decide +kernel
theorem dX12_orderOn_146 : decode cX12_orderOn 146 = .ok (.dup, 1) := by decide +kernel
theorem dX12_orderOn_147 : decode cX12_orderOn 147 = .ok (.getfield 188, 3) := by decide +kernel
theorem dX12_orderOn_150 : decode cX12_orderOn 150 = .ok (.iconst 1, 1) := by decide +kernel
theorem dX12_orderOn_151 : decode cX12_orderOn 151 = .ok (.iload 4, 2) := by decide +kernel
theorem dX12_orderOn_153 : decode cX12_orderOn 153 = .ok (.ishl, 1) := by decide +kernel
theorem dX12_orderOn_154 : decode cX12_orderOn 154 = .ok (.iconst (-1), 1) := by decide +kernel
theorem dX12_orderOn_155 : decode cX12_orderOn 155 = .ok (.ixor, 1) := by decide +kernel
theorem dX12_orderOn_156 : decode cX12_orderOn 156 = .ok (.iand, 1) := by decide +kernel
theorem dX12_orderOn_157 : decode cX12_orderOn 157 = .ok (.putfield 188, 3) := by decide +kernel
theorem dX12_orderOn_160 : decode cX12_orderOn 160 = .ok (.iinc 4 1, 3) := by decide +kernel
theorem dX12_orderOn_163 : decode cX12_orderOn 163 = .ok (.goto (-74), 3) := by decide +kernel
theorem dX12_orderOn_166 : decode cX12_orderOn 166 = .ok (.return_, 1) := by decide +kernel
theorem dX12_sizeOf_0 : decode cX12_sizeOf 0 = .ok (.iconst 0, 1) := by decide +kernel
theorem dX12_sizeOf_1 : decode cX12_sizeOf 1 = .ok (.istore_n 1, 1) := by decide +kernel
theorem dX12_sizeOf_2 : decode cX12_sizeOf 2 = .ok (.iconst 0, 1) := by decide +kernel
theorem dX12_sizeOf_3 : decode cX12_sizeOf 3 = .ok (.istore_n 2, 1) := by decide +kernel
theorem dX12_sizeOf_4 : decode cX12_sizeOf 4 = .ok (.iload_n 2, 1) := by decide +kernel
theorem dX12_sizeOf_5 : decode cX12_sizeOf 5 = .ok (.bipush 12, 2) := by decide +kernel
theorem dX12_sizeOf_7 : decode cX12_sizeOf 7 = .ok (.if_icmp .ge 17, 3) := by decide +kernel
theorem dX12_sizeOf_10 : decode cX12_sizeOf 10 = .ok (.iload_n 1, 1) := by decide +kernel
theorem dX12_sizeOf_11 : decode cX12_sizeOf 11 = .ok (.iload_n 0, 1) := by decide +kernel
theorem dX12_sizeOf_12 : decode cX12_sizeOf 12 = .ok (.iload_n 2, 1) := by decide +kernel
theorem dX12_sizeOf_13 : decode cX12_sizeOf 13 = .ok (.ishr, 1) := by decide +kernel
theorem dX12_sizeOf_14 : decode cX12_sizeOf 14 = .ok (.iconst 1, 1) := by decide +kernel
theorem dX12_sizeOf_15 : decode cX12_sizeOf 15 = .ok (.iand, 1) := by decide +kernel
theorem dX12_sizeOf_16 : decode cX12_sizeOf 16 = .ok (.iadd, 1) := by decide +kernel
theorem dX12_sizeOf_17 : decode cX12_sizeOf 17 = .ok (.istore_n 1, 1) := by decide +kernel
theorem dX12_sizeOf_18 : decode cX12_sizeOf 18 = .ok (.iinc 2 1, 3) := by decide +kernel
theorem dX12_sizeOf_21 : decode cX12_sizeOf 21 = .ok (.goto (-17), 3) := by decide +kernel
theorem dX12_sizeOf_24 : decode cX12_sizeOf 24 = .ok (.iload_n 1, 1) := by decide +kernel
theorem dX12_sizeOf_25 : decode cX12_sizeOf 25 = .ok (.ireturn, 1) := by decide +kernel
theorem dX12_setSpans_0 : decode cX12_setSpans 0 = .ok (.iload_n 1, 1) := by decide +kernel
theorem dX12_setSpans_1 : decode cX12_setSpans 1 = .ok (.iconst 0, 1) := by decide +kernel
theorem dX12_setSpans_2 : decode cX12_setSpans 2 = .ok (.aload_n 0, 1) := by decide +kernel
theorem dX12_setSpans_3 : decode cX12_setSpans 3 = .ok (.invokevirtual 239, 3) := by decide +kernel
theorem dX12_setSpans_6 : decode cX12_setSpans 6 = .ok (.invokestatic 88, 3) := by decide +kernel
theorem dX12_setSpans_9 : decode cX12_setSpans 9 = .ok (.ifCond .ne 5, 3) := by decide +kernel
theorem dX12_setSpans_12 : decode cX12_setSpans 12 = .ok (.iconst (-1), 1) := by decide +kernel
theorem dX12_setSpans_13 : decode cX12_setSpans 13 = .ok (.ireturn, 1) := by decide +kernel
theorem dX12_setSpans_14 : decode cX12_setSpans 14 = .ok (.iload_n 1, 1) := by decide +kernel
theorem dX12_setSpans_15 : decode cX12_setSpans 15 = .ok (.aload_n 0, 1) := by decide +kernel
theorem dX12_setSpans_16 : decode cX12_setSpans 16 = .ok (.getfield 188, 3) := by decide +kernel
theorem dX12_setSpans_19 : decode cX12_setSpans 19 = .ok (.iconst (-1), 1) := by decide +kernel
theorem dX12_setSpans_20 : decode cX12_setSpans 20 = .ok (.ixor, 1) := by decide +kernel
theorem dX12_setSpans_21 : decode cX12_setSpans 21 = .ok (.iand, 1) := by decide +kernel
theorem dX12_setSpans_22 : decode cX12_setSpans 22 = .ok (.invokestatic 313, 3) := by decide +kernel
theorem dX12_setSpans_25 : decode cX12_setSpans 25 = .ok (.bipush 6, 2) := by decide +kernel
theorem dX12_setSpans_27 : decode cX12_setSpans 27 = .ok (.if_icmp .le 6, 3) := by decide +kernel
theorem dX12_setSpans_30 : decode cX12_setSpans 30 = .ok (.bipush (-6), 2) := by decide +kernel
theorem dX12_setSpans_32 : decode cX12_setSpans 32 = .ok (.ireturn, 1) := by decide +kernel
theorem dX12_setSpans_33 : decode cX12_setSpans 33 = .ok (.aload_n 0, 1) := by decide +kernel
theorem dX12_setSpans_34 : decode cX12_setSpans 34 = .ok (.invokevirtual 286, 3) := by decide +kernel
theorem dX12_setSpans_37 : decode cX12_setSpans 37 = .ok (.aload_n 0, 1) := by decide +kernel
theorem dX12_setSpans_38 : decode cX12_setSpans 38 = .ok (.iconst 0, 1) := by decide +kernel
theorem dX12_setSpans_39 : decode cX12_setSpans 39 = .ok (.putfield 301, 3) := by decide +kernel
theorem dX12_setSpans_42 : decode cX12_setSpans 42 = .ok (.aload_n 0, 1) := by decide +kernel
theorem dX12_setSpans_43 : decode cX12_setSpans 43 = .ok (.iload_n 1, 1) := by decide +kernel
theorem dX12_setSpans_44 : decode cX12_setSpans 44 = .ok (.aload_n 0, 1) := by decide +kernel
theorem dX12_setSpans_45 : decode cX12_setSpans 45 = .ok (.getfield 188, 3) := by decide +kernel
theorem dX12_setSpans_48 : decode cX12_setSpans 48 = .ok (.iconst (-1), 1) := by decide +kernel
theorem dX12_setSpans_49 : decode cX12_setSpans 49 = .ok (.ixor, 1) := by decide +kernel
theorem dX12_setSpans_50 : decode cX12_setSpans 50 = .ok (.iand, 1) := by decide +kernel
theorem dX12_setSpans_51 : decode cX12_setSpans 51 = .ok (.iconst 0, 1) := by decide +kernel
theorem dX12_setSpans_52 : decode cX12_setSpans 52 = .ok (.iconst 0, 1) := by decide +kernel
theorem dX12_setSpans_53 : decode cX12_setSpans 53 = .ok (.invokevirtual 310, 3) := by decide +kernel
theorem dX12_setSpans_56 : decode cX12_setSpans 56 = .ok (.aload_n 0, 1) := by decide +kernel
theorem dX12_setSpans_57 : decode cX12_setSpans 57 = .ok (.invokevirtual 292, 3) := by decide +kernel
theorem dX12_setSpans_60 : decode cX12_setSpans 60 = .ok (.iconst 0, 1) := by decide +kernel
theorem dX12_setSpans_61 : decode cX12_setSpans 61 = .ok (.ireturn, 1) := by decide +kernel
theorem dX12_most_0 : decode cX12_most 0 = .ok (.iload_n 2, 1) := by decide +kernel
theorem dX12_most_1 : decode cX12_most 1 = .ok (.invokestatic 92, 3) := by decide +kernel
theorem dX12_most_4 : decode cX12_most 4 = .ok (.ifCond .ne 5, 3) := by decide +kernel
theorem dX12_most_7 : decode cX12_most 7 = .ok (.iconst (-1), 1) := by decide +kernel
theorem dX12_most_8 : decode cX12_most 8 = .ok (.ireturn, 1) := by decide +kernel
theorem dX12_most_9 : decode cX12_most 9 = .ok (.aload_n 0, 1) := by decide +kernel
theorem dX12_most_10 : decode cX12_most 10 = .ok (.iload_n 1, 1) := by decide +kernel
theorem dX12_most_11 : decode cX12_most 11 = .ok (.invokevirtual 316, 3) := by decide +kernel
theorem dX12_most_14 : decode cX12_most 14 = .ok (.istore_n 3, 1) := by decide +kernel
theorem dX12_most_15 : decode cX12_most 15 = .ok (.iload_n 3, 1) := by decide +kernel
theorem dX12_most_16 : decode cX12_most 16 = .ok (.ifCond .ge 5, 3) := by decide +kernel
theorem dX12_most_19 : decode cX12_most 19 = .ok (.iload_n 3, 1) := by decide +kernel
theorem dX12_most_20 : decode cX12_most 20 = .ok (.ireturn, 1) := by decide +kernel
theorem dX12_most_21 : decode cX12_most 21 = .ok (.iload_n 1, 1) := by decide +kernel
theorem dX12_most_22 : decode cX12_most 22 = .ok (.aload_n 0, 1) := by decide +kernel
theorem dX12_most_23 : decode cX12_most 23 = .ok (.getfield 188, 3) := by decide +kernel
theorem dX12_most_26 : decode cX12_most 26 = .ok (.iconst (-1), 1) := by decide +kernel
theorem dX12_most_27 : decode cX12_most 27 = .ok (.ixor, 1) := by decide +kernel
theorem dX12_most_28 : decode cX12_most 28 = .ok (.iand, 1) := by decide +kernel
theorem dX12_most_29 : decode cX12_most 29 = .ok (.invokestatic 313, 3) := by decide +kernel
theorem dX12_most_32 : decode cX12_most 32 = .ok (.istore 4, 2) := by decide +kernel
theorem dX12_most_34 : decode cX12_most 34 = .ok (.aload_n 0, 1) := by decide +kernel
theorem dX12_most_35 : decode cX12_most 35 = .ok (.iload_n 2, 1) := by decide +kernel
theorem dX12_most_36 : decode cX12_most 36 = .ok (.iload 4, 2) := by decide +kernel
theorem dX12_most_38 : decode cX12_most 38 = .ok (.invokevirtual 319, 3) := by decide +kernel
theorem dX12_most_41 : decode cX12_most 41 = .ok (.pop, 1) := by decide +kernel
theorem dX12_most_42 : decode cX12_most 42 = .ok (.iconst 0, 1) := by decide +kernel
theorem dX12_most_43 : decode cX12_most 43 = .ok (.istore 5, 2) := by decide +kernel
theorem dX12_most_45 : decode cX12_most 45 = .ok (.iload 5, 2) := by decide +kernel
theorem dX12_most_47 : decode cX12_most 47 = .ok (.iload 4, 2) := by decide +kernel
theorem dX12_most_49 : decode cX12_most 49 = .ok (.if_icmp .ge 23, 3) := by decide +kernel
theorem dX12_most_52 : decode cX12_most 52 = .ok (.aload_n 0, 1) := by decide +kernel
theorem dX12_most_53 : decode cX12_most 53 = .ok (.iload_n 2, 1) := by decide +kernel
theorem dX12_most_54 : decode cX12_most 54 = .ok (.iload 5, 2) := by decide +kernel
theorem dX12_most_56 : decode cX12_most 56 = .ok (.aload_n 0, 1) := by decide +kernel
theorem dX12_most_57 : decode cX12_most 57 = .ok (.getfield 60, 3) := by decide +kernel
theorem dX12_most_60 : decode cX12_most 60 = .ok (.iload 5, 2) := by decide +kernel
theorem dX12_most_62 : decode cX12_most 62 = .ok (.iaload, 1) := by decide +kernel
theorem dX12_most_63 : decode cX12_most 63 = .ok (.invokevirtual 103, 3) := by decide +kernel
theorem dX12_most_66 : decode cX12_most 66 = .ok (.iinc 5 1, 3) := by decide +kernel
theorem dX12_most_69 : decode cX12_most 69 = .ok (.goto (-24), 3) := by decide +kernel
theorem dX12_most_72 : decode cX12_most 72 = .ok (.aload_n 0, 1) := by decide +kernel
theorem dX12_most_73 : decode cX12_most 73 = .ok (.getfield 304, 3) := by decide +kernel
theorem dX12_most_76 : decode cX12_most 76 = .ok (.ireturn, 1) := by decide +kernel
theorem dX12_spans_0 : decode cX12_spans 0 = .ok (.aload_n 0, 1) := by decide +kernel
theorem dX12_spans_1 : decode cX12_spans 1 = .ok (.iload_n 1, 1) := by decide +kernel
theorem dX12_spans_2 : decode cX12_spans 2 = .ok (.invokevirtual 316, 3) := by decide +kernel
theorem dX12_spans_5 : decode cX12_spans 5 = .ok (.istore_n 2, 1) := by decide +kernel
theorem dX12_spans_6 : decode cX12_spans 6 = .ok (.iload_n 2, 1) := by decide +kernel
theorem dX12_spans_7 : decode cX12_spans 7 = .ok (.ifCond .ge 7, 3) := by decide +kernel
theorem dX12_spans_10 : decode cX12_spans 10 = .ok (.iload_n 2, 1) := by decide +kernel
theorem dX12_spans_11 : decode cX12_spans 11 = .ok (.goto 15, 3) := by decide +kernel
theorem dX12_spans_14 : decode cX12_spans 14 = .ok (.aload_n 0, 1) := by decide +kernel
theorem dX12_spans_15 : decode cX12_spans 15 = .ok (.aload_n 0, 1) := by decide +kernel
theorem dX12_spans_16 : decode cX12_spans 16 = .ok (.getfield 304, 3) := by decide +kernel
theorem dX12_spans_19 : decode cX12_spans 19 = .ok (.aload_n 0, 1) := by decide +kernel
theorem dX12_spans_20 : decode cX12_spans 20 = .ok (.getfield 307, 3) := by decide +kernel
theorem dX12_spans_23 : decode cX12_spans 23 = .ok (.invokevirtual 114, 3) := by decide +kernel
theorem dX12_spans_26 : decode cX12_spans 26 = .ok (.ireturn, 1) := by decide +kernel
theorem dX12_best_0 : decode cX12_best 0 = .ok (.aload_n 0, 1) := by decide +kernel
theorem dX12_best_1 : decode cX12_best 1 = .ok (.iload_n 1, 1) := by decide +kernel
theorem dX12_best_2 : decode cX12_best 2 = .ok (.invokevirtual 295, 3) := by decide +kernel
theorem dX12_best_5 : decode cX12_best 5 = .ok (.istore_n 2, 1) := by decide +kernel
theorem dX12_best_6 : decode cX12_best 6 = .ok (.iload_n 2, 1) := by decide +kernel
theorem dX12_best_7 : decode cX12_best 7 = .ok (.ifCond .ge 5, 3) := by decide +kernel
theorem dX12_best_10 : decode cX12_best 10 = .ok (.iload_n 2, 1) := by decide +kernel
theorem dX12_best_11 : decode cX12_best 11 = .ok (.ireturn, 1) := by decide +kernel
theorem dX12_best_12 : decode cX12_best 12 = .ok (.aload_n 0, 1) := by decide +kernel
theorem dX12_best_13 : decode cX12_best 13 = .ok (.getfield 147, 3) := by decide +kernel
theorem dX12_best_16 : decode cX12_best 16 = .ok (.istore_n 3, 1) := by decide +kernel
theorem dX12_best_17 : decode cX12_best 17 = .ok (.iconst 0, 1) := by decide +kernel
theorem dX12_best_18 : decode cX12_best 18 = .ok (.istore 4, 2) := by decide +kernel
theorem dX12_best_20 : decode cX12_best 20 = .ok (.iconst (-1), 1) := by decide +kernel
theorem dX12_best_21 : decode cX12_best 21 = .ok (.istore 5, 2) := by decide +kernel
theorem dX12_best_23 : decode cX12_best 23 = .ok (.iconst 0, 1) := by decide +kernel
theorem dX12_best_24 : decode cX12_best 24 = .ok (.istore 6, 2) := by decide +kernel
theorem dX12_best_26 : decode cX12_best 26 = .ok (.iload 6, 2) := by decide +kernel
theorem dX12_best_28 : decode cX12_best 28 = .ok (.bipush 60, 2) := by decide +kernel
theorem dX12_best_30 : decode cX12_best 30 = .ok (.if_icmp .gt 54, 3) := by decide +kernel
theorem dX12_best_33 : decode cX12_best 33 = .ok (.aload_n 0, 1) := by decide +kernel
theorem dX12_best_34 : decode cX12_best 34 = .ok (.iload 6, 2) := by decide +kernel
theorem dX12_best_36 : decode cX12_best 36 = .ok (.putfield 147, 3) := by decide +kernel
theorem dX12_best_39 : decode cX12_best 39 = .ok (.aload_n 0, 1) := by decide +kernel
theorem dX12_best_40 : decode cX12_best 40 = .ok (.iload_n 1, 1) := by decide +kernel
theorem dX12_best_41 : decode cX12_best 41 = .ok (.invokevirtual 298, 3) := by decide +kernel
theorem dX12_best_44 : decode cX12_best 44 = .ok (.istore 7, 2) := by decide +kernel
theorem dX12_best_46 : decode cX12_best 46 = .ok (.iload 7, 2) := by decide +kernel
theorem dX12_best_48 : decode cX12_best 48 = .ok (.iload 5, 2) := by decide +kernel
theorem dX12_best_50 : decode cX12_best 50 = .ok (.if_icmp .le 8, 3) := by decide +kernel
theorem dX12_best_53 : decode cX12_best 53 = .ok (.iload 6, 2) := by decide +kernel
theorem dX12_best_55 : decode cX12_best 55 = .ok (.goto 5, 3) := by decide +kernel
theorem dX12_best_58 : decode cX12_best 58 = .ok (.iload 4, 2) := by decide +kernel
theorem dX12_best_60 : decode cX12_best 60 = .ok (.istore 4, 2) := by decide +kernel
theorem dX12_best_62 : decode cX12_best 62 = .ok (.iload 7, 2) := by decide +kernel
theorem dX12_best_64 : decode cX12_best 64 = .ok (.iload 5, 2) := by decide +kernel
theorem dX12_best_66 : decode cX12_best 66 = .ok (.if_icmp .le 8, 3) := by decide +kernel
theorem dX12_best_69 : decode cX12_best 69 = .ok (.iload 7, 2) := by decide +kernel
theorem dX12_best_71 : decode cX12_best 71 = .ok (.goto 5, 3) := by decide +kernel
theorem dX12_best_74 : decode cX12_best 74 = .ok (.iload 5, 2) := by decide +kernel
theorem dX12_best_76 : decode cX12_best 76 = .ok (.istore 5, 2) := by decide +kernel
theorem dX12_best_78 : decode cX12_best 78 = .ok (.iinc 6 1, 3) := by decide +kernel
theorem dX12_best_81 : decode cX12_best 81 = .ok (.goto (-55), 3) := by decide +kernel
theorem dX12_best_84 : decode cX12_best 84 = .ok (.aload_n 0, 1) := by decide +kernel
theorem dX12_best_85 : decode cX12_best 85 = .ok (.iload_n 3, 1) := by decide +kernel
theorem dX12_best_86 : decode cX12_best 86 = .ok (.putfield 147, 3) := by decide +kernel
theorem dX12_best_89 : decode cX12_best 89 = .ok (.aload_n 0, 1) := by decide +kernel
theorem dX12_best_90 : decode cX12_best 90 = .ok (.iload 5, 2) := by decide +kernel
theorem dX12_best_92 : decode cX12_best 92 = .ok (.iload 4, 2) := by decide +kernel
theorem dX12_best_94 : decode cX12_best 94 = .ok (.invokevirtual 114, 3) := by decide +kernel
theorem dX12_best_97 : decode cX12_best 97 = .ok (.ireturn, 1) := by decide +kernel
theorem dX12_first_0 : decode cX12_first 0 = .ok (.aload_n 0, 1) := by decide +kernel
theorem dX12_first_1 : decode cX12_first 1 = .ok (.iload_n 1, 1) := by decide +kernel
theorem dX12_first_2 : decode cX12_first 2 = .ok (.invokevirtual 160, 3) := by decide +kernel
theorem dX12_first_5 : decode cX12_first 5 = .ok (.ifCond .ne 5, 3) := by decide +kernel
theorem dX12_first_8 : decode cX12_first 8 = .ok (.iconst (-1), 1) := by decide +kernel
theorem dX12_first_9 : decode cX12_first 9 = .ok (.ireturn, 1) := by decide +kernel
theorem dX12_first_10 : decode cX12_first 10 = .ok (.aload_n 0, 1) := by decide +kernel
theorem dX12_first_11 : decode cX12_first 11 = .ok (.iload_n 2, 1) := by decide +kernel
theorem dX12_first_12 : decode cX12_first 12 = .ok (.invokevirtual 295, 3) := by decide +kernel
theorem dX12_first_15 : decode cX12_first 15 = .ok (.istore_n 3, 1) := by decide +kernel
theorem dX12_first_16 : decode cX12_first 16 = .ok (.iload_n 3, 1) := by decide +kernel
theorem dX12_first_17 : decode cX12_first 17 = .ok (.ifCond .ge 5, 3) := by decide +kernel
theorem dX12_first_20 : decode cX12_first 20 = .ok (.iload_n 3, 1) := by decide +kernel
theorem dX12_first_21 : decode cX12_first 21 = .ok (.ireturn, 1) := by decide +kernel
theorem dX12_first_22 : decode cX12_first 22 = .ok (.aload_n 0, 1) := by decide +kernel
theorem dX12_first_23 : decode cX12_first 23 = .ok (.getfield 188, 3) := by decide +kernel
theorem dX12_first_26 : decode cX12_first 26 = .ok (.iload_n 1, 1) := by decide +kernel
theorem dX12_first_27 : decode cX12_first 27 = .ok (.invokestatic 191, 3) := by decide +kernel
theorem dX12_first_30 : decode cX12_first 30 = .ok (.istore 4, 2) := by decide +kernel
theorem dX12_first_32 : decode cX12_first 32 = .ok (.iconst 0, 1) := by decide +kernel
theorem dX12_first_33 : decode cX12_first 33 = .ok (.istore 5, 2) := by decide +kernel
theorem dX12_first_35 : decode cX12_first 35 = .ok (.iload 5, 2) := by decide +kernel
theorem dX12_first_37 : decode cX12_first 37 = .ok (.aload_n 0, 1) := by decide +kernel
theorem dX12_first_38 : decode cX12_first 38 = .ok (.getfield 17, 3) := by decide +kernel
theorem dX12_first_41 : decode cX12_first 41 = .ok (.iload_n 2, 1) := by decide +kernel
theorem dX12_first_42 : decode cX12_first 42 = .ok (.iaload, 1) := by decide +kernel
theorem dX12_first_43 : decode cX12_first 43 = .ok (.if_icmp .ge 32, 3) := by decide +kernel
theorem dX12_first_46 : decode cX12_first 46 = .ok (.iload 4, 2) := by decide +kernel
theorem dX12_first_48 : decode cX12_first 48 = .ok (.ifCond .ne 14, 3) := by decide +kernel
theorem dX12_first_51 : decode cX12_first 51 = .ok (.aload_n 0, 1) := by decide +kernel
theorem dX12_first_52 : decode cX12_first 52 = .ok (.iload_n 2, 1) := by decide +kernel
theorem dX12_first_53 : decode cX12_first 53 = .ok (.iload 5, 2) := by decide +kernel
theorem dX12_first_55 : decode cX12_first 55 = .ok (.invokevirtual 110, 3) := by decide +kernel
theorem dX12_first_58 : decode cX12_first 58 = .ok (.iload_n 1, 1) := by decide +kernel
theorem dX12_first_59 : decode cX12_first 59 = .ok (.if_icmp .ne 7, 3) := by decide +kernel
theorem dX12_first_62 : decode cX12_first 62 = .ok (.iconst 1, 1) := by decide +kernel
theorem dX12_first_63 : decode cX12_first 63 = .ok (.goto 4, 3) := by decide +kernel
theorem dX12_first_66 : decode cX12_first 66 = .ok (.iconst 0, 1) := by decide +kernel
theorem dX12_first_67 : decode cX12_first 67 = .ok (.istore 4, 2) := by decide +kernel
theorem dX12_first_69 : decode cX12_first 69 = .ok (.iinc 5 1, 3) := by decide +kernel
theorem dX12_first_72 : decode cX12_first 72 = .ok (.goto (-37), 3) := by decide +kernel
theorem dX12_first_75 : decode cX12_first 75 = .ok (.iload 4, 2) := by decide +kernel
theorem dX12_first_77 : decode cX12_first 77 = .ok (.ifCond .eq 9, 3) := by decide +kernel
theorem dX12_first_80 : decode cX12_first 80 = .ok (.aload_n 0, 1) := by decide +kernel
theorem dX12_first_81 : decode cX12_first 81 = .ok (.iconst 3, 1) := by decide +kernel
theorem dX12_first_82 : decode cX12_first 82 = .ok (.invokevirtual 96, 3) := by decide +kernel
theorem dX12_first_85 : decode cX12_first 85 = .ok (.ireturn, 1) := by decide +kernel
theorem dX12_first_86 : decode cX12_first 86 = .ok (.aload_n 0, 1) := by decide +kernel
theorem dX12_first_87 : decode cX12_first 87 = .ok (.iload_n 2, 1) := by decide +kernel
theorem dX12_first_88 : decode cX12_first 88 = .ok (.invokevirtual 298, 3) := by decide +kernel
theorem dX12_first_91 : decode cX12_first 91 = .ok (.istore 5, 2) := by decide +kernel
theorem dX12_first_93 : decode cX12_first 93 = .ok (.aload_n 0, 1) := by decide +kernel
theorem dX12_first_94 : decode cX12_first 94 = .ok (.invokevirtual 286, 3) := by decide +kernel
theorem dX12_first_97 : decode cX12_first 97 = .ok (.aload_n 0, 1) := by decide +kernel
theorem dX12_first_98 : decode cX12_first 98 = .ok (.iload_n 1, 1) := by decide +kernel
theorem dX12_first_99 : decode cX12_first 99 = .ok (.invokevirtual 231, 3) := by decide +kernel
theorem dX12_first_102 : decode cX12_first 102 = .ok (.aload_n 0, 1) := by decide +kernel
theorem dX12_first_103 : decode cX12_first 103 = .ok (.iload_n 2, 1) := by decide +kernel
theorem dX12_first_104 : decode cX12_first 104 = .ok (.invokevirtual 289, 3) := by decide +kernel
theorem dX12_first_107 : decode cX12_first 107 = .ok (.istore 6, 2) := by decide +kernel
theorem dX12_first_109 : decode cX12_first 109 = .ok (.aload_n 0, 1) := by decide +kernel
theorem dX12_first_110 : decode cX12_first 110 = .ok (.invokevirtual 292, 3) := by decide +kernel
theorem dX12_first_113 : decode cX12_first 113 = .ok (.aload_n 0, 1) := by decide +kernel
theorem dX12_first_114 : decode cX12_first 114 = .ok (.iload 6, 2) := by decide +kernel
theorem dX12_first_116 : decode cX12_first 116 = .ok (.iload 5, 2) := by decide +kernel
theorem dX12_first_118 : decode cX12_first 118 = .ok (.isub, 1) := by decide +kernel
theorem dX12_first_119 : decode cX12_first 119 = .ok (.iconst 1, 1) := by decide +kernel
theorem dX12_first_120 : decode cX12_first 120 = .ok (.invokevirtual 114, 3) := by decide +kernel
theorem dX12_first_123 : decode cX12_first 123 = .ok (.ireturn, 1) := by decide +kernel
theorem dX12_buy_0 : decode cX12_buy 0 = .ok (.aload_n 0, 1) := by decide +kernel
theorem dX12_buy_1 : decode cX12_buy 1 = .ok (.iload_n 1, 1) := by decide +kernel
theorem dX12_buy_2 : decode cX12_buy 2 = .ok (.invokevirtual 107, 3) := by decide +kernel
theorem dX12_buy_5 : decode cX12_buy 5 = .ok (.istore_n 2, 1) := by decide +kernel
theorem dX12_buy_6 : decode cX12_buy 6 = .ok (.iload_n 2, 1) := by decide +kernel
theorem dX12_buy_7 : decode cX12_buy 7 = .ok (.ifCond .ge 5, 3) := by decide +kernel
theorem dX12_buy_10 : decode cX12_buy 10 = .ok (.iload_n 2, 1) := by decide +kernel
theorem dX12_buy_11 : decode cX12_buy 11 = .ok (.ireturn, 1) := by decide +kernel
theorem dX12_buy_12 : decode cX12_buy 12 = .ok (.aload_n 0, 1) := by decide +kernel
theorem dX12_buy_13 : decode cX12_buy 13 = .ok (.getfield 17, 3) := by decide +kernel
theorem dX12_buy_16 : decode cX12_buy 16 = .ok (.iload_n 1, 1) := by decide +kernel
theorem dX12_buy_17 : decode cX12_buy 17 = .ok (.iaload, 1) := by decide +kernel
theorem dX12_buy_18 : decode cX12_buy 18 = .ok (.bipush 12, 2) := by decide +kernel
theorem dX12_buy_20 : decode cX12_buy 20 = .ok (.if_icmp .le 9, 3) := by decide +kernel
theorem dX12_buy_23 : decode cX12_buy 23 = .ok (.aload_n 0, 1) := by decide +kernel
theorem dX12_buy_24 : decode cX12_buy 24 = .ok (.iconst 5, 1) := by decide +kernel
theorem dX12_buy_25 : decode cX12_buy 25 = .ok (.invokevirtual 96, 3) := by decide +kernel
theorem dX12_buy_28 : decode cX12_buy 28 = .ok (.ireturn, 1) := by decide +kernel
theorem dX12_buy_29 : decode cX12_buy 29 = .ok (.iconst 0, 1) := by decide +kernel
theorem dX12_buy_30 : decode cX12_buy 30 = .ok (.istore_n 3, 1) := by decide +kernel
theorem dX12_buy_31 : decode cX12_buy 31 = .ok (.iload_n 3, 1) := by decide +kernel
theorem dX12_buy_32 : decode cX12_buy 32 = .ok (.aload_n 0, 1) := by decide +kernel
theorem dX12_buy_33 : decode cX12_buy 33 = .ok (.getfield 17, 3) := by decide +kernel
theorem dX12_buy_36 : decode cX12_buy 36 = .ok (.iload_n 1, 1) := by decide +kernel
theorem dX12_buy_37 : decode cX12_buy 37 = .ok (.iaload, 1) := by decide +kernel
theorem dX12_buy_38 : decode cX12_buy 38 = .ok (.if_icmp .ge 31, 3) := by decide +kernel
theorem dX12_buy_41 : decode cX12_buy 41 = .ok (.aload_n 0, 1) := by decide +kernel
theorem dX12_buy_42 : decode cX12_buy 42 = .ok (.iload_n 1, 1) := by decide +kernel
theorem dX12_buy_43 : decode cX12_buy 43 = .ok (.iload_n 3, 1) := by decide +kernel
theorem dX12_buy_44 : decode cX12_buy 44 = .ok (.invokevirtual 110, 3) := by decide +kernel
theorem dX12_buy_47 : decode cX12_buy 47 = .ok (.iconst 0, 1) := by decide +kernel
theorem dX12_buy_48 : decode cX12_buy 48 = .ok (.sipush 999, 3) := by decide +kernel
theorem dX12_buy_51 : decode cX12_buy 51 = .ok (.invokestatic 88, 3) := by decide +kernel
theorem dX12_buy_54 : decode cX12_buy 54 = .ok (.ifCond .ne 9, 3) := by decide +kernel
theorem dX12_buy_57 : decode cX12_buy 57 = .ok (.aload_n 0, 1) := by decide +kernel
theorem dX12_buy_58 : decode cX12_buy 58 = .ok (.iconst 3, 1) := by decide +kernel
theorem dX12_buy_59 : decode cX12_buy 59 = .ok (.invokevirtual 96, 3) := by decide +kernel
theorem dX12_buy_62 : decode cX12_buy 62 = .ok (.ireturn, 1) := by decide +kernel
theorem dX12_buy_63 : decode cX12_buy 63 = .ok (.iinc 3 1, 3) := by decide +kernel
theorem dX12_buy_66 : decode cX12_buy 66 = .ok (.goto (-35), 3) := by decide +kernel
theorem dX12_buy_69 : decode cX12_buy 69 = .ok (.iconst 0, 1) := by decide +kernel
theorem dX12_buy_70 : decode cX12_buy 70 = .ok (.istore_n 3, 1) := by decide +kernel
theorem dX12_buy_71 : decode cX12_buy 71 = .ok (.iconst 0, 1) := by decide +kernel
theorem dX12_buy_72 : decode cX12_buy 72 = .ok (.istore 4, 2) := by decide +kernel
theorem dX12_buy_74 : decode cX12_buy 74 = .ok (.aload_n 0, 1) := by decide +kernel
theorem dX12_buy_75 : decode cX12_buy 75 = .ok (.invokevirtual 260, 3) := by decide +kernel
theorem dX12_buy_78 : decode cX12_buy 78 = .ok (.istore 5, 2) := by decide +kernel
theorem dX12_buy_80 : decode cX12_buy 80 = .ok (.iconst 0, 1) := by decide +kernel
theorem dX12_buy_81 : decode cX12_buy 81 = .ok (.istore 6, 2) := by decide +kernel
theorem dX12_buy_83 : decode cX12_buy 83 = .ok (.iload 6, 2) := by decide +kernel
theorem dX12_buy_85 : decode cX12_buy 85 = .ok (.iconst 1, 1) := by decide +kernel
theorem dX12_buy_86 : decode cX12_buy 86 = .ok (.aload_n 0, 1) := by decide +kernel
theorem dX12_buy_87 : decode cX12_buy 87 = .ok (.getfield 17, 3) := by decide +kernel
theorem dX12_buy_90 : decode cX12_buy 90 = .ok (.iload_n 1, 1) := by decide +kernel
theorem dX12_buy_91 : decode cX12_buy 91 = .ok (.iaload, 1) := by decide +kernel
theorem dX12_buy_92 : decode cX12_buy 92 = .ok (.ishl, 1) := by decide +kernel
theorem dX12_buy_93 : decode cX12_buy 93 = .ok (.if_icmp .ge 105, 3) := by decide +kernel
theorem dX12_buy_96 : decode cX12_buy 96 = .ok (.iconst 0, 1) := by decide +kernel
theorem dX12_buy_97 : decode cX12_buy 97 = .ok (.istore 7, 2) := by decide +kernel
theorem dX12_buy_99 : decode cX12_buy 99 = .ok (.iconst 0, 1) := by decide +kernel
theorem dX12_buy_100 : decode cX12_buy 100 = .ok (.istore 8, 2) := by decide +kernel
theorem dX12_buy_102 : decode cX12_buy 102 = .ok (.iload 8, 2) := by decide +kernel
theorem dX12_buy_104 : decode cX12_buy 104 = .ok (.aload_n 0, 1) := by decide +kernel
theorem dX12_buy_105 : decode cX12_buy 105 = .ok (.getfield 17, 3) := by decide +kernel
theorem dX12_buy_108 : decode cX12_buy 108 = .ok (.iload_n 1, 1) := by decide +kernel
theorem dX12_buy_109 : decode cX12_buy 109 = .ok (.iaload, 1) := by decide +kernel
theorem dX12_buy_110 : decode cX12_buy 110 = .ok (.if_icmp .ge 35, 3) := by decide +kernel
theorem dX12_buy_113 : decode cX12_buy 113 = .ok (.iload 7, 2) := by decide +kernel
theorem dX12_buy_115 : decode cX12_buy 115 = .ok (.iload 6, 2) := by decide +kernel
theorem dX12_buy_117 : decode cX12_buy 117 = .ok (.iload 8, 2) := by decide +kernel
theorem dX12_buy_119 : decode cX12_buy 119 = .ok (.invokestatic 191, 3) := by decide +kernel
theorem dX12_buy_122 : decode cX12_buy 122 = .ok (.ifCond .eq 13, 3) := by decide +kernel
theorem dX12_buy_125 : decode cX12_buy 125 = .ok (.aload_n 0, 1) := by decide +kernel
theorem dX12_buy_126 : decode cX12_buy 126 = .ok (.iload_n 1, 1) := by decide +kernel
theorem dX12_buy_127 : decode cX12_buy 127 = .ok (.iload 8, 2) := by decide +kernel
theorem dX12_buy_129 : decode cX12_buy 129 = .ok (.invokevirtual 110, 3) := by decide +kernel
theorem dX12_buy_132 : decode cX12_buy 132 = .ok (.goto 4, 3) := by decide +kernel
theorem dX12_buy_135 : decode cX12_buy 135 = .ok (.iconst 0, 1) := by decide +kernel
theorem dX12_buy_136 : decode cX12_buy 136 = .ok (.iadd, 1) := by decide +kernel
theorem dX12_buy_137 : decode cX12_buy 137 = .ok (.istore 7, 2) := by decide +kernel
theorem dX12_buy_139 : decode cX12_buy 139 = .ok (.iinc 8 1, 3) := by decide +kernel
theorem dX12_buy_142 : decode cX12_buy 142 = .ok (.goto (-40), 3) := by decide +kernel
theorem dX12_buy_145 : decode cX12_buy 145 = .ok (.iload 7, 2) := by decide +kernel
theorem dX12_buy_147 : decode cX12_buy 147 = .ok (.iload 5, 2) := by decide +kernel
theorem dX12_buy_149 : decode cX12_buy 149 = .ok (.if_icmp .gt 14, 3) := by decide +kernel
theorem dX12_buy_152 : decode cX12_buy 152 = .ok (.iload 7, 2) := by decide +kernel
theorem dX12_buy_154 : decode cX12_buy 154 = .ok (.iload 4, 2) := by decide +kernel
theorem dX12_buy_156 : decode cX12_buy 156 = .ok (.if_icmp .le 7, 3) := by decide +kernel
theorem dX12_buy_159 : decode cX12_buy 159 = .ok (.iconst 1, 1) := by decide +kernel
theorem dX12_buy_160 : decode cX12_buy 160 = .ok (.goto 4, 3) := by decide +kernel
theorem dX12_buy_163 : decode cX12_buy 163 = .ok (.iconst 0, 1) := by decide +kernel
theorem dX12_buy_164 : decode cX12_buy 164 = .ok (.istore 8, 2) := by decide +kernel
theorem dX12_buy_166 : decode cX12_buy 166 = .ok (.iload 8, 2) := by decide +kernel
theorem dX12_buy_168 : decode cX12_buy 168 = .ok (.ifCond .eq 8, 3) := by decide +kernel
theorem dX12_buy_171 : decode cX12_buy 171 = .ok (.iload 6, 2) := by decide +kernel
theorem dX12_buy_173 : decode cX12_buy 173 = .ok (.goto 4, 3) := by decide +kernel
theorem dX12_buy_176 : decode cX12_buy 176 = .ok (.iload_n 3, 1) := by decide +kernel
theorem dX12_buy_177 : decode cX12_buy 177 = .ok (.istore_n 3, 1) := by decide +kernel
theorem dX12_buy_178 : decode cX12_buy 178 = .ok (.iload 8, 2) := by decide +kernel
theorem dX12_buy_180 : decode cX12_buy 180 = .ok (.ifCond .eq 8, 3) := by decide +kernel
theorem dX12_buy_183 : decode cX12_buy 183 = .ok (.iload 7, 2) := by decide +kernel
theorem dX12_buy_185 : decode cX12_buy 185 = .ok (.goto 5, 3) := by decide +kernel
theorem dX12_buy_188 : decode cX12_buy 188 = .ok (.iload 4, 2) := by decide +kernel
theorem dX12_buy_190 : decode cX12_buy 190 = .ok (.istore 4, 2) := by decide +kernel
theorem dX12_buy_192 : decode cX12_buy 192 = .ok (.iinc 6 1, 3) := by decide +kernel
theorem dX12_buy_195 : decode cX12_buy 195 = .ok (.goto (-112), 3) := by decide +kernel
theorem dX12_buy_198 : decode cX12_buy 198 = .ok (.aload_n 0, 1) := by decide +kernel
theorem dX12_buy_199 : decode cX12_buy 199 = .ok (.iload_n 3, 1) := by decide +kernel
theorem dX12_buy_200 : decode cX12_buy 200 = .ok (.iload 4, 2) := by decide +kernel
theorem dX12_buy_202 : decode cX12_buy 202 = .ok (.invokevirtual 114, 3) := by decide +kernel
theorem dX12_buy_205 : decode cX12_buy 205 = .ok (.ireturn, 1) := by decide +kernel
theorem dX12_fill_0 : decode cX12_fill 0 = .ok (.iload_n 1, 1) := by decide +kernel
theorem dX12_fill_1 : decode cX12_fill 1 = .ok (.iconst 0, 1) := by decide +kernel
theorem dX12_fill_2 : decode cX12_fill 2 = .ok (.sipush 999, 3) := by decide +kernel
theorem dX12_fill_5 : decode cX12_fill 5 = .ok (.invokestatic 88, 3) := by decide +kernel
theorem dX12_fill_8 : decode cX12_fill 8 = .ok (.ifCond .ne 5, 3) := by decide +kernel
theorem dX12_fill_11 : decode cX12_fill 11 = .ok (.iconst (-1), 1) := by decide +kernel
theorem dX12_fill_12 : decode cX12_fill 12 = .ok (.ireturn, 1) := by decide +kernel
theorem dX12_fill_13 : decode cX12_fill 13 = .ok (.aload_n 0, 1) := by decide +kernel
theorem dX12_fill_14 : decode cX12_fill 14 = .ok (.invokevirtual 286, 3) := by decide +kernel
theorem dX12_fill_17 : decode cX12_fill 17 = .ok (.iconst 0, 1) := by decide +kernel
theorem dX12_fill_18 : decode cX12_fill 18 = .ok (.istore_n 2, 1) := by decide +kernel
theorem dX12_fill_19 : decode cX12_fill 19 = .ok (.iload_n 2, 1) := by decide +kernel
theorem dX12_fill_20 : decode cX12_fill 20 = .ok (.aload_n 0, 1) := by decide +kernel
theorem dX12_fill_21 : decode cX12_fill 21 = .ok (.getfield 141, 3) := by decide +kernel
theorem dX12_fill_24 : decode cX12_fill 24 = .ok (.if_icmp .ge 25, 3) := by decide +kernel
theorem dX12_fill_27 : decode cX12_fill 27 = .ok (.aload_n 0, 1) := by decide +kernel
theorem dX12_fill_28 : decode cX12_fill 28 = .ok (.getfield 188, 3) := by decide +kernel
theorem dX12_fill_31 : decode cX12_fill 31 = .ok (.iload_n 2, 1) := by decide +kernel
theorem dX12_fill_32 : decode cX12_fill 32 = .ok (.invokestatic 191, 3) := by decide +kernel
theorem dX12_fill_35 : decode cX12_fill 35 = .ok (.ifCond .ne 8, 3) := by decide +kernel
theorem dX12_fill_38 : decode cX12_fill 38 = .ok (.aload_n 0, 1) := by decide +kernel
theorem dX12_fill_39 : decode cX12_fill 39 = .ok (.iload_n 2, 1) := by decide +kernel
theorem dX12_fill_40 : decode cX12_fill 40 = .ok (.invokevirtual 231, 3) := by decide +kernel
theorem dX12_fill_43 : decode cX12_fill 43 = .ok (.iinc 2 1, 3) := by decide +kernel
theorem dX12_fill_46 : decode cX12_fill 46 = .ok (.goto (-27), 3) := by decide +kernel
theorem dX12_fill_49 : decode cX12_fill 49 = .ok (.aload_n 0, 1) := by decide +kernel
theorem dX12_fill_50 : decode cX12_fill 50 = .ok (.invokevirtual 260, 3) := by decide +kernel
theorem dX12_fill_53 : decode cX12_fill 53 = .ok (.istore_n 2, 1) := by decide +kernel
theorem dX12_fill_54 : decode cX12_fill 54 = .ok (.aload_n 0, 1) := by decide +kernel
theorem dX12_fill_55 : decode cX12_fill 55 = .ok (.invokevirtual 292, 3) := by decide +kernel
theorem dX12_fill_58 : decode cX12_fill 58 = .ok (.iload_n 1, 1) := by decide +kernel
theorem dX12_fill_59 : decode cX12_fill 59 = .ok (.iload_n 2, 1) := by decide +kernel
theorem dX12_fill_60 : decode cX12_fill 60 = .ok (.if_icmp .le 9, 3) := by decide +kernel
theorem dX12_fill_63 : decode cX12_fill 63 = .ok (.iload_n 1, 1) := by decide +kernel
theorem dX12_fill_64 : decode cX12_fill 64 = .ok (.iload_n 2, 1) := by decide +kernel
theorem dX12_fill_65 : decode cX12_fill 65 = .ok (.isub, 1) := by decide +kernel
theorem dX12_fill_66 : decode cX12_fill 66 = .ok (.goto 4, 3) := by decide +kernel
theorem dX12_fill_69 : decode cX12_fill 69 = .ok (.iconst 0, 1) := by decide +kernel
theorem dX12_fill_70 : decode cX12_fill 70 = .ok (.ireturn, 1) := by decide +kernel
theorem dX12_setNone_0 : decode cX12_setNone 0 = .ok (.aload_n 0, 1) := by decide +kernel
theorem dX12_setNone_1 : decode cX12_setNone 1 = .ok (.iconst 0, 1) := by decide +kernel
theorem dX12_setNone_2 : decode cX12_setNone 2 = .ok (.putfield 322, 3) := by decide +kernel
theorem dX12_setNone_5 : decode cX12_setNone 5 = .ok (.aload_n 0, 1) := by decide +kernel
theorem dX12_setNone_6 : decode cX12_setNone 6 = .ok (.aload_n 0, 1) := by decide +kernel
theorem dX12_setNone_7 : decode cX12_setNone 7 = .ok (.getfield 188, 3) := by decide +kernel
theorem dX12_setNone_10 : decode cX12_setNone 10 = .ok (.putfield 325, 3) := by decide +kernel
theorem dX12_setNone_13 : decode cX12_setNone 13 = .ok (.aload_n 0, 1) := by decide +kernel
theorem dX12_setNone_14 : decode cX12_setNone 14 = .ok (.iconst 0, 1) := by decide +kernel
theorem dX12_setNone_15 : decode cX12_setNone 15 = .ok (.putfield 328, 3) := by decide +kernel
theorem dX12_setNone_18 : decode cX12_setNone 18 = .ok (.iconst 0, 1) := by decide +kernel
theorem dX12_setNone_19 : decode cX12_setNone 19 = .ok (.istore_n 3, 1) := by decide +kernel
theorem dX12_setNone_20 : decode cX12_setNone 20 = .ok (.iload_n 3, 1) := by decide +kernel
theorem dX12_setNone_21 : decode cX12_setNone 21 = .ok (.sipush 512, 3) := by decide +kernel
theorem dX12_setNone_24 : decode cX12_setNone 24 = .ok (.if_icmp .ge 122, 3) := by decide +kernel
theorem dX12_setNone_27 : decode cX12_setNone 27 = .ok (.iconst 0, 1) := by decide +kernel
theorem dX12_setNone_28 : decode cX12_setNone 28 = .ok (.istore 4, 2) := by decide +kernel
theorem dX12_setNone_30 : decode cX12_setNone 30 = .ok (.iconst 0, 1) := by decide +kernel
theorem dX12_setNone_31 : decode cX12_setNone 31 = .ok (.istore 5, 2) := by decide +kernel
theorem dX12_setNone_33 : decode cX12_setNone 33 = .ok (.iload 5, 2) := by decide +kernel
theorem dX12_setNone_35 : decode cX12_setNone 35 = .ok (.aload_n 0, 1) := by decide +kernel
theorem dX12_setNone_36 : decode cX12_setNone 36 = .ok (.getfield 141, 3) := by decide +kernel
theorem dX12_setNone_39 : decode cX12_setNone 39 = .ok (.if_icmp .ge 34, 3) := by decide +kernel
theorem dX12_setNone_42 : decode cX12_setNone 42 = .ok (.iload 4, 2) := by decide +kernel
theorem dX12_setNone_44 : decode cX12_setNone 44 = .ok (.iload_n 3, 1) := by decide +kernel
theorem dX12_setNone_45 : decode cX12_setNone 45 = .ok (.iload 5, 2) := by decide +kernel
theorem dX12_setNone_47 : decode cX12_setNone 47 = .ok (.invokestatic 191, 3) := by decide +kernel
theorem dX12_setNone_50 : decode cX12_setNone 50 = .ok (.ifCond .eq 13, 3) := by decide +kernel
theorem dX12_setNone_53 : decode cX12_setNone 53 = .ok (.aload_n 0, 1) := by decide +kernel
theorem dX12_setNone_54 : decode cX12_setNone 54 = .ok (.iload 5, 2) := by decide +kernel
theorem dX12_setNone_56 : decode cX12_setNone 56 = .ok (.iconst 1, 1) := by decide +kernel
theorem dX12_setNone_57 : decode cX12_setNone 57 = .ok (.invokevirtual 163, 3) := by decide +kernel
theorem dX12_setNone_60 : decode cX12_setNone 60 = .ok (.goto 4, 3) := by decide +kernel
theorem dX12_setNone_63 : decode cX12_setNone 63 = .ok (.iconst 0, 1) := by decide +kernel
theorem dX12_setNone_64 : decode cX12_setNone 64 = .ok (.iadd, 1) := by decide +kernel
theorem dX12_setNone_65 : decode cX12_setNone 65 = .ok (.istore 4, 2) := by decide +kernel
theorem dX12_setNone_67 : decode cX12_setNone 67 = .ok (.iinc 5 1, 3) := by decide +kernel
theorem dX12_setNone_70 : decode cX12_setNone 70 = .ok (.goto (-37), 3) := by decide +kernel
theorem dX12_setNone_73 : decode cX12_setNone 73 = .ok (.iload_n 3, 1) := by decide +kernel
theorem dX12_setNone_74 : decode cX12_setNone 74 = .ok (.aload_n 0, 1) := by decide +kernel
theorem dX12_setNone_75 : decode cX12_setNone 75 = .ok (.getfield 188, 3) := by decide +kernel
theorem dX12_setNone_78 : decode cX12_setNone 78 = .ok (.iconst (-1), 1) := by decide +kernel
theorem dX12_setNone_79 : decode cX12_setNone 79 = .ok (.ixor, 1) := by decide +kernel
theorem dX12_setNone_80 : decode cX12_setNone 80 = .ok (.iand, 1) := by decide +kernel
theorem dX12_setNone_81 : decode cX12_setNone 81 = .ok (.ifCond .ne 59, 3) := by decide +kernel
theorem dX12_setNone_84 : decode cX12_setNone 84 = .ok (.iload 4, 2) := by decide +kernel
theorem dX12_setNone_86 : decode cX12_setNone 86 = .ok (.iload_n 1, 1) := by decide +kernel
theorem dX12_setNone_87 : decode cX12_setNone 87 = .ok (.if_icmp .ne 53, 3) := by decide +kernel
theorem dX12_setNone_90 : decode cX12_setNone 90 = .ok (.aload_n 0, 1) := by decide +kernel
theorem dX12_setNone_91 : decode cX12_setNone 91 = .ok (.dup, 1) := by decide +kernel
theorem dX12_setNone_92 : decode cX12_setNone 92 = .ok (.getfield 322, 3) := by decide +kernel
theorem dX12_setNone_95 : decode cX12_setNone 95 = .ok (.iconst 1, 1) := by decide +kernel
theorem dX12_setNone_96 : decode cX12_setNone 96 = .ok (.iadd, 1) := by decide +kernel
theorem dX12_setNone_97 : decode cX12_setNone 97 = .ok (.putfield 322, 3) := by decide +kernel
theorem dX12_setNone_100 : decode cX12_setNone 100 = .ok (.aload_n 0, 1) := by decide +kernel
