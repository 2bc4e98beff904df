theorem dX12_setNone_101 : decode cX12_setNone 101 = .ok (.dup, 1) := by decide +kernel
theorem dX12_setNone_102 : decode cX12_setNone 102 = .ok (.getfield 325, 3) := by decide +kernel
theorem dX12_setNone_105 : decode cX12_setNone 105 = .ok (.iload_n 3, 1) := by decide +kernel
theorem dX12_setNone_106 : decode cX12_setNone 106 = .ok (.iconst (-1), 1) := by decide +kernel
theorem dX12_setNone_107 : decode cX12_setNone 107 = .ok (.ixor, 1) := by decide +kernel
theorem dX12_setNone_108 : decode cX12_setNone 108 = .ok (.iand, 1) := by decide +kernel
theorem dX12_setNone_109 : decode cX12_setNone 109 = .ok (.putfield 325, 3) := by decide +kernel
theorem dX12_setNone_112 : decode cX12_setNone 112 = .ok (.aload_n 0, 1) := by decide +kernel
theorem dX12_setNone_113 : decode cX12_setNone 113 = .ok (.dup, 1) := by decide +kernel
theorem dX12_setNone_114 : decode cX12_setNone 114 = .ok (.getfield 328, 3) := by decide +kernel
theorem dX12_setNone_117 : decode cX12_setNone 117 = .ok (.iload_n 2, 1) := by decide +kernel
theorem dX12_setNone_118 : decode cX12_setNone 118 = .ok (.bipush (-9), 2) := by decide +kernel
theorem dX12_setNone_120 : decode cX12_setNone 120 = .ok (.if_icmp .eq 15, 3) := by decide +kernel
theorem dX12_setNone_123 : decode cX12_setNone 123 = .ok (.iload_n 3, 1) := by decide +kernel
theorem dX12_setNone_124 : decode cX12_setNone 124 = .ok (.iload_n 2, 1) := by decide +kernel
theorem dX12_setNone_125 : decode cX12_setNone 125 = .ok (.invokestatic 191, 3) := by decide +kernel
theorem dX12_setNone_128 : decode cX12_setNone 128 = .ok (.ifCond .ne 7, 3) := by decide +kernel
theorem dX12_setNone_131 : decode cX12_setNone 131 = .ok (.iconst 1, 1) := by decide +kernel
theorem dX12_setNone_132 : decode cX12_setNone 132 = .ok (.goto 4, 3) := by decide +kernel
theorem dX12_setNone_135 : decode cX12_setNone 135 = .ok (.iconst 0, 1) := by decide +kernel
theorem dX12_setNone_136 : decode cX12_setNone 136 = .ok (.iadd, 1) := by decide +kernel
theorem dX12_setNone_137 : decode cX12_setNone 137 = .ok (.putfield 328, 3) := by decide +kernel
theorem dX12_setNone_140 : decode cX12_setNone 140 = .ok (.iinc 3 1, 3) := by decide +kernel
theorem dX12_setNone_143 : decode cX12_setNone 143 = .ok (.goto (-123), 3) := by decide +kernel
theorem dX12_setNone_146 : decode cX12_setNone 146 = .ok (.aload_n 0, 1) := by decide +kernel
theorem dX12_setNone_147 : decode cX12_setNone 147 = .ok (.aload_n 0, 1) := by decide +kernel
theorem dX12_setNone_148 : decode cX12_setNone 148 = .ok (.getfield 322, 3) := by decide +kernel
theorem dX12_setNone_151 : decode cX12_setNone 151 = .ok (.ifCond .ne 7, 3) := by decide +kernel
theorem dX12_setNone_154 : decode cX12_setNone 154 = .ok (.iconst 0, 1) := by decide +kernel
theorem dX12_setNone_155 : decode cX12_setNone 155 = .ok (.goto 7, 3) := by decide +kernel
theorem dX12_setNone_158 : decode cX12_setNone 158 = .ok (.aload_n 0, 1) := by decide +kernel
theorem dX12_setNone_159 : decode cX12_setNone 159 = .ok (.getfield 325, 3) := by decide +kernel
theorem dX12_setNone_162 : decode cX12_setNone 162 = .ok (.putfield 325, 3) := by decide +kernel
theorem dX12_setNone_165 : decode cX12_setNone 165 = .ok (.return_, 1) := by decide +kernel
theorem dX12_nothing_0 : decode cX12_nothing 0 = .ok (.iload_n 1, 1) := by decide +kernel
theorem dX12_nothing_1 : decode cX12_nothing 1 = .ok (.iconst 0, 1) := by decide +kernel
theorem dX12_nothing_2 : decode cX12_nothing 2 = .ok (.bipush 99, 2) := by decide +kernel
theorem dX12_nothing_4 : decode cX12_nothing 4 = .ok (.invokestatic 88, 3) := by decide +kernel
theorem dX12_nothing_7 : decode cX12_nothing 7 = .ok (.ifCond .ne 5, 3) := by decide +kernel
theorem dX12_nothing_10 : decode cX12_nothing 10 = .ok (.iconst (-1), 1) := by decide +kernel
theorem dX12_nothing_11 : decode cX12_nothing 11 = .ok (.ireturn, 1) := by decide +kernel
theorem dX12_nothing_12 : decode cX12_nothing 12 = .ok (.aload_n 0, 1) := by decide +kernel
theorem dX12_nothing_13 : decode cX12_nothing 13 = .ok (.iload_n 1, 1) := by decide +kernel
theorem dX12_nothing_14 : decode cX12_nothing 14 = .ok (.bipush (-9), 2) := by decide +kernel
theorem dX12_nothing_16 : decode cX12_nothing 16 = .ok (.invokevirtual 331, 3) := by decide +kernel
theorem dX12_nothing_19 : decode cX12_nothing 19 = .ok (.aload_n 0, 1) := by decide +kernel
theorem dX12_nothing_20 : decode cX12_nothing 20 = .ok (.aload_n 0, 1) := by decide +kernel
theorem dX12_nothing_21 : decode cX12_nothing 21 = .ok (.getfield 325, 3) := by decide +kernel
theorem dX12_nothing_24 : decode cX12_nothing 24 = .ok (.aload_n 0, 1) := by decide +kernel
theorem dX12_nothing_25 : decode cX12_nothing 25 = .ok (.getfield 322, 3) := by decide +kernel
theorem dX12_nothing_28 : decode cX12_nothing 28 = .ok (.invokevirtual 114, 3) := by decide +kernel
theorem dX12_nothing_31 : decode cX12_nothing 31 = .ok (.ireturn, 1) := by decide +kernel
theorem dX12_gaveNone_0 : decode cX12_gaveNone 0 = .ok (.aload_n 0, 1) := by decide +kernel
theorem dX12_gaveNone_1 : decode cX12_gaveNone 1 = .ok (.iload_n 1, 1) := by decide +kernel
theorem dX12_gaveNone_2 : decode cX12_gaveNone 2 = .ok (.invokevirtual 160, 3) := by decide +kernel
theorem dX12_gaveNone_5 : decode cX12_gaveNone 5 = .ok (.ifCond .eq 13, 3) := by decide +kernel
theorem dX12_gaveNone_8 : decode cX12_gaveNone 8 = .ok (.iload_n 2, 1) := by decide +kernel
theorem dX12_gaveNone_9 : decode cX12_gaveNone 9 = .ok (.iconst 0, 1) := by decide +kernel
theorem dX12_gaveNone_10 : decode cX12_gaveNone 10 = .ok (.bipush 99, 2) := by decide +kernel
theorem dX12_gaveNone_12 : decode cX12_gaveNone 12 = .ok (.invokestatic 88, 3) := by decide +kernel
theorem dX12_gaveNone_15 : decode cX12_gaveNone 15 = .ok (.ifCond .ne 5, 3) := by decide +kernel
theorem dX12_gaveNone_18 : decode cX12_gaveNone 18 = .ok (.iconst (-1), 1) := by decide +kernel
theorem dX12_gaveNone_19 : decode cX12_gaveNone 19 = .ok (.ireturn, 1) := by decide +kernel
theorem dX12_gaveNone_20 : decode cX12_gaveNone 20 = .ok (.aload_n 0, 1) := by decide +kernel
theorem dX12_gaveNone_21 : decode cX12_gaveNone 21 = .ok (.getfield 188, 3) := by decide +kernel
theorem dX12_gaveNone_24 : decode cX12_gaveNone 24 = .ok (.iload_n 1, 1) := by decide +kernel
theorem dX12_gaveNone_25 : decode cX12_gaveNone 25 = .ok (.invokestatic 191, 3) := by decide +kernel
theorem dX12_gaveNone_28 : decode cX12_gaveNone 28 = .ok (.ifCond .ne 6, 3) := by decide +kernel
theorem dX12_gaveNone_31 : decode cX12_gaveNone 31 = .ok (.bipush (-4), 2) := by decide +kernel
theorem dX12_gaveNone_33 : decode cX12_gaveNone 33 = .ok (.ireturn, 1) := by decide +kernel
theorem dX12_gaveNone_34 : decode cX12_gaveNone 34 = .ok (.aload_n 0, 1) := by decide +kernel
theorem dX12_gaveNone_35 : decode cX12_gaveNone 35 = .ok (.iload_n 2, 1) := by decide +kernel
theorem dX12_gaveNone_36 : decode cX12_gaveNone 36 = .ok (.iload_n 1, 1) := by decide +kernel
theorem dX12_gaveNone_37 : decode cX12_gaveNone 37 = .ok (.invokevirtual 331, 3) := by decide +kernel
theorem dX12_gaveNone_40 : decode cX12_gaveNone 40 = .ok (.aload_n 0, 1) := by decide +kernel
theorem dX12_gaveNone_41 : decode cX12_gaveNone 41 = .ok (.getfield 322, 3) := by decide +kernel
theorem dX12_gaveNone_44 : decode cX12_gaveNone 44 = .ok (.ifCond .ne 11, 3) := by decide +kernel
theorem dX12_gaveNone_47 : decode cX12_gaveNone 47 = .ok (.aload_n 0, 1) := by decide +kernel
theorem dX12_gaveNone_48 : decode cX12_gaveNone 48 = .ok (.iconst 4, 1) := by decide +kernel
theorem dX12_gaveNone_49 : decode cX12_gaveNone 49 = .ok (.invokevirtual 96, 3) := by decide +kernel
theorem dX12_gaveNone_52 : decode cX12_gaveNone 52 = .ok (.goto 21, 3) := by decide +kernel
theorem dX12_gaveNone_55 : decode cX12_gaveNone 55 = .ok (.aload_n 0, 1) := by decide +kernel
theorem dX12_gaveNone_56 : decode cX12_gaveNone 56 = .ok (.aload_n 0, 1) := by decide +kernel
theorem dX12_gaveNone_57 : decode cX12_gaveNone 57 = .ok (.getfield 328, 3) := by decide +kernel
theorem dX12_gaveNone_60 : decode cX12_gaveNone 60 = .ok (.i2l, 1) := by decide +kernel
theorem dX12_gaveNone_61 : decode cX12_gaveNone 61 = .ok (.aload_n 0, 1) := by decide +kernel
theorem dX12_gaveNone_62 : decode cX12_gaveNone 62 = .ok (.getfield 322, 3) := by decide +kernel
theorem dX12_gaveNone_65 : decode cX12_gaveNone 65 = .ok (.i2l, 1) := by decide +kernel
theorem dX12_gaveNone_66 : decode cX12_gaveNone 66 = .ok (.aload_n 0, 1) := by decide +kernel
theorem dX12_gaveNone_67 : decode cX12_gaveNone 67 = .ok (.getfield 328, 3) := by decide +kernel
theorem dX12_gaveNone_70 : decode cX12_gaveNone 70 = .ok (.invokevirtual 276, 3) := by decide +kernel
theorem dX12_gaveNone_73 : decode cX12_gaveNone 73 = .ok (.ireturn, 1) := by decide +kernel
theorem dX12_isCard_0 : decode cX12_isCard 0 = .ok (.iload_n 0, 1) := by decide +kernel
theorem dX12_isCard_1 : decode cX12_isCard 1 = .ok (.iconst 1, 1) := by decide +kernel
theorem dX12_isCard_2 : decode cX12_isCard 2 = .ok (.bipush 40, 2) := by decide +kernel
theorem dX12_isCard_4 : decode cX12_isCard 4 = .ok (.invokestatic 88, 3) := by decide +kernel
theorem dX12_isCard_7 : decode cX12_isCard 7 = .ok (.ifCond .eq 17, 3) := by decide +kernel
theorem dX12_isCard_10 : decode cX12_isCard 10 = .ok (.iload_n 1, 1) := by decide +kernel
theorem dX12_isCard_11 : decode cX12_isCard 11 = .ok (.iconst 1, 1) := by decide +kernel
theorem dX12_isCard_12 : decode cX12_isCard 12 = .ok (.bipush 20, 2) := by decide +kernel
theorem dX12_isCard_14 : decode cX12_isCard 14 = .ok (.invokestatic 88, 3) := by decide +kernel
theorem dX12_isCard_17 : decode cX12_isCard 17 = .ok (.ifCond .eq 7, 3) := by decide +kernel
theorem dX12_isCard_20 : decode cX12_isCard 20 = .ok (.iconst 1, 1) := by decide +kernel
theorem dX12_isCard_21 : decode cX12_isCard 21 = .ok (.goto 4, 3) := by decide +kernel
theorem dX12_isCard_24 : decode cX12_isCard 24 = .ok (.iconst 0, 1) := by decide +kernel
theorem dX12_isCard_25 : decode cX12_isCard 25 = .ok (.ireturn, 1) := by decide +kernel
theorem dX12_areNames_0 : decode cX12_areNames 0 = .ok (.iconst 1, 1) := by decide +kernel
theorem dX12_areNames_1 : decode cX12_areNames 1 = .ok (.istore_n 2, 1) := by decide +kernel
theorem dX12_areNames_2 : decode cX12_areNames 2 = .ok (.iconst 0, 1) := by decide +kernel
theorem dX12_areNames_3 : decode cX12_areNames 3 = .ok (.istore_n 3, 1) := by decide +kernel
theorem dX12_areNames_4 : decode cX12_areNames 4 = .ok (.iload_n 3, 1) := by decide +kernel
theorem dX12_areNames_5 : decode cX12_areNames 5 = .ok (.aload_n 0, 1) := by decide +kernel
theorem dX12_areNames_6 : decode cX12_areNames 6 = .ok (.getfield 17, 3) := by decide +kernel
theorem dX12_areNames_9 : decode cX12_areNames 9 = .ok (.iload_n 1, 1) := by decide +kernel
theorem dX12_areNames_10 : decode cX12_areNames 10 = .ok (.iaload, 1) := by decide +kernel
theorem dX12_areNames_11 : decode cX12_areNames 11 = .ok (.if_icmp .ge 34, 3) := by decide +kernel
theorem dX12_areNames_14 : decode cX12_areNames 14 = .ok (.iload_n 2, 1) := by decide +kernel
theorem dX12_areNames_15 : decode cX12_areNames 15 = .ok (.ifCond .eq 22, 3) := by decide +kernel
theorem dX12_areNames_18 : decode cX12_areNames 18 = .ok (.aload_n 0, 1) := by decide +kernel
theorem dX12_areNames_19 : decode cX12_areNames 19 = .ok (.iload_n 1, 1) := by decide +kernel
theorem dX12_areNames_20 : decode cX12_areNames 20 = .ok (.iload_n 3, 1) := by decide +kernel
theorem dX12_areNames_21 : decode cX12_areNames 21 = .ok (.invokevirtual 110, 3) := by decide +kernel
theorem dX12_areNames_24 : decode cX12_areNames 24 = .ok (.iconst 1, 1) := by decide +kernel
theorem dX12_areNames_25 : decode cX12_areNames 25 = .ok (.bipush 40, 2) := by decide +kernel
theorem dX12_areNames_27 : decode cX12_areNames 27 = .ok (.invokestatic 88, 3) := by decide +kernel
theorem dX12_areNames_30 : decode cX12_areNames 30 = .ok (.ifCond .eq 7, 3) := by decide +kernel
theorem dX12_areNames_33 : decode cX12_areNames 33 = .ok (.iconst 1, 1) := by decide +kernel
theorem dX12_areNames_34 : decode cX12_areNames 34 = .ok (.goto 4, 3) := by decide +kernel
theorem dX12_areNames_37 : decode cX12_areNames 37 = .ok (.iconst 0, 1) := by decide +kernel
theorem dX12_areNames_38 : decode cX12_areNames 38 = .ok (.istore_n 2, 1) := by decide +kernel
theorem dX12_areNames_39 : decode cX12_areNames 39 = .ok (.iinc 3 1, 3) := by decide +kernel
theorem dX12_areNames_42 : decode cX12_areNames 42 = .ok (.goto (-38), 3) := by decide +kernel
theorem dX12_areNames_45 : decode cX12_areNames 45 = .ok (.iload_n 2, 1) := by decide +kernel
theorem dX12_areNames_46 : decode cX12_areNames 46 = .ok (.ireturn, 1) := by decide +kernel
theorem dX12_fits_0 : decode cX12_fits 0 = .ok (.iload_n 1, 1) := by decide +kernel
theorem dX12_fits_1 : decode cX12_fits 1 = .ok (.iload_n 2, 1) := by decide +kernel
theorem dX12_fits_2 : decode cX12_fits 2 = .ok (.invokestatic 334, 3) := by decide +kernel
theorem dX12_fits_5 : decode cX12_fits 5 = .ok (.ifCond .eq 10, 3) := by decide +kernel
theorem dX12_fits_8 : decode cX12_fits 8 = .ok (.iload_n 3, 1) := by decide +kernel
theorem dX12_fits_9 : decode cX12_fits 9 = .ok (.invokestatic 92, 3) := by decide +kernel
theorem dX12_fits_12 : decode cX12_fits 12 = .ok (.ifCond .ne 5, 3) := by decide +kernel
theorem dX12_fits_15 : decode cX12_fits 15 = .ok (.iconst (-1), 1) := by decide +kernel
theorem dX12_fits_16 : decode cX12_fits 16 = .ok (.ireturn, 1) := by decide +kernel
theorem dX12_fits_17 : decode cX12_fits 17 = .ok (.aload_n 0, 1) := by decide +kernel
theorem dX12_fits_18 : decode cX12_fits 18 = .ok (.iload_n 3, 1) := by decide +kernel
theorem dX12_fits_19 : decode cX12_fits 19 = .ok (.invokevirtual 107, 3) := by decide +kernel
theorem dX12_fits_22 : decode cX12_fits 22 = .ok (.istore 4, 2) := by decide +kernel
theorem dX12_fits_24 : decode cX12_fits 24 = .ok (.iload 4, 2) := by decide +kernel
theorem dX12_fits_26 : decode cX12_fits 26 = .ok (.ifCond .ge 6, 3) := by decide +kernel
theorem dX12_fits_29 : decode cX12_fits 29 = .ok (.iload 4, 2) := by decide +kernel
theorem dX12_fits_31 : decode cX12_fits 31 = .ok (.ireturn, 1) := by decide +kernel
theorem dX12_fits_32 : decode cX12_fits 32 = .ok (.aload_n 0, 1) := by decide +kernel
theorem dX12_fits_33 : decode cX12_fits 33 = .ok (.iload_n 3, 1) := by decide +kernel
theorem dX12_fits_34 : decode cX12_fits 34 = .ok (.invokevirtual 337, 3) := by decide +kernel
theorem dX12_fits_37 : decode cX12_fits 37 = .ok (.ifCond .ne 9, 3) := by decide +kernel
theorem dX12_fits_40 : decode cX12_fits 40 = .ok (.aload_n 0, 1) := by decide +kernel
theorem dX12_fits_41 : decode cX12_fits 41 = .ok (.iconst 3, 1) := by decide +kernel
theorem dX12_fits_42 : decode cX12_fits 42 = .ok (.invokevirtual 96, 3) := by decide +kernel
theorem dX12_fits_45 : decode cX12_fits 45 = .ok (.ireturn, 1) := by decide +kernel
theorem dX12_fits_46 : decode cX12_fits 46 = .ok (.iconst 0, 1) := by decide +kernel
theorem dX12_fits_47 : decode cX12_fits 47 = .ok (.istore 5, 2) := by decide +kernel
theorem dX12_fits_49 : decode cX12_fits 49 = .ok (.iload_n 1, 1) := by decide +kernel
theorem dX12_fits_50 : decode cX12_fits 50 = .ok (.istore 6, 2) := by decide +kernel
theorem dX12_fits_52 : decode cX12_fits 52 = .ok (.iconst 0, 1) := by decide +kernel
theorem dX12_fits_53 : decode cX12_fits 53 = .ok (.istore 7, 2) := by decide +kernel
theorem dX12_fits_55 : decode cX12_fits 55 = .ok (.iload 7, 2) := by decide +kernel
theorem dX12_fits_57 : decode cX12_fits 57 = .ok (.aload_n 0, 1) := by decide +kernel
theorem dX12_fits_58 : decode cX12_fits 58 = .ok (.getfield 17, 3) := by decide +kernel
theorem dX12_fits_61 : decode cX12_fits 61 = .ok (.iload_n 3, 1) := by decide +kernel
theorem dX12_fits_62 : decode cX12_fits 62 = .ok (.iaload, 1) := by decide +kernel
theorem dX12_fits_63 : decode cX12_fits 63 = .ok (.if_icmp .ge 95, 3) := by decide +kernel
theorem dX12_fits_66 : decode cX12_fits 66 = .ok (.aload_n 0, 1) := by decide +kernel
theorem dX12_fits_67 : decode cX12_fits 67 = .ok (.iload_n 3, 1) := by decide +kernel
theorem dX12_fits_68 : decode cX12_fits 68 = .ok (.iload 7, 2) := by decide +kernel
theorem dX12_fits_70 : decode cX12_fits 70 = .ok (.invokevirtual 110, 3) := by decide +kernel
theorem dX12_fits_73 : decode cX12_fits 73 = .ok (.istore 8, 2) := by decide +kernel
theorem dX12_fits_75 : decode cX12_fits 75 = .ok (.iload 5, 2) := by decide +kernel
theorem dX12_fits_77 : decode cX12_fits 77 = .ok (.ifCond .le 18, 3) := by decide +kernel
theorem dX12_fits_80 : decode cX12_fits 80 = .ok (.iload 6, 2) := by decide +kernel
theorem dX12_fits_82 : decode cX12_fits 82 = .ok (.iconst 1, 1) := by decide +kernel
theorem dX12_fits_83 : decode cX12_fits 83 = .ok (.iadd, 1) := by decide +kernel
theorem dX12_fits_84 : decode cX12_fits 84 = .ok (.iload 8, 2) := by decide +kernel
theorem dX12_fits_86 : decode cX12_fits 86 = .ok (.iadd, 1) := by decide +kernel
theorem dX12_fits_87 : decode cX12_fits 87 = .ok (.iload_n 1, 1) := by decide +kernel
theorem dX12_fits_88 : decode cX12_fits 88 = .ok (.if_icmp .gt 7, 3) := by decide +kernel
theorem dX12_fits_91 : decode cX12_fits 91 = .ok (.iconst 1, 1) := by decide +kernel
theorem dX12_fits_92 : decode cX12_fits 92 = .ok (.goto 4, 3) := by decide +kernel
theorem dX12_fits_95 : decode cX12_fits 95 = .ok (.iconst 0, 1) := by decide +kernel
theorem dX12_fits_96 : decode cX12_fits 96 = .ok (.istore 9, 2) := by decide +kernel
theorem dX12_fits_98 : decode cX12_fits 98 = .ok (.iload 9, 2) := by decide +kernel
theorem dX12_fits_100 : decode cX12_fits 100 = .ok (.ifCond .ne 18, 3) := by decide +kernel
theorem dX12_fits_103 : decode cX12_fits 103 = .ok (.iload 5, 2) := by decide +kernel
theorem dX12_fits_105 : decode cX12_fits 105 = .ok (.iload_n 2, 1) := by decide +kernel
theorem dX12_fits_106 : decode cX12_fits 106 = .ok (.if_icmp .eq 52, 3) := by decide +kernel
theorem dX12_fits_109 : decode cX12_fits 109 = .ok (.iload 8, 2) := by decide +kernel
theorem dX12_fits_111 : decode cX12_fits 111 = .ok (.iload_n 1, 1) := by decide +kernel
theorem dX12_fits_112 : decode cX12_fits 112 = .ok (.if_icmp .le 6, 3) := by decide +kernel
theorem dX12_fits_115 : decode cX12_fits 115 = .ok (.goto 43, 3) := by decide +kernel
theorem dX12_fits_118 : decode cX12_fits 118 = .ok (.iload 5, 2) := by decide +kernel
theorem dX12_fits_120 : decode cX12_fits 120 = .ok (.iload 9, 2) := by decide +kernel
theorem dX12_fits_122 : decode cX12_fits 122 = .ok (.ifCond .eq 7, 3) := by decide +kernel
theorem dX12_fits_125 : decode cX12_fits 125 = .ok (.iconst 0, 1) := by decide +kernel
theorem dX12_fits_126 : decode cX12_fits 126 = .ok (.goto 4, 3) := by decide +kernel
theorem dX12_fits_129 : decode cX12_fits 129 = .ok (.iconst 1, 1) := by decide +kernel
theorem dX12_fits_130 : decode cX12_fits 130 = .ok (.iadd, 1) := by decide +kernel
theorem dX12_fits_131 : decode cX12_fits 131 = .ok (.istore 5, 2) := by decide +kernel
theorem dX12_fits_133 : decode cX12_fits 133 = .ok (.iload 9, 2) := by decide +kernel
theorem dX12_fits_135 : decode cX12_fits 135 = .ok (.ifCond .eq 13, 3) := by decide +kernel
theorem dX12_fits_138 : decode cX12_fits 138 = .ok (.iload 6, 2) := by decide +kernel
theorem dX12_fits_140 : decode cX12_fits 140 = .ok (.iconst 1, 1) := by decide +kernel
theorem dX12_fits_141 : decode cX12_fits 141 = .ok (.iadd, 1) := by decide +kernel
theorem dX12_fits_142 : decode cX12_fits 142 = .ok (.iload 8, 2) := by decide +kernel
theorem dX12_fits_144 : decode cX12_fits 144 = .ok (.iadd, 1) := by decide +kernel
theorem dX12_fits_145 : decode cX12_fits 145 = .ok (.goto 5, 3) := by decide +kernel
theorem dX12_fits_148 : decode cX12_fits 148 = .ok (.iload 8, 2) := by decide +kernel
theorem dX12_fits_150 : decode cX12_fits 150 = .ok (.istore 6, 2) := by decide +kernel
theorem dX12_fits_152 : decode cX12_fits 152 = .ok (.iinc 7 1, 3) := by decide +kernel
theorem dX12_fits_155 : decode cX12_fits 155 = .ok (.goto (-100), 3) := by decide +kernel
theorem dX12_fits_158 : decode cX12_fits 158 = .ok (.aload_n 0, 1) := by decide +kernel
theorem dX12_fits_159 : decode cX12_fits 159 = .ok (.iload 5, 2) := by decide +kernel
theorem dX12_fits_161 : decode cX12_fits 161 = .ok (.iload 7, 2) := by decide +kernel
theorem dX12_fits_163 : decode cX12_fits 163 = .ok (.invokevirtual 114, 3) := by decide +kernel
theorem dX12_fits_166 : decode cX12_fits 166 = .ok (.ireturn, 1) := by decide +kernel
theorem dX12_room_0 : decode cX12_room 0 = .ok (.iload_n 1, 1) := by decide +kernel
theorem dX12_room_1 : decode cX12_room 1 = .ok (.iload_n 2, 1) := by decide +kernel
theorem dX12_room_2 : decode cX12_room 2 = .ok (.invokestatic 334, 3) := by decide +kernel
theorem dX12_room_5 : decode cX12_room 5 = .ok (.ifCond .eq 10, 3) := by decide +kernel
theorem dX12_room_8 : decode cX12_room 8 = .ok (.iload_n 3, 1) := by decide +kernel
theorem dX12_room_9 : decode cX12_room 9 = .ok (.invokestatic 92, 3) := by decide +kernel
theorem dX12_room_12 : decode cX12_room 12 = .ok (.ifCond .ne 5, 3) := by decide +kernel
theorem dX12_room_15 : decode cX12_room 15 = .ok (.iconst (-1), 1) := by decide +kernel
theorem dX12_room_16 : decode cX12_room 16 = .ok (.ireturn, 1) := by decide +kernel
theorem dX12_room_17 : decode cX12_room 17 = .ok (.aload_n 0, 1) := by decide +kernel
theorem dX12_room_18 : decode cX12_room 18 = .ok (.iload_n 3, 1) := by decide +kernel
theorem dX12_room_19 : decode cX12_room 19 = .ok (.invokevirtual 107, 3) := by decide +kernel
theorem dX12_room_22 : decode cX12_room 22 = .ok (.istore 4, 2) := by decide +kernel
theorem dX12_room_24 : decode cX12_room 24 = .ok (.iload 4, 2) := by decide +kernel
theorem dX12_room_26 : decode cX12_room 26 = .ok (.ifCond .ge 6, 3) := by decide +kernel
theorem dX12_room_29 : decode cX12_room 29 = .ok (.iload 4, 2) := by decide +kernel
theorem dX12_room_31 : decode cX12_room 31 = .ok (.ireturn, 1) := by decide +kernel
theorem dX12_room_32 : decode cX12_room 32 = .ok (.aload_n 0, 1) := by decide +kernel
theorem dX12_room_33 : decode cX12_room 33 = .ok (.getfield 17, 3) := by decide +kernel
theorem dX12_room_36 : decode cX12_room 36 = .ok (.iload_n 3, 1) := by decide +kernel
theorem dX12_room_37 : decode cX12_room 37 = .ok (.iaload, 1) := by decide +kernel
theorem dX12_room_38 : decode cX12_room 38 = .ok (.bipush 8, 2) := by decide +kernel
theorem dX12_room_40 : decode cX12_room 40 = .ok (.if_icmp .le 9, 3) := by decide +kernel
theorem dX12_room_43 : decode cX12_room 43 = .ok (.aload_n 0, 1) := by decide +kernel
theorem dX12_room_44 : decode cX12_room 44 = .ok (.iconst 5, 1) := by decide +kernel
theorem dX12_room_45 : decode cX12_room 45 = .ok (.invokevirtual 96, 3) := by decide +kernel
theorem dX12_room_48 : decode cX12_room 48 = .ok (.ireturn, 1) := by decide +kernel
theorem dX12_room_49 : decode cX12_room 49 = .ok (.aload_n 0, 1) := by decide +kernel
theorem dX12_room_50 : decode cX12_room 50 = .ok (.iload_n 3, 1) := by decide +kernel
theorem dX12_room_51 : decode cX12_room 51 = .ok (.invokevirtual 337, 3) := by decide +kernel
theorem dX12_room_54 : decode cX12_room 54 = .ok (.ifCond .ne 9, 3) := by decide +kernel
theorem dX12_room_57 : decode cX12_room 57 = .ok (.aload_n 0, 1) := by decide +kernel
theorem dX12_room_58 : decode cX12_room 58 = .ok (.iconst 3, 1) := by decide +kernel
theorem dX12_room_59 : decode cX12_room 59 = .ok (.invokevirtual 96, 3) := by decide +kernel
theorem dX12_room_62 : decode cX12_room 62 = .ok (.ireturn, 1) := by decide +kernel
theorem dX12_room_63 : decode cX12_room 63 = .ok (.iconst 0, 1) := by decide +kernel
theorem dX12_room_64 : decode cX12_room 64 = .ok (.istore 5, 2) := by decide +kernel
theorem dX12_room_66 : decode cX12_room 66 = .ok (.aload_n 0, 1) := by decide +kernel
theorem dX12_room_67 : decode cX12_room 67 = .ok (.getfield 63, 3) := by decide +kernel
theorem dX12_room_70 : decode cX12_room 70 = .ok (.iconst 0, 1) := by decide +kernel
theorem dX12_room_71 : decode cX12_room 71 = .ok (.iconst 0, 1) := by decide +kernel
theorem dX12_room_72 : decode cX12_room 72 = .ok (.iastore, 1) := by decide +kernel
theorem dX12_room_73 : decode cX12_room 73 = .ok (.aload_n 0, 1) := by decide +kernel
theorem dX12_room_74 : decode cX12_room 74 = .ok (.getfield 66, 3) := by decide +kernel
theorem dX12_room_77 : decode cX12_room 77 = .ok (.iconst 0, 1) := by decide +kernel
theorem dX12_room_78 : decode cX12_room 78 = .ok (.iconst 0, 1) := by decide +kernel
theorem dX12_room_79 : decode cX12_room 79 = .ok (.iastore, 1) := by decide +kernel
theorem dX12_room_80 : decode cX12_room 80 = .ok (.iconst 1, 1) := by decide +kernel
theorem dX12_room_81 : decode cX12_room 81 = .ok (.istore 6, 2) := by decide +kernel
theorem dX12_room_83 : decode cX12_room 83 = .ok (.iload 6, 2) := by decide +kernel
theorem dX12_room_85 : decode cX12_room 85 = .ok (.iconst 1, 1) := by decide +kernel
theorem dX12_room_86 : decode cX12_room 86 = .ok (.aload_n 0, 1) := by decide +kernel
theorem dX12_room_87 : decode cX12_room 87 = .ok (.getfield 17, 3) := by decide +kernel
theorem dX12_room_90 : decode cX12_room 90 = .ok (.iload_n 3, 1) := by decide +kernel
theorem dX12_room_91 : decode cX12_room 91 = .ok (.iaload, 1) := by decide +kernel
theorem dX12_room_92 : decode cX12_room 92 = .ok (.ishl, 1) := by decide +kernel
theorem dX12_room_93 : decode cX12_room 93 = .ok (.if_icmp .ge 295, 3) := by decide +kernel
theorem dX12_room_96 : decode cX12_room 96 = .ok (.aload_n 0, 1) := by decide +kernel
theorem dX12_room_97 : decode cX12_room 97 = .ok (.getfield 63, 3) := by decide +kernel
theorem dX12_room_100 : decode cX12_room 100 = .ok (.iload 6, 2) := by decide +kernel
theorem dX12_room_102 : decode cX12_room 102 = .ok (.bipush 100, 2) := by decide +kernel
theorem dX12_room_104 : decode cX12_room 104 = .ok (.iastore, 1) := by decide +kernel
theorem dX12_room_105 : decode cX12_room 105 = .ok (.aload_n 0, 1) := by decide +kernel
theorem dX12_room_106 : decode cX12_room 106 = .ok (.getfield 66, 3) := by decide +kernel
theorem dX12_room_109 : decode cX12_room 109 = .ok (.iload 6, 2) := by decide +kernel
theorem dX12_room_111 : decode cX12_room 111 = .ok (.iconst 0, 1) := by decide +kernel
theorem dX12_room_112 : decode cX12_room 112 = .ok (.iastore, 1) := by decide +kernel
theorem dX12_room_113 : decode cX12_room 113 = .ok (.iconst 0, 1) := by decide +kernel
theorem dX12_room_114 : decode cX12_room 114 = .ok (.istore 7, 2) := by decide +kernel
theorem dX12_room_116 : decode cX12_room 116 = .ok (.iload 7, 2) := by decide +kernel
theorem dX12_room_118 : decode cX12_room 118 = .ok (.aload_n 0, 1) := by decide +kernel
theorem dX12_room_119 : decode cX12_room 119 = .ok (.getfield 17, 3) := by decide +kernel
theorem dX12_room_122 : decode cX12_room 122 = .ok (.iload_n 3, 1) := by decide +kernel
theorem dX12_room_123 : decode cX12_room 123 = .ok (.iaload, 1) := by decide +kernel
theorem dX12_room_124 : decode cX12_room 124 = .ok (.if_icmp .ge 225, 3) := by decide +kernel
theorem dX12_room_127 : decode cX12_room 127 = .ok (.iload 6, 2) := by decide +kernel
theorem dX12_room_129 : decode cX12_room 129 = .ok (.iconst 1, 1) := by decide +kernel
theorem dX12_room_130 : decode cX12_room 130 = .ok (.iload 7, 2) := by decide +kernel
theorem dX12_room_132 : decode cX12_room 132 = .ok (.ishl, 1) := by decide +kernel
theorem dX12_room_133 : decode cX12_room 133 = .ok (.iconst (-1), 1) := by decide +kernel
theorem dX12_room_134 : decode cX12_room 134 = .ok (.ixor, 1) := by decide +kernel
theorem dX12_room_135 : decode cX12_room 135 = .ok (.iand, 1) := by decide +kernel
theorem dX12_room_136 : decode cX12_room 136 = .ok (.istore 8, 2) := by decide +kernel
theorem dX12_room_138 : decode cX12_room 138 = .ok (.aload_n 0, 1) := by decide +kernel
theorem dX12_room_139 : decode cX12_room 139 = .ok (.iload_n 3, 1) := by decide +kernel
theorem dX12_room_140 : decode cX12_room 140 = .ok (.iload 7, 2) := by decide +kernel
theorem dX12_room_142 : decode cX12_room 142 = .ok (.invokevirtual 110, 3) := by decide +kernel
theorem dX12_room_145 : decode cX12_room 145 = .ok (.istore 9, 2) := by decide +kernel
theorem dX12_room_147 : decode cX12_room 147 = .ok (.iload 6, 2) := by decide +kernel
theorem dX12_room_149 : decode cX12_room 149 = .ok (.iload 7, 2) := by decide +kernel
theorem dX12_room_151 : decode cX12_room 151 = .ok (.invokestatic 191, 3) := by decide +kernel
theorem dX12_room_154 : decode cX12_room 154 = .ok (.ifCond .eq 189, 3) := by decide +kernel
theorem dX12_room_157 : decode cX12_room 157 = .ok (.iload 9, 2) := by decide +kernel
theorem dX12_room_159 : decode cX12_room 159 = .ok (.iload_n 1, 1) := by decide +kernel
theorem dX12_room_160 : decode cX12_room 160 = .ok (.if_icmp .gt 183, 3) := by decide +kernel
theorem dX12_room_163 : decode cX12_room 163 = .ok (.aload_n 0, 1) := by decide +kernel
theorem dX12_room_164 : decode cX12_room 164 = .ok (.getfield 63, 3) := by decide +kernel
theorem dX12_room_167 : decode cX12_room 167 = .ok (.iload 8, 2) := by decide +kernel
theorem dX12_room_169 : decode cX12_room 169 = .ok (.iaload, 1) := by decide +kernel
theorem dX12_room_170 : decode cX12_room 170 = .ok (.bipush 100, 2) := by decide +kernel
theorem dX12_room_172 : decode cX12_room 172 = .ok (.if_icmp .ge 171, 3) := by decide +kernel
theorem dX12_room_175 : decode cX12_room 175 = .ok (.aload_n 0, 1) := by decide +kernel
theorem dX12_room_176 : decode cX12_room 176 = .ok (.getfield 63, 3) := by decide +kernel
theorem dX12_room_179 : decode cX12_room 179 = .ok (.iload 8, 2) := by decide +kernel
theorem dX12_room_181 : decode cX12_room 181 = .ok (.iaload, 1) := by decide +kernel
theorem dX12_room_182 : decode cX12_room 182 = .ok (.ifCond .le 23, 3) := by decide +kernel
theorem dX12_room_185 : decode cX12_room 185 = .ok (.aload_n 0, 1) := by decide +kernel
theorem dX12_room_186 : decode cX12_room 186 = .ok (.getfield 66, 3) := by decide +kernel
theorem dX12_room_189 : decode cX12_room 189 = .ok (.iload 8, 2) := by decide +kernel
theorem dX12_room_191 : decode cX12_room 191 = .ok (.iaload, 1) := by decide +kernel
theorem dX12_room_192 : decode cX12_room 192 = .ok (.iconst 1, 1) := by decide +kernel
theorem dX12_room_193 : decode cX12_room 193 = .ok (.iadd, 1) := by decide +kernel
theorem dX12_room_194 : decode cX12_room 194 = .ok (.iload 9, 2) := by decide +kernel
theorem dX12_room_196 : decode cX12_room 196 = .ok (.iadd, 1) := by decide +kernel
theorem dX12_room_197 : decode cX12_room 197 = .ok (.iload_n 1, 1) := by decide +kernel
theorem dX12_room_198 : decode cX12_room 198 = .ok (.if_icmp .gt 7, 3) := by decide +kernel
theorem dX12_room_201 : decode cX12_room 201 = .ok (.iconst 1, 1) := by decide +kernel
theorem dX12_room_202 : decode cX12_room 202 = .ok (.goto 4, 3) := by decide +kernel
theorem dX12_room_205 : decode cX12_room 205 = .ok (.iconst 0, 1) := by decide +kernel
theorem dX12_room_206 : decode cX12_room 206 = .ok (.istore 10, 2) := by decide +kernel
theorem dX12_room_208 : decode cX12_room 208 = .ok (.aload_n 0, 1) := by decide +kernel
theorem dX12_room_209 : decode cX12_room 209 = .ok (.getfield 63, 3) := by decide +kernel
theorem dX12_room_212 : decode cX12_room 212 = .ok (.iload 8, 2) := by decide +kernel
theorem dX12_room_214 : decode cX12_room 214 = .ok (.iaload, 1) := by decide +kernel
theorem dX12_room_215 : decode cX12_room 215 = .ok (.iload 10, 2) := by decide +kernel
theorem dX12_room_217 : decode cX12_room 217 = .ok (.ifCond .eq 7, 3) := by decide +kernel
theorem dX12_room_220 : decode cX12_room 220 = .ok (.iconst 0, 1) := by decide +kernel
theorem dX12_room_221 : decode cX12_room 221 = .ok (.goto 4, 3) := by decide +kernel
theorem dX12_room_224 : decode cX12_room 224 = .ok (.iconst 1, 1) := by decide +kernel
theorem dX12_room_225 : decode cX12_room 225 = .ok (.iadd, 1) := by decide +kernel
theorem dX12_room_226 : decode cX12_room 226 = .ok (.istore 11, 2) := by decide +kernel
theorem dX12_room_228 : decode cX12_room 228 = .ok (.iload 10, 2) := by decide +kernel
theorem dX12_room_230 : decode cX12_room 230 = .ok (.ifCond .eq 18, 3) := by decide +kernel
theorem dX12_room_233 : decode cX12_room 233 = .ok (.aload_n 0, 1) := by decide +kernel
theorem dX12_room_234 : decode cX12_room 234 = .ok (.getfield 66, 3) := by decide +kernel
theorem dX12_room_237 : decode cX12_room 237 = .ok (.iload 8, 2) := by decide +kernel
theorem dX12_room_239 : decode cX12_room 239 = .ok (.iaload, 1) := by decide +kernel
theorem dX12_room_240 : decode cX12_room 240 = .ok (.iconst 1, 1) := by decide +kernel
theorem dX12_room_241 : decode cX12_room 241 = .ok (.iadd, 1) := by decide +kernel
theorem dX12_room_242 : decode cX12_room 242 = .ok (.iload 9, 2) := by decide +kernel
theorem dX12_room_244 : decode cX12_room 244 = .ok (.iadd, 1) := by decide +kernel
theorem dX12_room_245 : decode cX12_room 245 = .ok (.goto 5, 3) := by decide +kernel
theorem dX12_room_248 : decode cX12_room 248 = .ok (.iload 9, 2) := by decide +kernel
theorem dX12_room_250 : decode cX12_room 250 = .ok (.istore 12, 2) := by decide +kernel
theorem dX12_room_252 : decode cX12_room 252 = .ok (.iload 11, 2) := by decide +kernel
theorem dX12_room_254 : decode cX12_room 254 = .ok (.aload_n 0, 1) := by decide +kernel
theorem dX12_room_255 : decode cX12_room 255 = .ok (.getfield 63, 3) := by decide +kernel
theorem dX12_room_258 : decode cX12_room 258 = .ok (.iload 6, 2) := by decide +kernel
theorem dX12_room_260 : decode cX12_room 260 = .ok (.iaload, 1) := by decide +kernel
theorem dX12_room_261 : decode cX12_room 261 = .ok (.if_icmp .lt 27, 3) := by decide +kernel
theorem dX12_room_264 : decode cX12_room 264 = .ok (.iload 11, 2) := by decide +kernel
theorem dX12_room_266 : decode cX12_room 266 = .ok (.aload_n 0, 1) := by decide +kernel
theorem dX12_room_267 : decode cX12_room 267 = .ok (.getfield 63, 3) := by decide +kernel
theorem dX12_room_270 : decode cX12_room 270 = .ok (.iload 6, 2) := by decide +kernel
theorem dX12_room_272 : decode cX12_room 272 = .ok (.iaload, 1) := by decide +kernel
theorem dX12_room_273 : decode cX12_room 273 = .ok (.if_icmp .ne 19, 3) := by decide +kernel
theorem dX12_room_276 : decode cX12_room 276 = .ok (.iload 12, 2) := by decide +kernel
theorem dX12_room_278 : decode cX12_room 278 = .ok (.aload_n 0, 1) := by decide +kernel
theorem dX12_room_279 : decode cX12_room 279 = .ok (.getfield 66, 3) := by decide +kernel
theorem dX12_room_282 : decode cX12_room 282 = .ok (.iload 6, 2) := by decide +kernel
theorem dX12_room_284 : decode cX12_room 284 = .ok (.iaload, 1) := by decide +kernel
theorem dX12_room_285 : decode cX12_room 285 = .ok (.if_icmp .ge 7, 3) := by decide +kernel
theorem dX12_room_288 : decode cX12_room 288 = .ok (.iconst 1, 1) := by decide +kernel
theorem dX12_room_289 : decode cX12_room 289 = .ok (.goto 4, 3) := by decide +kernel
theorem dX12_room_292 : decode cX12_room 292 = .ok (.iconst 0, 1) := by decide +kernel
theorem dX12_room_293 : decode cX12_room 293 = .ok (.istore 13, 2) := by decide +kernel
theorem dX12_room_295 : decode cX12_room 295 = .ok (.aload_n 0, 1) := by decide +kernel
theorem dX12_room_296 : decode cX12_room 296 = .ok (.getfield 63, 3) := by decide +kernel
theorem dX12_room_299 : decode cX12_room 299 = .ok (.iload 6, 2) := by decide +kernel
theorem dX12_room_301 : decode cX12_room 301 = .ok (.iload 13, 2) := by decide +kernel
theorem dX12_room_303 : decode cX12_room 303 = .ok (.ifCond .eq 8, 3) := by decide +kernel
theorem dX12_room_306 : decode cX12_room 306 = .ok (.iload 11, 2) := by decide +kernel
theorem dX12_room_308 : decode cX12_room 308 = .ok (.goto 10, 3) := by decide +kernel
theorem dX12_room_311 : decode cX12_room 311 = .ok (.aload_n 0, 1) := by decide +kernel
theorem dX12_room_312 : decode cX12_room 312 = .ok (.getfield 63, 3) := by decide +kernel
theorem dX12_room_315 : decode cX12_room 315 = .ok (.iload 6, 2) := by decide +kernel
theorem dX12_room_317 : decode cX12_room 317 = .ok (.iaload, 1) := by decide +kernel
theorem dX12_room_318 : decode cX12_room 318 = .ok (.iastore, 1) := by decide +kernel
theorem dX12_room_319 : decode cX12_room 319 = .ok (.aload_n 0, 1) := by decide +kernel
theorem dX12_room_320 : decode cX12_room 320 = .ok (.getfield 66, 3) := by decide +kernel
theorem dX12_room_323 : decode cX12_room 323 = .ok (.iload 6, 2) := by decide +kernel
theorem dX12_room_325 : decode cX12_room 325 = .ok (.iload 13, 2) := by decide +kernel
theorem dX12_room_327 : decode cX12_room 327 = .ok (.ifCond .eq 8, 3) := by decide +kernel
theorem dX12_room_330 : decode cX12_room 330 = .ok (.iload 12, 2) := by decide +kernel
theorem dX12_room_332 : decode cX12_room 332 = .ok (.goto 10, 3) := by decide +kernel
theorem dX12_room_335 : decode cX12_room 335 = .ok (.aload_n 0, 1) := by decide +kernel
theorem dX12_room_336 : decode cX12_room 336 = .ok (.getfield 66, 3) := by decide +kernel
theorem dX12_room_339 : decode cX12_room 339 = .ok (.iload 6, 2) := by decide +kernel
theorem dX12_room_341 : decode cX12_room 341 = .ok (.iaload, 1) := by decide +kernel
theorem dX12_room_342 : decode cX12_room 342 = .ok (.iastore, 1) := by decide +kernel
theorem dX12_room_343 : decode cX12_room 343 = .ok (.iinc 7 1, 3) := by decide +kernel
theorem dX12_room_346 : decode cX12_room 346 = .ok (.goto (-230), 3) := by decide +kernel
theorem dX12_room_349 : decode cX12_room 349 = .ok (.aload_n 0, 1) := by decide +kernel
theorem dX12_room_350 : decode cX12_room 350 = .ok (.getfield 63, 3) := by decide +kernel
theorem dX12_room_353 : decode cX12_room 353 = .ok (.iload 6, 2) := by decide +kernel
theorem dX12_room_355 : decode cX12_room 355 = .ok (.iaload, 1) := by decide +kernel
theorem dX12_room_356 : decode cX12_room 356 = .ok (.iload_n 2, 1) := by decide +kernel
theorem dX12_room_357 : decode cX12_room 357 = .ok (.if_icmp .gt 21, 3) := by decide +kernel
theorem dX12_room_360 : decode cX12_room 360 = .ok (.iload 6, 2) := by decide +kernel
theorem dX12_room_362 : decode cX12_room 362 = .ok (.invokestatic 313, 3) := by decide +kernel
theorem dX12_room_365 : decode cX12_room 365 = .ok (.iload 5, 2) := by decide +kernel
theorem dX12_room_367 : decode cX12_room 367 = .ok (.invokestatic 313, 3) := by decide +kernel
theorem dX12_room_370 : decode cX12_room 370 = .ok (.if_icmp .le 8, 3) := by decide +kernel
theorem dX12_room_373 : decode cX12_room 373 = .ok (.iload 6, 2) := by decide +kernel
theorem dX12_room_375 : decode cX12_room 375 = .ok (.goto 5, 3) := by decide +kernel
theorem dX12_room_378 : decode cX12_room 378 = .ok (.iload 5, 2) := by decide +kernel
theorem dX12_room_380 : decode cX12_room 380 = .ok (.istore 5, 2) := by decide +kernel
theorem dX12_room_382 : decode cX12_room 382 = .ok (.iinc 6 1, 3) := by decide +kernel
theorem dX12_room_385 : decode cX12_room 385 = .ok (.goto (-302), 3) := by decide +kernel
theorem dX12_room_388 : decode cX12_room 388 = .ok (.aload_n 0, 1) := by decide +kernel
theorem dX12_room_389 : decode cX12_room 389 = .ok (.iload 5, 2) := by decide +kernel
theorem dX12_room_391 : decode cX12_room 391 = .ok (.iload 5, 2) := by decide +kernel
theorem dX12_room_393 : decode cX12_room 393 = .ok (.invokestatic 313, 3) := by decide +kernel
theorem dX12_room_396 : decode cX12_room 396 = .ok (.invokevirtual 114, 3) := by decide +kernel
theorem dX12_room_399 : decode cX12_room 399 = .ok (.ireturn, 1) := by decide +kernel
theorem dX12_starts_0 : decode cX12_starts 0 = .ok (.aload_n 0, 1) := by decide +kernel
theorem dX12_starts_1 : decode cX12_starts 1 = .ok (.iload_n 1, 1) := by decide +kernel
theorem dX12_starts_2 : decode cX12_starts 2 = .ok (.invokevirtual 160, 3) := by decide +kernel
theorem dX12_starts_5 : decode cX12_starts 5 = .ok (.ifCond .eq 13, 3) := by decide +kernel
theorem dX12_starts_8 : decode cX12_starts 8 = .ok (.iload_n 2, 1) := by decide +kernel
theorem dX12_starts_9 : decode cX12_starts 9 = .ok (.iconst 0, 1) := by decide +kernel
theorem dX12_starts_10 : decode cX12_starts 10 = .ok (.bipush 9, 2) := by decide +kernel
theorem dX12_starts_12 : decode cX12_starts 12 = .ok (.invokestatic 88, 3) := by decide +kernel
theorem dX12_starts_15 : decode cX12_starts 15 = .ok (.ifCond .ne 5, 3) := by decide +kernel
theorem dX12_starts_18 : decode cX12_starts 18 = .ok (.iconst (-1), 1) := by decide +kernel
theorem dX12_starts_19 : decode cX12_starts 19 = .ok (.ireturn, 1) := by decide +kernel
theorem dX12_starts_20 : decode cX12_starts 20 = .ok (.aload_n 0, 1) := by decide +kernel
theorem dX12_starts_21 : decode cX12_starts 21 = .ok (.getfield 188, 3) := by decide +kernel
theorem dX12_starts_24 : decode cX12_starts 24 = .ok (.iload_n 1, 1) := by decide +kernel
theorem dX12_starts_25 : decode cX12_starts 25 = .ok (.invokestatic 191, 3) := by decide +kernel
theorem dX12_starts_28 : decode cX12_starts 28 = .ok (.ifCond .eq 6, 3) := by decide +kernel
theorem dX12_starts_31 : decode cX12_starts 31 = .ok (.bipush (-4), 2) := by decide +kernel
theorem dX12_starts_33 : decode cX12_starts 33 = .ok (.ireturn, 1) := by decide +kernel
theorem dX12_starts_34 : decode cX12_starts 34 = .ok (.aload_n 0, 1) := by decide +kernel
theorem dX12_starts_35 : decode cX12_starts 35 = .ok (.invokevirtual 286, 3) := by decide +kernel
theorem dX12_starts_38 : decode cX12_starts 38 = .ok (.aload_n 0, 1) := by decide +kernel
theorem dX12_starts_39 : decode cX12_starts 39 = .ok (.iload_n 1, 1) := by decide +kernel
theorem dX12_starts_40 : decode cX12_starts 40 = .ok (.invokevirtual 231, 3) := by decide +kernel
theorem dX12_starts_43 : decode cX12_starts 43 = .ok (.aload_n 0, 1) := by decide +kernel
theorem dX12_starts_44 : decode cX12_starts 44 = .ok (.getfield 38, 3) := by decide +kernel
theorem dX12_starts_47 : decode cX12_starts 47 = .ok (.iload_n 1, 1) := by decide +kernel
theorem dX12_starts_48 : decode cX12_starts 48 = .ok (.iload_n 2, 1) := by decide +kernel
theorem dX12_starts_49 : decode cX12_starts 49 = .ok (.iastore, 1) := by decide +kernel
theorem dX12_starts_50 : decode cX12_starts 50 = .ok (.iconst 0, 1) := by decide +kernel
theorem dX12_starts_51 : decode cX12_starts 51 = .ok (.istore_n 3, 1) := by decide +kernel
theorem dX12_starts_52 : decode cX12_starts 52 = .ok (.iload_n 3, 1) := by decide +kernel
theorem dX12_starts_53 : decode cX12_starts 53 = .ok (.aload_n 0, 1) := by decide +kernel
theorem dX12_starts_54 : decode cX12_starts 54 = .ok (.getfield 141, 3) := by decide +kernel
theorem dX12_starts_57 : decode cX12_starts 57 = .ok (.if_icmp .ge 25, 3) := by decide +kernel
theorem dX12_starts_60 : decode cX12_starts 60 = .ok (.aload_n 0, 1) := by decide +kernel
theorem dX12_starts_61 : decode cX12_starts 61 = .ok (.getfield 188, 3) := by decide +kernel
theorem dX12_starts_64 : decode cX12_starts 64 = .ok (.iload_n 3, 1) := by decide +kernel
theorem dX12_starts_65 : decode cX12_starts 65 = .ok (.invokestatic 191, 3) := by decide +kernel
theorem dX12_starts_68 : decode cX12_starts 68 = .ok (.ifCond .ne 8, 3) := by decide +kernel
theorem dX12_starts_71 : decode cX12_starts 71 = .ok (.aload_n 0, 1) := by decide +kernel
theorem dX12_starts_72 : decode cX12_starts 72 = .ok (.iload_n 3, 1) := by decide +kernel
theorem dX12_starts_73 : decode cX12_starts 73 = .ok (.invokevirtual 231, 3) := by decide +kernel
theorem dX12_starts_76 : decode cX12_starts 76 = .ok (.iinc 3 1, 3) := by decide +kernel
theorem dX12_starts_79 : decode cX12_starts 79 = .ok (.goto (-27), 3) := by decide +kernel
theorem dX12_starts_82 : decode cX12_starts 82 = .ok (.iconst 0, 1) := by decide +kernel
theorem dX12_starts_83 : decode cX12_starts 83 = .ok (.istore_n 3, 1) := by decide +kernel
theorem dX12_starts_84 : decode cX12_starts 84 = .ok (.iconst 0, 1) := by decide +kernel
theorem dX12_starts_85 : decode cX12_starts 85 = .ok (.istore 4, 2) := by decide +kernel
theorem dX12_starts_87 : decode cX12_starts 87 = .ok (.iload 4, 2) := by decide +kernel
theorem dX12_starts_89 : decode cX12_starts 89 = .ok (.aload_n 0, 1) := by decide +kernel
theorem dX12_starts_90 : decode cX12_starts 90 = .ok (.getfield 141, 3) := by decide +kernel
theorem dX12_starts_93 : decode cX12_starts 93 = .ok (.if_icmp .ge 28, 3) := by decide +kernel
theorem dX12_starts_96 : decode cX12_starts 96 = .ok (.iload_n 3, 1) := by decide +kernel
theorem dX12_starts_97 : decode cX12_starts 97 = .ok (.aload_n 0, 1) := by decide +kernel
theorem dX12_starts_98 : decode cX12_starts 98 = .ok (.getfield 38, 3) := by decide +kernel
theorem dX12_starts_101 : decode cX12_starts 101 = .ok (.iload 4, 2) := by decide +kernel
theorem dX12_starts_103 : decode cX12_starts 103 = .ok (.iaload, 1) := by decide +kernel
theorem dX12_starts_104 : decode cX12_starts 104 = .ok (.iload_n 2, 1) := by decide +kernel
theorem dX12_starts_105 : decode cX12_starts 105 = .ok (.if_icmp .ne 7, 3) := by decide +kernel
theorem dX12_starts_108 : decode cX12_starts 108 = .ok (.iconst 1, 1) := by decide +kernel
theorem dX12_starts_109 : decode cX12_starts 109 = .ok (.goto 4, 3) := by decide +kernel
theorem dX12_starts_112 : decode cX12_starts 112 = .ok (.iconst 0, 1) := by decide +kernel
theorem dX12_starts_113 : decode cX12_starts 113 = .ok (.iadd, 1) := by decide +kernel
theorem dX12_starts_114 : decode cX12_starts 114 = .ok (.istore_n 3, 1) := by decide +kernel
theorem dX12_starts_115 : decode cX12_starts 115 = .ok (.iinc 4 1, 3) := by decide +kernel
theorem dX12_starts_118 : decode cX12_starts 118 = .ok (.goto (-31), 3) := by decide +kernel
theorem dX12_starts_121 : decode cX12_starts 121 = .ok (.aload_n 0, 1) := by decide +kernel
theorem dX12_starts_122 : decode cX12_starts 122 = .ok (.invokevirtual 292, 3) := by decide +kernel
theorem dX12_starts_125 : decode cX12_starts 125 = .ok (.iload_n 3, 1) := by decide +kernel
theorem dX12_starts_126 : decode cX12_starts 126 = .ok (.ireturn, 1) := by decide +kernel
theorem dX12_leaves_0 : decode cX12_leaves 0 = .ok (.aload_n 0, 1) := by decide +kernel
theorem dX12_leaves_1 : decode cX12_leaves 1 = .ok (.invokevirtual 286, 3) := by decide +kernel
theorem dX12_leaves_4 : decode cX12_leaves 4 = .ok (.aload_n 0, 1) := by decide +kernel
theorem dX12_leaves_5 : decode cX12_leaves 5 = .ok (.iconst 0, 1) := by decide +kernel
theorem dX12_leaves_6 : decode cX12_leaves 6 = .ok (.putfield 188, 3) := by decide +kernel
theorem dX12_leaves_9 : decode cX12_leaves 9 = .ok (.iconst 0, 1) := by decide +kernel
theorem dX12_leaves_10 : decode cX12_leaves 10 = .ok (.istore 4, 2) := by decide +kernel
theorem dX12_leaves_12 : decode cX12_leaves 12 = .ok (.iconst 0, 1) := by decide +kernel
theorem dX12_leaves_13 : decode cX12_leaves 13 = .ok (.istore 5, 2) := by decide +kernel
theorem dX12_leaves_15 : decode cX12_leaves 15 = .ok (.iload 5, 2) := by decide +kernel
theorem dX12_leaves_17 : decode cX12_leaves 17 = .ok (.aload_n 0, 1) := by decide +kernel
theorem dX12_leaves_18 : decode cX12_leaves 18 = .ok (.getfield 141, 3) := by decide +kernel
theorem dX12_leaves_21 : decode cX12_leaves 21 = .ok (.if_icmp .ge 56, 3) := by decide +kernel
theorem dX12_leaves_24 : decode cX12_leaves 24 = .ok (.iload 5, 2) := by decide +kernel
theorem dX12_leaves_26 : decode cX12_leaves 26 = .ok (.iload_n 1, 1) := by decide +kernel
theorem dX12_leaves_27 : decode cX12_leaves 27 = .ok (.if_icmp .eq 21, 3) := by decide +kernel
theorem dX12_leaves_30 : decode cX12_leaves 30 = .ok (.aload_n 0, 1) := by decide +kernel
theorem dX12_leaves_31 : decode cX12_leaves 31 = .ok (.iload 5, 2) := by decide +kernel
theorem dX12_leaves_33 : decode cX12_leaves 33 = .ok (.invokevirtual 231, 3) := by decide +kernel
theorem dX12_leaves_36 : decode cX12_leaves 36 = .ok (.iload 4, 2) := by decide +kernel
theorem dX12_leaves_38 : decode cX12_leaves 38 = .ok (.aload_n 0, 1) := by decide +kernel
theorem dX12_leaves_39 : decode cX12_leaves 39 = .ok (.getfield 35, 3) := by decide +kernel
theorem dX12_leaves_42 : decode cX12_leaves 42 = .ok (.iload 5, 2) := by decide +kernel
theorem dX12_leaves_44 : decode cX12_leaves 44 = .ok (.iaload, 1) := by decide +kernel
theorem dX12_leaves_45 : decode cX12_leaves 45 = .ok (.iadd, 1) := by decide +kernel
theorem dX12_leaves_46 : decode cX12_leaves 46 = .ok (.istore 4, 2) := by decide +kernel
theorem dX12_leaves_48 : decode cX12_leaves 48 = .ok (.aload_n 2, 1) := by decide +kernel
theorem dX12_leaves_49 : decode cX12_leaves 49 = .ok (.iload_n 3, 1) := by decide +kernel
theorem dX12_leaves_50 : decode cX12_leaves 50 = .ok (.iload 5, 2) := by decide +kernel
theorem dX12_leaves_52 : decode cX12_leaves 52 = .ok (.iadd, 1) := by decide +kernel
theorem dX12_leaves_53 : decode cX12_leaves 53 = .ok (.iload 5, 2) := by decide +kernel
theorem dX12_leaves_55 : decode cX12_leaves 55 = .ok (.iload_n 1, 1) := by decide +kernel
theorem dX12_leaves_56 : decode cX12_leaves 56 = .ok (.if_icmp .ne 7, 3) := by decide +kernel
theorem dX12_leaves_59 : decode cX12_leaves 59 = .ok (.iconst 0, 1) := by decide +kernel
theorem dX12_leaves_60 : decode cX12_leaves 60 = .ok (.goto 10, 3) := by decide +kernel
theorem dX12_leaves_63 : decode cX12_leaves 63 = .ok (.aload_n 0, 1) := by decide +kernel
theorem dX12_leaves_64 : decode cX12_leaves 64 = .ok (.getfield 35, 3) := by decide +kernel
theorem dX12_leaves_67 : decode cX12_leaves 67 = .ok (.iload 5, 2) := by decide +kernel
theorem dX12_leaves_69 : decode cX12_leaves 69 = .ok (.iaload, 1) := by decide +kernel
theorem dX12_leaves_70 : decode cX12_leaves 70 = .ok (.iastore, 1) := by decide +kernel
theorem dX12_leaves_71 : decode cX12_leaves 71 = .ok (.iinc 5 1, 3) := by decide +kernel
theorem dX12_leaves_74 : decode cX12_leaves 74 = .ok (.goto (-59), 3) := by decide +kernel
theorem dX12_leaves_77 : decode cX12_leaves 77 = .ok (.aload_n 0, 1) := by decide +kernel
theorem dX12_leaves_78 : decode cX12_leaves 78 = .ok (.invokevirtual 292, 3) := by decide +kernel
theorem dX12_leaves_81 : decode cX12_leaves 81 = .ok (.iload 4, 2) := by decide +kernel
theorem dX12_leaves_83 : decode cX12_leaves 83 = .ok (.ireturn, 1) := by decide +kernel
theorem dX12_year_0 : decode cX12_year 0 = .ok (.aload_n 0, 1) := by decide +kernel
theorem dX12_year_1 : decode cX12_year 1 = .ok (.iload_n 1, 1) := by decide +kernel
theorem dX12_year_2 : decode cX12_year 2 = .ok (.invokevirtual 160, 3) := by decide +kernel
theorem dX12_year_5 : decode cX12_year 5 = .ok (.ifCond .ne 5, 3) := by decide +kernel
theorem dX12_year_8 : decode cX12_year 8 = .ok (.iconst (-1), 1) := by decide +kernel
theorem dX12_year_9 : decode cX12_year 9 = .ok (.ireturn, 1) := by decide +kernel
theorem dX12_year_10 : decode cX12_year 10 = .ok (.aload_n 0, 1) := by decide +kernel
theorem dX12_year_11 : decode cX12_year 11 = .ok (.getfield 157, 3) := by decide +kernel
theorem dX12_year_14 : decode cX12_year 14 = .ok (.bipush 40, 2) := by decide +kernel
theorem dX12_year_16 : decode cX12_year 16 = .ok (.if_icmp .ne 6, 3) := by decide +kernel
theorem dX12_year_19 : decode cX12_year 19 = .ok (.bipush (-2), 2) := by decide +kernel
theorem dX12_year_21 : decode cX12_year 21 = .ok (.ireturn, 1) := by decide +kernel
theorem dX12_year_22 : decode cX12_year 22 = .ok (.aload_n 0, 1) := by decide +kernel
theorem dX12_year_23 : decode cX12_year 23 = .ok (.iload_n 1, 1) := by decide +kernel
theorem dX12_year_24 : decode cX12_year 24 = .ok (.aload_n 0, 1) := by decide +kernel
theorem dX12_year_25 : decode cX12_year 25 = .ok (.getfield 69, 3) := by decide +kernel
theorem dX12_year_28 : decode cX12_year 28 = .ok (.bipush 10, 2) := by decide +kernel
theorem dX12_year_30 : decode cX12_year 30 = .ok (.aload_n 0, 1) := by decide +kernel
theorem dX12_year_31 : decode cX12_year 31 = .ok (.getfield 157, 3) := by decide +kernel
theorem dX12_year_34 : decode cX12_year 34 = .ok (.imul, 1) := by decide +kernel
theorem dX12_year_35 : decode cX12_year 35 = .ok (.iconst 1, 1) := by decide +kernel
theorem dX12_year_36 : decode cX12_year 36 = .ok (.iadd, 1) := by decide +kernel
theorem dX12_year_37 : decode cX12_year 37 = .ok (.invokevirtual 340, 3) := by decide +kernel
theorem dX12_year_40 : decode cX12_year 40 = .ok (.istore_n 2, 1) := by decide +kernel
theorem dX12_year_41 : decode cX12_year 41 = .ok (.aload_n 0, 1) := by decide +kernel
theorem dX12_year_42 : decode cX12_year 42 = .ok (.getfield 69, 3) := by decide +kernel
theorem dX12_year_45 : decode cX12_year 45 = .ok (.bipush 10, 2) := by decide +kernel
theorem dX12_year_47 : decode cX12_year 47 = .ok (.aload_n 0, 1) := by decide +kernel
theorem dX12_year_48 : decode cX12_year 48 = .ok (.getfield 157, 3) := by decide +kernel
theorem dX12_year_51 : decode cX12_year 51 = .ok (.imul, 1) := by decide +kernel
theorem dX12_year_52 : decode cX12_year 52 = .ok (.iload_n 1, 1) := by decide +kernel
theorem dX12_year_53 : decode cX12_year 53 = .ok (.iastore, 1) := by decide +kernel
theorem dX12_year_54 : decode cX12_year 54 = .ok (.aload_n 0, 1) := by decide +kernel
theorem dX12_year_55 : decode cX12_year 55 = .ok (.dup, 1) := by decide +kernel
theorem dX12_year_56 : decode cX12_year 56 = .ok (.getfield 157, 3) := by decide +kernel
theorem dX12_year_59 : decode cX12_year 59 = .ok (.iconst 1, 1) := by decide +kernel
theorem dX12_year_60 : decode cX12_year 60 = .ok (.iadd, 1) := by decide +kernel
theorem dX12_year_61 : decode cX12_year 61 = .ok (.putfield 157, 3) := by decide +kernel
theorem dX12_year_64 : decode cX12_year 64 = .ok (.iload_n 2, 1) := by decide +kernel
theorem dX12_year_65 : decode cX12_year 65 = .ok (.ireturn, 1) := by decide +kernel
theorem dX12_balanceOf_0 : decode cX12_balanceOf 0 = .ok (.iconst 0, 1) := by decide +kernel
theorem dX12_balanceOf_1 : decode cX12_balanceOf 1 = .ok (.istore_n 2, 1) := by decide +kernel
theorem dX12_balanceOf_2 : decode cX12_balanceOf 2 = .ok (.iconst 0, 1) := by decide +kernel
theorem dX12_balanceOf_3 : decode cX12_balanceOf 3 = .ok (.istore_n 3, 1) := by decide +kernel
theorem dX12_balanceOf_4 : decode cX12_balanceOf 4 = .ok (.iload_n 3, 1) := by decide +kernel
theorem dX12_balanceOf_5 : decode cX12_balanceOf 5 = .ok (.aload_n 0, 1) := by decide +kernel
theorem dX12_balanceOf_6 : decode cX12_balanceOf 6 = .ok (.getfield 157, 3) := by decide +kernel
theorem dX12_balanceOf_9 : decode cX12_balanceOf 9 = .ok (.if_icmp .ge 85, 3) := by decide +kernel
theorem dX12_balanceOf_12 : decode cX12_balanceOf 12 = .ok (.iconst 0, 1) := by decide +kernel
theorem dX12_balanceOf_13 : decode cX12_balanceOf 13 = .ok (.istore 4, 2) := by decide +kernel
theorem dX12_balanceOf_15 : decode cX12_balanceOf 15 = .ok (.iload 4, 2) := by decide +kernel
theorem dX12_balanceOf_17 : decode cX12_balanceOf 17 = .ok (.aload_n 0, 1) := by decide +kernel
theorem dX12_balanceOf_18 : decode cX12_balanceOf 18 = .ok (.getfield 141, 3) := by decide +kernel
theorem dX12_balanceOf_21 : decode cX12_balanceOf 21 = .ok (.if_icmp .ge 67, 3) := by decide +kernel
theorem dX12_balanceOf_24 : decode cX12_balanceOf 24 = .ok (.iload_n 2, 1) := by decide +kernel
theorem dX12_balanceOf_25 : decode cX12_balanceOf 25 = .ok (.aload_n 0, 1) := by decide +kernel
theorem dX12_balanceOf_26 : decode cX12_balanceOf 26 = .ok (.getfield 69, 3) := by decide +kernel
theorem dX12_balanceOf_29 : decode cX12_balanceOf 29 = .ok (.bipush 10, 2) := by decide +kernel
theorem dX12_balanceOf_31 : decode cX12_balanceOf 31 = .ok (.iload_n 3, 1) := by decide +kernel
theorem dX12_balanceOf_32 : decode cX12_balanceOf 32 = .ok (.imul, 1) := by decide +kernel
theorem dX12_balanceOf_33 : decode cX12_balanceOf 33 = .ok (.iaload, 1) := by decide +kernel
theorem dX12_balanceOf_34 : decode cX12_balanceOf 34 = .ok (.iload_n 1, 1) := by decide +kernel
theorem dX12_balanceOf_35 : decode cX12_balanceOf 35 = .ok (.if_icmp .ne 20, 3) := by decide +kernel
theorem dX12_balanceOf_38 : decode cX12_balanceOf 38 = .ok (.aload_n 0, 1) := by decide +kernel
theorem dX12_balanceOf_39 : decode cX12_balanceOf 39 = .ok (.getfield 69, 3) := by decide +kernel
theorem dX12_balanceOf_42 : decode cX12_balanceOf 42 = .ok (.bipush 10, 2) := by decide +kernel
theorem dX12_balanceOf_44 : decode cX12_balanceOf 44 = .ok (.iload_n 3, 1) := by decide +kernel
theorem dX12_balanceOf_45 : decode cX12_balanceOf 45 = .ok (.imul, 1) := by decide +kernel
theorem dX12_balanceOf_46 : decode cX12_balanceOf 46 = .ok (.iconst 1, 1) := by decide +kernel
theorem dX12_balanceOf_47 : decode cX12_balanceOf 47 = .ok (.iadd, 1) := by decide +kernel
theorem dX12_balanceOf_48 : decode cX12_balanceOf 48 = .ok (.iload 4, 2) := by decide +kernel
theorem dX12_balanceOf_50 : decode cX12_balanceOf 50 = .ok (.iadd, 1) := by decide +kernel
theorem dX12_balanceOf_51 : decode cX12_balanceOf 51 = .ok (.iaload, 1) := by decide +kernel
theorem dX12_balanceOf_52 : decode cX12_balanceOf 52 = .ok (.goto 28, 3) := by decide +kernel
theorem dX12_balanceOf_55 : decode cX12_balanceOf 55 = .ok (.iload 4, 2) := by decide +kernel
theorem dX12_balanceOf_57 : decode cX12_balanceOf 57 = .ok (.iload_n 1, 1) := by decide +kernel
theorem dX12_balanceOf_58 : decode cX12_balanceOf 58 = .ok (.if_icmp .ne 21, 3) := by decide +kernel
theorem dX12_balanceOf_61 : decode cX12_balanceOf 61 = .ok (.aload_n 0, 1) := by decide +kernel
theorem dX12_balanceOf_62 : decode cX12_balanceOf 62 = .ok (.getfield 69, 3) := by decide +kernel
theorem dX12_balanceOf_65 : decode cX12_balanceOf 65 = .ok (.bipush 10, 2) := by decide +kernel
theorem dX12_balanceOf_67 : decode cX12_balanceOf 67 = .ok (.iload_n 3, 1) := by decide +kernel
theorem dX12_balanceOf_68 : decode cX12_balanceOf 68 = .ok (.imul, 1) := by decide +kernel
theorem dX12_balanceOf_69 : decode cX12_balanceOf 69 = .ok (.iconst 1, 1) := by decide +kernel
theorem dX12_balanceOf_70 : decode cX12_balanceOf 70 = .ok (.iadd, 1) := by decide +kernel
theorem dX12_balanceOf_71 : decode cX12_balanceOf 71 = .ok (.iload 4, 2) := by decide +kernel
theorem dX12_balanceOf_73 : decode cX12_balanceOf 73 = .ok (.iadd, 1) := by decide +kernel
theorem dX12_balanceOf_74 : decode cX12_balanceOf 74 = .ok (.iaload, 1) := by decide +kernel
theorem dX12_balanceOf_75 : decode cX12_balanceOf 75 = .ok (.ineg, 1) := by decide +kernel
theorem dX12_balanceOf_76 : decode cX12_balanceOf 76 = .ok (.goto 4, 3) := by decide +kernel
theorem dX12_balanceOf_79 : decode cX12_balanceOf 79 = .ok (.iconst 0, 1) := by decide +kernel
theorem dX12_balanceOf_80 : decode cX12_balanceOf 80 = .ok (.iadd, 1) := by decide +kernel
theorem dX12_balanceOf_81 : decode cX12_balanceOf 81 = .ok (.istore_n 2, 1) := by decide +kernel
theorem dX12_balanceOf_82 : decode cX12_balanceOf 82 = .ok (.iinc 4 1, 3) := by decide +kernel
theorem dX12_balanceOf_85 : decode cX12_balanceOf 85 = .ok (.goto (-70), 3) := by decide +kernel
theorem dX12_balanceOf_88 : decode cX12_balanceOf 88 = .ok (.iinc 3 1, 3) := by decide +kernel
theorem dX12_balanceOf_91 : decode cX12_balanceOf 91 = .ok (.goto (-87), 3) := by decide +kernel
theorem dX12_balanceOf_94 : decode cX12_balanceOf 94 = .ok (.iload_n 2, 1) := by decide +kernel
theorem dX12_balanceOf_95 : decode cX12_balanceOf 95 = .ok (.ireturn, 1) := by decide +kernel
theorem dX12_balance_0 : decode cX12_balance 0 = .ok (.aload_n 0, 1) := by decide +kernel
theorem dX12_balance_1 : decode cX12_balance 1 = .ok (.iload_n 1, 1) := by decide +kernel
theorem dX12_balance_2 : decode cX12_balance 2 = .ok (.invokevirtual 160, 3) := by decide +kernel
theorem dX12_balance_5 : decode cX12_balance 5 = .ok (.ifCond .eq 16, 3) := by decide +kernel
theorem dX12_balance_8 : decode cX12_balance 8 = .ok (.aload_n 0, 1) := by decide +kernel
theorem dX12_balance_9 : decode cX12_balance 9 = .ok (.aload_n 0, 1) := by decide +kernel
theorem dX12_balance_10 : decode cX12_balance 10 = .ok (.iload_n 1, 1) := by decide +kernel
theorem dX12_balance_11 : decode cX12_balance 11 = .ok (.invokevirtual 344, 3) := by decide +kernel
theorem dX12_balance_14 : decode cX12_balance 14 = .ok (.iconst 1, 1) := by decide +kernel
theorem dX12_balance_15 : decode cX12_balance 15 = .ok (.invokevirtual 114, 3) := by decide +kernel
theorem dX12_balance_18 : decode cX12_balance 18 = .ok (.goto 4, 3) := by decide +kernel
theorem dX12_balance_21 : decode cX12_balance 21 = .ok (.iconst (-1), 1) := by decide +kernel
theorem dX12_balance_22 : decode cX12_balance 22 = .ok (.ireturn, 1) := by decide +kernel
theorem dX12_forget_0 : decode cX12_forget 0 = .ok (.iload_n 1, 1) := by decide +kernel
theorem dX12_forget_1 : decode cX12_forget 1 = .ok (.iconst 0, 1) := by decide +kernel
theorem dX12_forget_2 : decode cX12_forget 2 = .ok (.aload_n 0, 1) := by decide +kernel
theorem dX12_forget_3 : decode cX12_forget 3 = .ok (.getfield 157, 3) := by decide +kernel
theorem dX12_forget_6 : decode cX12_forget 6 = .ok (.invokestatic 88, 3) := by decide +kernel
theorem dX12_forget_9 : decode cX12_forget 9 = .ok (.ifCond .ne 5, 3) := by decide +kernel
theorem dX12_forget_12 : decode cX12_forget 12 = .ok (.iconst (-1), 1) := by decide +kernel
theorem dX12_forget_13 : decode cX12_forget 13 = .ok (.ireturn, 1) := by decide +kernel
theorem dX12_forget_14 : decode cX12_forget 14 = .ok (.aload_n 0, 1) := by decide +kernel
theorem dX12_forget_15 : decode cX12_forget 15 = .ok (.getfield 157, 3) := by decide +kernel
theorem dX12_forget_18 : decode cX12_forget 18 = .ok (.iload_n 1, 1) := by decide +kernel
theorem dX12_forget_19 : decode cX12_forget 19 = .ok (.isub, 1) := by decide +kernel
theorem dX12_forget_20 : decode cX12_forget 20 = .ok (.istore_n 2, 1) := by decide +kernel
theorem dX12_forget_21 : decode cX12_forget 21 = .ok (.aload_n 0, 1) := by decide +kernel
theorem dX12_forget_22 : decode cX12_forget 22 = .ok (.iload_n 1, 1) := by decide +kernel
theorem dX12_forget_23 : decode cX12_forget 23 = .ok (.putfield 157, 3) := by decide +kernel
theorem dX12_forget_26 : decode cX12_forget 26 = .ok (.iload_n 2, 1) := by decide +kernel
theorem dX12_forget_27 : decode cX12_forget 27 = .ok (.ireturn, 1) := by decide +kernel
theorem dX12_apartBy_0 : decode cX12_apartBy 0 = .ok (.iconst 0, 1) := by decide +kernel
theorem dX12_apartBy_1 : decode cX12_apartBy 1 = .ok (.istore_n 2, 1) := by decide +kernel
theorem dX12_apartBy_2 : decode cX12_apartBy 2 = .ok (.iload_n 2, 1) := by decide +kernel
theorem dX12_apartBy_3 : decode cX12_apartBy 3 = .ok (.aload_n 0, 1) := by decide +kernel
theorem dX12_apartBy_4 : decode cX12_apartBy 4 = .ok (.getfield 141, 3) := by decide +kernel
theorem dX12_apartBy_7 : decode cX12_apartBy 7 = .ok (.if_icmp .ge 16, 3) := by decide +kernel
theorem dX12_apartBy_10 : decode cX12_apartBy 10 = .ok (.aload_n 0, 1) := by decide +kernel
theorem dX12_apartBy_11 : decode cX12_apartBy 11 = .ok (.getfield 75, 3) := by decide +kernel
theorem dX12_apartBy_14 : decode cX12_apartBy 14 = .ok (.iload_n 2, 1) := by decide +kernel
theorem dX12_apartBy_15 : decode cX12_apartBy 15 = .ok (.iconst 0, 1) := by decide +kernel
theorem dX12_apartBy_16 : decode cX12_apartBy 16 = .ok (.iastore, 1) := by decide +kernel
theorem dX12_apartBy_17 : decode cX12_apartBy 17 = .ok (.iinc 2 1, 3) := by decide +kernel
theorem dX12_apartBy_20 : decode cX12_apartBy 20 = .ok (.goto (-18), 3) := by decide +kernel
theorem dX12_apartBy_23 : decode cX12_apartBy 23 = .ok (.iconst 0, 1) := by decide +kernel
theorem dX12_apartBy_24 : decode cX12_apartBy 24 = .ok (.istore_n 2, 1) := by decide +kernel
theorem dX12_apartBy_25 : decode cX12_apartBy 25 = .ok (.iload_n 2, 1) := by decide +kernel
theorem dX12_apartBy_26 : decode cX12_apartBy 26 = .ok (.aload_n 0, 1) := by decide +kernel
theorem dX12_apartBy_27 : decode cX12_apartBy 27 = .ok (.getfield 17, 3) := by decide +kernel
theorem dX12_apartBy_30 : decode cX12_apartBy 30 = .ok (.iload_n 1, 1) := by decide +kernel
theorem dX12_apartBy_31 : decode cX12_apartBy 31 = .ok (.iaload, 1) := by decide +kernel
theorem dX12_apartBy_32 : decode cX12_apartBy 32 = .ok (.if_icmp .ge 75, 3) := by decide +kernel
theorem dX12_apartBy_35 : decode cX12_apartBy 35 = .ok (.aload_n 0, 1) := by decide +kernel
theorem dX12_apartBy_36 : decode cX12_apartBy 36 = .ok (.iload_n 1, 1) := by decide +kernel
theorem dX12_apartBy_37 : decode cX12_apartBy 37 = .ok (.iload_n 2, 1) := by decide +kernel
theorem dX12_apartBy_38 : decode cX12_apartBy 38 = .ok (.invokevirtual 110, 3) := by decide +kernel
theorem dX12_apartBy_41 : decode cX12_apartBy 41 = .ok (.istore_n 3, 1) := by decide +kernel
theorem dX12_apartBy_42 : decode cX12_apartBy 42 = .ok (.aload_n 0, 1) := by decide +kernel
theorem dX12_apartBy_43 : decode cX12_apartBy 43 = .ok (.iload_n 3, 1) := by decide +kernel
theorem dX12_apartBy_44 : decode cX12_apartBy 44 = .ok (.aload_n 0, 1) := by decide +kernel
theorem dX12_apartBy_45 : decode cX12_apartBy 45 = .ok (.getfield 72, 3) := by decide +kernel
theorem dX12_apartBy_48 : decode cX12_apartBy 48 = .ok (.iconst 0, 1) := by decide +kernel
theorem dX12_apartBy_49 : decode cX12_apartBy 49 = .ok (.invokevirtual 340, 3) := by decide +kernel
theorem dX12_apartBy_52 : decode cX12_apartBy 52 = .ok (.istore 4, 2) := by decide +kernel
theorem dX12_apartBy_54 : decode cX12_apartBy 54 = .ok (.iconst 0, 1) := by decide +kernel
theorem dX12_apartBy_55 : decode cX12_apartBy 55 = .ok (.istore 5, 2) := by decide +kernel
theorem dX12_apartBy_57 : decode cX12_apartBy 57 = .ok (.iload 5, 2) := by decide +kernel
theorem dX12_apartBy_59 : decode cX12_apartBy 59 = .ok (.aload_n 0, 1) := by decide +kernel
theorem dX12_apartBy_60 : decode cX12_apartBy 60 = .ok (.getfield 141, 3) := by decide +kernel
theorem dX12_apartBy_63 : decode cX12_apartBy 63 = .ok (.if_icmp .ge 38, 3) := by decide +kernel
theorem dX12_apartBy_66 : decode cX12_apartBy 66 = .ok (.aload_n 0, 1) := by decide +kernel
theorem dX12_apartBy_67 : decode cX12_apartBy 67 = .ok (.getfield 75, 3) := by decide +kernel
theorem dX12_apartBy_70 : decode cX12_apartBy 70 = .ok (.iload 5, 2) := by decide +kernel
theorem dX12_apartBy_72 : decode cX12_apartBy 72 = .ok (.dup2, 1) := by decide +kernel
theorem dX12_apartBy_73 : decode cX12_apartBy 73 = .ok (.iaload, 1) := by decide +kernel
theorem dX12_apartBy_74 : decode cX12_apartBy 74 = .ok (.iload 5, 2) := by decide +kernel
theorem dX12_apartBy_76 : decode cX12_apartBy 76 = .ok (.iload_n 3, 1) := by decide +kernel
theorem dX12_apartBy_77 : decode cX12_apartBy 77 = .ok (.if_icmp .ne 8, 3) := by decide +kernel
theorem dX12_apartBy_80 : decode cX12_apartBy 80 = .ok (.iload 4, 2) := by decide +kernel
theorem dX12_apartBy_82 : decode cX12_apartBy 82 = .ok (.goto 11, 3) := by decide +kernel
theorem dX12_apartBy_85 : decode cX12_apartBy 85 = .ok (.aload_n 0, 1) := by decide +kernel
theorem dX12_apartBy_86 : decode cX12_apartBy 86 = .ok (.getfield 72, 3) := by decide +kernel
theorem dX12_apartBy_89 : decode cX12_apartBy 89 = .ok (.iload 5, 2) := by decide +kernel
theorem dX12_apartBy_91 : decode cX12_apartBy 91 = .ok (.iaload, 1) := by decide +kernel
theorem dX12_apartBy_92 : decode cX12_apartBy 92 = .ok (.ineg, 1) := by decide +kernel
theorem dX12_apartBy_93 : decode cX12_apartBy 93 = .ok (.iadd, 1) := by decide +kernel
theorem dX12_apartBy_94 : decode cX12_apartBy 94 = .ok (.iastore, 1) := by decide +kernel
theorem dX12_apartBy_95 : decode cX12_apartBy 95 = .ok (.iinc 5 1, 3) := by decide +kernel
theorem dX12_apartBy_98 : decode cX12_apartBy 98 = .ok (.goto (-41), 3) := by decide +kernel
theorem dX12_apartBy_101 : decode cX12_apartBy 101 = .ok (.iinc 2 1, 3) := by decide +kernel
theorem dX12_apartBy_104 : decode cX12_apartBy 104 = .ok (.goto (-79), 3) := by decide +kernel
theorem dX12_apartBy_107 : decode cX12_apartBy 107 = .ok (.aload_n 0, 1) := by decide +kernel
theorem dX12_apartBy_108 : decode cX12_apartBy 108 = .ok (.getfield 75, 3) := by decide +kernel
theorem dX12_apartBy_111 : decode cX12_apartBy 111 = .ok (.iconst 0, 1) := by decide +kernel
theorem dX12_apartBy_112 : decode cX12_apartBy 112 = .ok (.iaload, 1) := by decide +kernel
theorem dX12_apartBy_113 : decode cX12_apartBy 113 = .ok (.istore_n 2, 1) := by decide +kernel
theorem dX12_apartBy_114 : decode cX12_apartBy 114 = .ok (.aload_n 0, 1) := by decide +kernel
theorem dX12_apartBy_115 : decode cX12_apartBy 115 = .ok (.getfield 75, 3) := by decide +kernel
theorem dX12_apartBy_118 : decode cX12_apartBy 118 = .ok (.iconst 0, 1) := by decide +kernel
theorem dX12_apartBy_119 : decode cX12_apartBy 119 = .ok (.iaload, 1) := by decide +kernel
theorem dX12_apartBy_120 : decode cX12_apartBy 120 = .ok (.istore_n 3, 1) := by decide +kernel
theorem dX12_apartBy_121 : decode cX12_apartBy 121 = .ok (.iconst 1, 1) := by decide +kernel
theorem dX12_apartBy_122 : decode cX12_apartBy 122 = .ok (.istore 4, 2) := by decide +kernel
theorem dX12_apartBy_124 : decode cX12_apartBy 124 = .ok (.iload 4, 2) := by decide +kernel
theorem dX12_apartBy_126 : decode cX12_apartBy 126 = .ok (.aload_n 0, 1) := by decide +kernel
theorem dX12_apartBy_127 : decode cX12_apartBy 127 = .ok (.getfield 141, 3) := by decide +kernel
theorem dX12_apartBy_130 : decode cX12_apartBy 130 = .ok (.if_icmp .ge 55, 3) := by decide +kernel
theorem dX12_apartBy_133 : decode cX12_apartBy 133 = .ok (.aload_n 0, 1) := by decide +kernel
theorem dX12_apartBy_134 : decode cX12_apartBy 134 = .ok (.getfield 75, 3) := by decide +kernel
theorem dX12_apartBy_137 : decode cX12_apartBy 137 = .ok (.iload 4, 2) := by decide +kernel
theorem dX12_apartBy_139 : decode cX12_apartBy 139 = .ok (.iaload, 1) := by decide +kernel
theorem dX12_apartBy_140 : decode cX12_apartBy 140 = .ok (.iload_n 2, 1) := by decide +kernel
theorem dX12_apartBy_141 : decode cX12_apartBy 141 = .ok (.if_icmp .le 13, 3) := by decide +kernel
theorem dX12_apartBy_144 : decode cX12_apartBy 144 = .ok (.aload_n 0, 1) := by decide +kernel
theorem dX12_apartBy_145 : decode cX12_apartBy 145 = .ok (.getfield 75, 3) := by decide +kernel
theorem dX12_apartBy_148 : decode cX12_apartBy 148 = .ok (.iload 4, 2) := by decide +kernel
theorem dX12_apartBy_150 : decode cX12_apartBy 150 = .ok (.iaload, 1) := by decide +kernel
theorem dX12_apartBy_151 : decode cX12_apartBy 151 = .ok (.goto 4, 3) := by decide +kernel
theorem dX12_apartBy_154 : decode cX12_apartBy 154 = .ok (.iload_n 2, 1) := by decide +kernel
theorem dX12_apartBy_155 : decode cX12_apartBy 155 = .ok (.istore_n 2, 1) := by decide +kernel
theorem dX12_apartBy_156 : decode cX12_apartBy 156 = .ok (.aload_n 0, 1) := by decide +kernel
theorem dX12_apartBy_157 : decode cX12_apartBy 157 = .ok (.getfield 75, 3) := by decide +kernel
theorem dX12_apartBy_160 : decode cX12_apartBy 160 = .ok (.iload 4, 2) := by decide +kernel
theorem dX12_apartBy_162 : decode cX12_apartBy 162 = .ok (.iaload, 1) := by decide +kernel
theorem dX12_apartBy_163 : decode cX12_apartBy 163 = .ok (.iload_n 3, 1) := by decide +kernel
theorem dX12_apartBy_164 : decode cX12_apartBy 164 = .ok (.if_icmp .ge 13, 3) := by decide +kernel
theorem dX12_apartBy_167 : decode cX12_apartBy 167 = .ok (.aload_n 0, 1) := by decide +kernel
theorem dX12_apartBy_168 : decode cX12_apartBy 168 = .ok (.getfield 75, 3) := by decide +kernel
theorem dX12_apartBy_171 : decode cX12_apartBy 171 = .ok (.iload 4, 2) := by decide +kernel
theorem dX12_apartBy_173 : decode cX12_apartBy 173 = .ok (.iaload, 1) := by decide +kernel
theorem dX12_apartBy_174 : decode cX12_apartBy 174 = .ok (.goto 4, 3) := by decide +kernel
theorem dX12_apartBy_177 : decode cX12_apartBy 177 = .ok (.iload_n 3, 1) := by decide +kernel
theorem dX12_apartBy_178 : decode cX12_apartBy 178 = .ok (.istore_n 3, 1) := by decide +kernel
theorem dX12_apartBy_179 : decode cX12_apartBy 179 = .ok (.iinc 4 1, 3) := by decide +kernel
theorem dX12_apartBy_182 : decode cX12_apartBy 182 = .ok (.goto (-58), 3) := by decide +kernel
theorem dX12_apartBy_185 : decode cX12_apartBy 185 = .ok (.iload_n 2, 1) := by decide +kernel
theorem dX12_apartBy_186 : decode cX12_apartBy 186 = .ok (.iload_n 3, 1) := by decide +kernel
theorem dX12_apartBy_187 : decode cX12_apartBy 187 = .ok (.isub, 1) := by decide +kernel
theorem dX12_apartBy_188 : decode cX12_apartBy 188 = .ok (.ireturn, 1) := by decide +kernel
theorem dX12_even_0 : decode cX12_even 0 = .ok (.iload_n 1, 1) := by decide +kernel
theorem dX12_even_1 : decode cX12_even 1 = .ok (.invokestatic 92, 3) := by decide +kernel
theorem dX12_even_4 : decode cX12_even 4 = .ok (.ifCond .ne 5, 3) := by decide +kernel
theorem dX12_even_7 : decode cX12_even 7 = .ok (.iconst (-1), 1) := by decide +kernel
theorem dX12_even_8 : decode cX12_even 8 = .ok (.ireturn, 1) := by decide +kernel
theorem dX12_even_9 : decode cX12_even 9 = .ok (.aload_n 0, 1) := by decide +kernel
theorem dX12_even_10 : decode cX12_even 10 = .ok (.getfield 141, 3) := by decide +kernel
theorem dX12_even_13 : decode cX12_even 13 = .ok (.ifCond .ne 6, 3) := by decide +kernel
theorem dX12_even_16 : decode cX12_even 16 = .ok (.bipush (-4), 2) := by decide +kernel
theorem dX12_even_18 : decode cX12_even 18 = .ok (.ireturn, 1) := by decide +kernel
theorem dX12_even_19 : decode cX12_even 19 = .ok (.aload_n 0, 1) := by decide +kernel
theorem dX12_even_20 : decode cX12_even 20 = .ok (.iload_n 1, 1) := by decide +kernel
theorem dX12_even_21 : decode cX12_even 21 = .ok (.invokevirtual 107, 3) := by decide +kernel
theorem dX12_even_24 : decode cX12_even 24 = .ok (.istore_n 2, 1) := by decide +kernel
theorem dX12_even_25 : decode cX12_even 25 = .ok (.iload_n 2, 1) := by decide +kernel
theorem dX12_even_26 : decode cX12_even 26 = .ok (.ifCond .ge 5, 3) := by decide +kernel
theorem dX12_even_29 : decode cX12_even 29 = .ok (.iload_n 2, 1) := by decide +kernel
theorem dX12_even_30 : decode cX12_even 30 = .ok (.ireturn, 1) := by decide +kernel
theorem dX12_even_31 : decode cX12_even 31 = .ok (.aload_n 0, 1) := by decide +kernel
theorem dX12_even_32 : decode cX12_even 32 = .ok (.getfield 17, 3) := by decide +kernel
theorem dX12_even_35 : decode cX12_even 35 = .ok (.iload_n 1, 1) := by decide +kernel
theorem dX12_even_36 : decode cX12_even 36 = .ok (.iaload, 1) := by decide +kernel
theorem dX12_even_37 : decode cX12_even 37 = .ok (.bipush 20, 2) := by decide +kernel
theorem dX12_even_39 : decode cX12_even 39 = .ok (.if_icmp .le 9, 3) := by decide +kernel
theorem dX12_even_42 : decode cX12_even 42 = .ok (.aload_n 0, 1) := by decide +kernel
theorem dX12_even_43 : decode cX12_even 43 = .ok (.iconst 5, 1) := by decide +kernel
theorem dX12_even_44 : decode cX12_even 44 = .ok (.invokevirtual 96, 3) := by decide +kernel
theorem dX12_even_47 : decode cX12_even 47 = .ok (.ireturn, 1) := by decide +kernel
theorem dX12_even_48 : decode cX12_even 48 = .ok (.iconst 0, 1) := by decide +kernel
theorem dX12_even_49 : decode cX12_even 49 = .ok (.istore_n 3, 1) := by decide +kernel
theorem dX12_even_50 : decode cX12_even 50 = .ok (.iload_n 3, 1) := by decide +kernel
theorem dX12_even_51 : decode cX12_even 51 = .ok (.aload_n 0, 1) := by decide +kernel
theorem dX12_even_52 : decode cX12_even 52 = .ok (.getfield 17, 3) := by decide +kernel
theorem dX12_even_55 : decode cX12_even 55 = .ok (.iload_n 1, 1) := by decide +kernel
theorem dX12_even_56 : decode cX12_even 56 = .ok (.iaload, 1) := by decide +kernel
theorem dX12_even_57 : decode cX12_even 57 = .ok (.if_icmp .ge 28, 3) := by decide +kernel
theorem dX12_even_60 : decode cX12_even 60 = .ok (.aload_n 0, 1) := by decide +kernel
theorem dX12_even_61 : decode cX12_even 61 = .ok (.aload_n 0, 1) := by decide +kernel
theorem dX12_even_62 : decode cX12_even 62 = .ok (.iload_n 1, 1) := by decide +kernel
theorem dX12_even_63 : decode cX12_even 63 = .ok (.iload_n 3, 1) := by decide +kernel
theorem dX12_even_64 : decode cX12_even 64 = .ok (.invokevirtual 110, 3) := by decide +kernel
theorem dX12_even_67 : decode cX12_even 67 = .ok (.invokevirtual 160, 3) := by decide +kernel
theorem dX12_even_70 : decode cX12_even 70 = .ok (.ifCond .ne 9, 3) := by decide +kernel
theorem dX12_even_73 : decode cX12_even 73 = .ok (.aload_n 0, 1) := by decide +kernel
theorem dX12_even_74 : decode cX12_even 74 = .ok (.iconst 3, 1) := by decide +kernel
theorem dX12_even_75 : decode cX12_even 75 = .ok (.invokevirtual 96, 3) := by decide +kernel
theorem dX12_even_78 : decode cX12_even 78 = .ok (.ireturn, 1) := by decide +kernel
theorem dX12_even_79 : decode cX12_even 79 = .ok (.iinc 3 1, 3) := by decide +kernel
theorem dX12_even_82 : decode cX12_even 82 = .ok (.goto (-32), 3) := by decide +kernel
theorem dX12_even_85 : decode cX12_even 85 = .ok (.aload_n 0, 1) := by decide +kernel
theorem dX12_even_86 : decode cX12_even 86 = .ok (.getfield 144, 3) := by decide +kernel
theorem dX12_even_89 : decode cX12_even 89 = .ok (.istore_n 3, 1) := by decide +kernel
theorem dX12_even_90 : decode cX12_even 90 = .ok (.iconst 0, 1) := by decide +kernel
theorem dX12_even_91 : decode cX12_even 91 = .ok (.istore 4, 2) := by decide +kernel
theorem dX12_even_93 : decode cX12_even 93 = .ok (.iconst 0, 1) := by decide +kernel
theorem dX12_even_94 : decode cX12_even 94 = .ok (.istore 5, 2) := by decide +kernel
theorem dX12_even_96 : decode cX12_even 96 = .ok (.iconst 0, 1) := by decide +kernel
theorem dX12_even_97 : decode cX12_even 97 = .ok (.istore 6, 2) := by decide +kernel
theorem dX12_even_99 : decode cX12_even 99 = .ok (.iload 6, 2) := by decide +kernel
theorem dX12_even_101 : decode cX12_even 101 = .ok (.iconst 3, 1) := by decide +kernel
theorem dX12_even_102 : decode cX12_even 102 = .ok (.if_icmp .ge 64, 3) := by decide +kernel
theorem dX12_even_105 : decode cX12_even 105 = .ok (.aload_n 0, 1) := by decide +kernel
theorem dX12_even_106 : decode cX12_even 106 = .ok (.iload 6, 2) := by decide +kernel
theorem dX12_even_108 : decode cX12_even 108 = .ok (.putfield 144, 3) := by decide +kernel
theorem dX12_even_111 : decode cX12_even 111 = .ok (.aload_n 0, 1) := by decide +kernel
theorem dX12_even_112 : decode cX12_even 112 = .ok (.iload_n 1, 1) := by decide +kernel
theorem dX12_even_113 : decode cX12_even 113 = .ok (.invokevirtual 347, 3) := by decide +kernel
theorem dX12_even_116 : decode cX12_even 116 = .ok (.istore 7, 2) := by decide +kernel
theorem dX12_even_118 : decode cX12_even 118 = .ok (.iload 6, 2) := by decide +kernel
theorem dX12_even_120 : decode cX12_even 120 = .ok (.ifCond .eq 10, 3) := by decide +kernel
theorem dX12_even_123 : decode cX12_even 123 = .ok (.iload 7, 2) := by decide +kernel
theorem dX12_even_125 : decode cX12_even 125 = .ok (.iload 5, 2) := by decide +kernel
theorem dX12_even_127 : decode cX12_even 127 = .ok (.if_icmp .ge 8, 3) := by decide +kernel
theorem dX12_even_130 : decode cX12_even 130 = .ok (.iload 6, 2) := by decide +kernel
theorem dX12_even_132 : decode cX12_even 132 = .ok (.goto 5, 3) := by decide +kernel
theorem dX12_even_135 : decode cX12_even 135 = .ok (.iload 4, 2) := by decide +kernel
theorem dX12_even_137 : decode cX12_even 137 = .ok (.istore 4, 2) := by decide +kernel
theorem dX12_even_139 : decode cX12_even 139 = .ok (.iload 6, 2) := by decide +kernel
theorem dX12_even_141 : decode cX12_even 141 = .ok (.ifCond .eq 10, 3) := by decide +kernel
theorem dX12_even_144 : decode cX12_even 144 = .ok (.iload 7, 2) := by decide +kernel
theorem dX12_even_146 : decode cX12_even 146 = .ok (.iload 5, 2) := by decide +kernel
theorem dX12_even_148 : decode cX12_even 148 = .ok (.if_icmp .ge 8, 3) := by decide +kernel
theorem dX12_even_151 : decode cX12_even 151 = .ok (.iload 7, 2) := by decide +kernel
theorem dX12_even_153 : decode cX12_even 153 = .ok (.goto 5, 3) := by decide +kernel
theorem dX12_even_156 : decode cX12_even 156 = .ok (.iload 5, 2) := by decide +kernel
theorem dX12_even_158 : decode cX12_even 158 = .ok (.istore 5, 2) := by decide +kernel
theorem dX12_even_160 : decode cX12_even 160 = .ok (.iinc 6 1, 3) := by decide +kernel
theorem dX12_even_163 : decode cX12_even 163 = .ok (.goto (-64), 3) := by decide +kernel
theorem dX12_even_166 : decode cX12_even 166 = .ok (.aload_n 0, 1) := by decide +kernel
theorem dX12_even_167 : decode cX12_even 167 = .ok (.iload_n 3, 1) := by decide +kernel
theorem dX12_even_168 : decode cX12_even 168 = .ok (.putfield 144, 3) := by decide +kernel
theorem dX12_even_171 : decode cX12_even 171 = .ok (.aload_n 0, 1) := by decide +kernel
theorem dX12_even_172 : decode cX12_even 172 = .ok (.iload 5, 2) := by decide +kernel
theorem dX12_even_174 : decode cX12_even 174 = .ok (.iload 4, 2) := by decide +kernel
theorem dX12_even_176 : decode cX12_even 176 = .ok (.invokevirtual 114, 3) := by decide +kernel
theorem dX12_even_179 : decode cX12_even 179 = .ok (.ireturn, 1) := by decide +kernel
theorem dX12_asked_0 : decode cX12_asked 0 = .ok (.aload_n 0, 1) := by decide +kernel
theorem dX12_asked_1 : decode cX12_asked 1 = .ok (.getfield 82, 3) := by decide +kernel
theorem dX12_asked_4 : decode cX12_asked 4 = .ok (.ireturn, 1) := by decide +kernel
theorem dX12_upper_0 : decode cX12_upper 0 = .ok (.aload_n 0, 1) := by decide +kernel
theorem dX12_upper_1 : decode cX12_upper 1 = .ok (.getfield 85, 3) := by decide +kernel
theorem dX12_upper_4 : decode cX12_upper 4 = .ok (.lreturn, 1) := by decide +kernel
theorem dX12_lower_0 : decode cX12_lower 0 = .ok (.aload_n 0, 1) := by decide +kernel
theorem dX12_lower_1 : decode cX12_lower 1 = .ok (.getfield 13, 3) := by decide +kernel
theorem dX12_lower_4 : decode cX12_lower 4 = .ok (.lreturn, 1) := by decide +kernel
theorem dX12_counts_0 : decode cX12_counts 0 = .ok (.iconst 0, 1) := by decide +kernel
theorem dX12_counts_1 : decode cX12_counts 1 = .ok (.istore_n 2, 1) := by decide +kernel
theorem dX12_counts_2 : decode cX12_counts 2 = .ok (.iconst 0, 1) := by decide +kernel
theorem dX12_counts_3 : decode cX12_counts 3 = .ok (.istore_n 3, 1) := by decide +kernel
theorem dX12_counts_4 : decode cX12_counts 4 = .ok (.iload_n 3, 1) := by decide +kernel
theorem dX12_counts_5 : decode cX12_counts 5 = .ok (.bipush 9, 2) := by decide +kernel
theorem dX12_counts_7 : decode cX12_counts 7 = .ok (.if_icmp .ge 104, 3) := by decide +kernel
theorem dX12_counts_10 : decode cX12_counts 10 = .ok (.iload_n 2, 1) := by decide +kernel
theorem dX12_counts_11 : decode cX12_counts 11 = .ok (.iload_n 1, 1) := by decide +kernel
theorem dX12_counts_12 : decode cX12_counts 12 = .ok (.iconst 3, 1) := by decide +kernel
theorem dX12_counts_13 : decode cX12_counts 13 = .ok (.if_icmp .ne 20, 3) := by decide +kernel
theorem dX12_counts_16 : decode cX12_counts 16 = .ok (.iload_n 3, 1) := by decide +kernel
theorem dX12_counts_17 : decode cX12_counts 17 = .ok (.aload_n 0, 1) := by decide +kernel
theorem dX12_counts_18 : decode cX12_counts 18 = .ok (.getfield 141, 3) := by decide +kernel
theorem dX12_counts_21 : decode cX12_counts 21 = .ok (.if_icmp .ge 12, 3) := by decide +kernel
theorem dX12_counts_24 : decode cX12_counts 24 = .ok (.aload_n 0, 1) := by decide +kernel
theorem dX12_counts_25 : decode cX12_counts 25 = .ok (.iload_n 3, 1) := by decide +kernel
theorem dX12_counts_26 : decode cX12_counts 26 = .ok (.iconst 4, 1) := by decide +kernel
theorem dX12_counts_27 : decode cX12_counts 27 = .ok (.invokevirtual 166, 3) := by decide +kernel
theorem dX12_counts_30 : decode cX12_counts 30 = .ok (.ifCond .ne 68, 3) := by decide +kernel
theorem dX12_counts_33 : decode cX12_counts 33 = .ok (.iload_n 1, 1) := by decide +kernel
theorem dX12_counts_34 : decode cX12_counts 34 = .ok (.iconst 5, 1) := by decide +kernel
theorem dX12_counts_35 : decode cX12_counts 35 = .ok (.if_icmp .ne 22, 3) := by decide +kernel
theorem dX12_counts_38 : decode cX12_counts 38 = .ok (.iload_n 3, 1) := by decide +kernel
theorem dX12_counts_39 : decode cX12_counts 39 = .ok (.iconst 3, 1) := by decide +kernel
theorem dX12_counts_40 : decode cX12_counts 40 = .ok (.if_icmp .ge 17, 3) := by decide +kernel
theorem dX12_counts_43 : decode cX12_counts 43 = .ok (.aload_n 0, 1) := by decide +kernel
theorem dX12_counts_44 : decode cX12_counts 44 = .ok (.getfield 47, 3) := by decide +kernel
theorem dX12_counts_47 : decode cX12_counts 47 = .ok (.bipush 50, 2) := by decide +kernel
theorem dX12_counts_49 : decode cX12_counts 49 = .ok (.iload_n 3, 1) := by decide +kernel
theorem dX12_counts_50 : decode cX12_counts 50 = .ok (.imul, 1) := by decide +kernel
theorem dX12_counts_51 : decode cX12_counts 51 = .ok (.iaload, 1) := by decide +kernel
theorem dX12_counts_52 : decode cX12_counts 52 = .ok (.bipush (-9), 2) := by decide +kernel
theorem dX12_counts_54 : decode cX12_counts 54 = .ok (.if_icmp .ne 44, 3) := by decide +kernel
theorem dX12_counts_57 : decode cX12_counts 57 = .ok (.iload_n 1, 1) := by decide +kernel
theorem dX12_counts_58 : decode cX12_counts 58 = .ok (.bipush 6, 2) := by decide +kernel
theorem dX12_counts_60 : decode cX12_counts 60 = .ok (.if_icmp .ne 18, 3) := by decide +kernel
theorem dX12_counts_63 : decode cX12_counts 63 = .ok (.iload_n 3, 1) := by decide +kernel
theorem dX12_counts_64 : decode cX12_counts 64 = .ok (.bipush 6, 2) := by decide +kernel
theorem dX12_counts_66 : decode cX12_counts 66 = .ok (.if_icmp .ge 12, 3) := by decide +kernel
theorem dX12_counts_69 : decode cX12_counts 69 = .ok (.aload_n 0, 1) := by decide +kernel
theorem dX12_counts_70 : decode cX12_counts 70 = .ok (.getfield 17, 3) := by decide +kernel
theorem dX12_counts_73 : decode cX12_counts 73 = .ok (.iload_n 3, 1) := by decide +kernel
theorem dX12_counts_74 : decode cX12_counts 74 = .ok (.iaload, 1) := by decide +kernel
theorem dX12_counts_75 : decode cX12_counts 75 = .ok (.ifCond .ge 23, 3) := by decide +kernel
theorem dX12_counts_78 : decode cX12_counts 78 = .ok (.iload_n 1, 1) := by decide +kernel
theorem dX12_counts_79 : decode cX12_counts 79 = .ok (.bipush 7, 2) := by decide +kernel
theorem dX12_counts_81 : decode cX12_counts 81 = .ok (.if_icmp .ne 21, 3) := by decide +kernel
theorem dX12_counts_84 : decode cX12_counts 84 = .ok (.iload_n 3, 1) := by decide +kernel
theorem dX12_counts_85 : decode cX12_counts 85 = .ok (.iconst 4, 1) := by decide +kernel
theorem dX12_counts_86 : decode cX12_counts 86 = .ok (.if_icmp .ge 16, 3) := by decide +kernel
theorem dX12_counts_89 : decode cX12_counts 89 = .ok (.aload_n 0, 1) := by decide +kernel
theorem dX12_counts_90 : decode cX12_counts 90 = .ok (.getfield 26, 3) := by decide +kernel
theorem dX12_counts_93 : decode cX12_counts 93 = .ok (.iload_n 3, 1) := by decide +kernel
theorem dX12_counts_94 : decode cX12_counts 94 = .ok (.iaload, 1) := by decide +kernel
theorem dX12_counts_95 : decode cX12_counts 95 = .ok (.ifCond .lt 7, 3) := by decide +kernel
theorem dX12_counts_98 : decode cX12_counts 98 = .ok (.iconst 1, 1) := by decide +kernel
theorem dX12_counts_99 : decode cX12_counts 99 = .ok (.goto 4, 3) := by decide +kernel
theorem dX12_counts_102 : decode cX12_counts 102 = .ok (.iconst 0, 1) := by decide +kernel
theorem dX12_counts_103 : decode cX12_counts 103 = .ok (.iadd, 1) := by decide +kernel
theorem dX12_counts_104 : decode cX12_counts 104 = .ok (.istore_n 2, 1) := by decide +kernel
theorem dX12_counts_105 : decode cX12_counts 105 = .ok (.iinc 3 1, 3) := by decide +kernel
theorem dX12_counts_108 : decode cX12_counts 108 = .ok (.goto (-104), 3) := by decide +kernel
theorem dX12_counts_111 : decode cX12_counts 111 = .ok (.iload_n 1, 1) := by decide +kernel
theorem dX12_counts_112 : decode cX12_counts 112 = .ok (.tableswitch 59 0 4 #[36, 41, 49, 59, 54], 36) := by decide +kernel
theorem dX12_counts_148 : decode cX12_counts 148 = .ok (.aload_n 0, 1) := by decide +kernel
theorem dX12_counts_149 : decode cX12_counts 149 = .ok (.getfield 141, 3) := by decide +kernel
theorem dX12_counts_152 : decode cX12_counts 152 = .ok (.ireturn, 1) := by decide +kernel
theorem dX12_counts_153 : decode cX12_counts 153 = .ok (.aload_n 0, 1) := by decide +kernel
theorem dX12_counts_154 : decode cX12_counts 154 = .ok (.getfield 188, 3) := by decide +kernel
theorem dX12_counts_157 : decode cX12_counts 157 = .ok (.invokestatic 313, 3) := by decide +kernel
theorem dX12_counts_160 : decode cX12_counts 160 = .ok (.ireturn, 1) := by decide +kernel
theorem dX12_counts_161 : decode cX12_counts 161 = .ok (.aload_n 0, 1) := by decide +kernel
theorem dX12_counts_162 : decode cX12_counts 162 = .ok (.getfield 170, 3) := by decide +kernel
theorem dX12_counts_165 : decode cX12_counts 165 = .ok (.ireturn, 1) := by decide +kernel
theorem dX12_counts_166 : decode cX12_counts 166 = .ok (.aload_n 0, 1) := by decide +kernel
theorem dX12_counts_167 : decode cX12_counts 167 = .ok (.getfield 157, 3) := by decide +kernel
theorem dX12_counts_170 : decode cX12_counts 170 = .ok (.ireturn, 1) := by decide +kernel
theorem dX12_counts_171 : decode cX12_counts 171 = .ok (.iload_n 2, 1) := by decide +kernel
theorem dX12_counts_172 : decode cX12_counts 172 = .ok (.ireturn, 1) := by decide +kernel
theorem dX12_count_0 : decode cX12_count 0 = .ok (.iload_n 1, 1) := by decide +kernel
theorem dX12_count_1 : decode cX12_count 1 = .ok (.iconst 0, 1) := by decide +kernel
theorem dX12_count_2 : decode cX12_count 2 = .ok (.bipush 7, 2) := by decide +kernel
theorem dX12_count_4 : decode cX12_count 4 = .ok (.invokestatic 88, 3) := by decide +kernel
theorem dX12_count_7 : decode cX12_count 7 = .ok (.ifCond .eq 11, 3) := by decide +kernel
theorem dX12_count_10 : decode cX12_count 10 = .ok (.aload_n 0, 1) := by decide +kernel
theorem dX12_count_11 : decode cX12_count 11 = .ok (.iload_n 1, 1) := by decide +kernel
theorem dX12_count_12 : decode cX12_count 12 = .ok (.invokevirtual 350, 3) := by decide +kernel
theorem dX12_count_15 : decode cX12_count 15 = .ok (.goto 4, 3) := by decide +kernel
theorem dX12_count_18 : decode cX12_count 18 = .ok (.iconst (-1), 1) := by decide +kernel
theorem dX12_count_19 : decode cX12_count 19 = .ok (.ireturn, 1) := by decide +kernel
theorem dX12_finding_0 : decode cX12_finding 0 = .ok (.aload_n 0, 1) := by decide +kernel
theorem dX12_finding_1 : decode cX12_finding 1 = .ok (.getfield 78, 3) := by decide +kernel
theorem dX12_finding_4 : decode cX12_finding 4 = .ok (.ireturn, 1) := by decide +kernel
theorem dX12_findings_0 : decode cX12_findings 0 = .ok (.iload_n 1, 1) := by decide +kernel
theorem dX12_findings_1 : decode cX12_findings 1 = .ok (.iconst 1, 1) := by decide +kernel
theorem dX12_findings_2 : decode cX12_findings 2 = .ok (.iconst 5, 1) := by decide +kernel
theorem dX12_findings_3 : decode cX12_findings 3 = .ok (.invokestatic 88, 3) := by decide +kernel
theorem dX12_findings_6 : decode cX12_findings 6 = .ok (.ifCond .eq 12, 3) := by decide +kernel
theorem dX12_findings_9 : decode cX12_findings 9 = .ok (.aload_n 0, 1) := by decide +kernel
theorem dX12_findings_10 : decode cX12_findings 10 = .ok (.getfield 7, 3) := by decide +kernel
theorem dX12_findings_13 : decode cX12_findings 13 = .ok (.iload_n 1, 1) := by decide +kernel
theorem dX12_findings_14 : decode cX12_findings 14 = .ok (.iaload, 1) := by decide +kernel
theorem dX12_findings_15 : decode cX12_findings 15 = .ok (.goto 4, 3) := by decide +kernel
theorem dX12_findings_18 : decode cX12_findings 18 = .ok (.iconst (-1), 1) := by decide +kernel
theorem dX12_findings_19 : decode cX12_findings 19 = .ok (.ireturn, 1) := by decide +kernel
theorem dX12_mix_0 : decode cX12_mix 0 = .ok (.aload_n 0, 1) := by decide +kernel
theorem dX12_mix_1 : decode cX12_mix 1 = .ok (.ldc2_w 353, 3) := by decide +kernel
theorem dX12_mix_4 : decode cX12_mix 4 = .ok (.aload_n 0, 1) := by decide +kernel
theorem dX12_mix_5 : decode cX12_mix 5 = .ok (.getfield 355, 3) := by decide +kernel
theorem dX12_mix_8 : decode cX12_mix 8 = .ok (.lmul, 1) := by decide +kernel
theorem dX12_mix_9 : decode cX12_mix 9 = .ok (.iload_n 1, 1) := by decide +kernel
theorem dX12_mix_10 : decode cX12_mix 10 = .ok (.i2l, 1) := by decide +kernel
theorem dX12_mix_11 : decode cX12_mix 11 = .ok (.ladd, 1) := by decide +kernel
theorem dX12_mix_12 : decode cX12_mix 12 = .ok (.putfield 355, 3) := by decide +kernel
theorem dX12_mix_15 : decode cX12_mix 15 = .ok (.return_, 1) := by decide +kernel
theorem dX12_mixOffice_0 : decode cX12_mixOffice 0 = .ok (.aload_n 0, 1) := by decide +kernel
theorem dX12_mixOffice_1 : decode cX12_mixOffice 1 = .ok (.aload_n 0, 1) := by decide +kernel
theorem dX12_mixOffice_2 : decode cX12_mixOffice 2 = .ok (.getfield 144, 3) := by decide +kernel
theorem dX12_mixOffice_5 : decode cX12_mixOffice 5 = .ok (.invokevirtual 358, 3) := by decide +kernel
theorem dX12_mixOffice_8 : decode cX12_mixOffice 8 = .ok (.aload_n 0, 1) := by decide +kernel
theorem dX12_mixOffice_9 : decode cX12_mixOffice 9 = .ok (.aload_n 0, 1) := by decide +kernel
theorem dX12_mixOffice_10 : decode cX12_mixOffice 10 = .ok (.getfield 147, 3) := by decide +kernel
theorem dX12_mixOffice_13 : decode cX12_mixOffice 13 = .ok (.invokevirtual 358, 3) := by decide +kernel
theorem dX12_mixOffice_16 : decode cX12_mixOffice 16 = .ok (.aload_n 0, 1) := by decide +kernel
theorem dX12_mixOffice_17 : decode cX12_mixOffice 17 = .ok (.aload_n 0, 1) := by decide +kernel
theorem dX12_mixOffice_18 : decode cX12_mixOffice 18 = .ok (.getfield 150, 3) := by decide +kernel
theorem dX12_mixOffice_21 : decode cX12_mixOffice 21 = .ok (.invokevirtual 358, 3) := by decide +kernel
theorem dX12_mixOffice_24 : decode cX12_mixOffice 24 = .ok (.aload_n 0, 1) := by decide +kernel
theorem dX12_mixOffice_25 : decode cX12_mixOffice 25 = .ok (.aload_n 0, 1) := by decide +kernel
theorem dX12_mixOffice_26 : decode cX12_mixOffice 26 = .ok (.getfield 206, 3) := by decide +kernel
theorem dX12_mixOffice_29 : decode cX12_mixOffice 29 = .ok (.invokevirtual 358, 3) := by decide +kernel
theorem dX12_mixOffice_32 : decode cX12_mixOffice 32 = .ok (.aload_n 0, 1) := by decide +kernel
theorem dX12_mixOffice_33 : decode cX12_mixOffice 33 = .ok (.aload_n 0, 1) := by decide +kernel
theorem dX12_mixOffice_34 : decode cX12_mixOffice 34 = .ok (.getfield 209, 3) := by decide +kernel
theorem dX12_mixOffice_37 : decode cX12_mixOffice 37 = .ok (.invokevirtual 358, 3) := by decide +kernel
theorem dX12_mixOffice_40 : decode cX12_mixOffice 40 = .ok (.aload_n 0, 1) := by decide +kernel
theorem dX12_mixOffice_41 : decode cX12_mixOffice 41 = .ok (.aload_n 0, 1) := by decide +kernel
theorem dX12_mixOffice_42 : decode cX12_mixOffice 42 = .ok (.getfield 212, 3) := by decide +kernel
theorem dX12_mixOffice_45 : decode cX12_mixOffice 45 = .ok (.invokevirtual 358, 3) := by decide +kernel
theorem dX12_mixOffice_48 : decode cX12_mixOffice 48 = .ok (.aload_n 0, 1) := by decide +kernel
theorem dX12_mixOffice_49 : decode cX12_mixOffice 49 = .ok (.aload_n 0, 1) := by decide +kernel
theorem dX12_mixOffice_50 : decode cX12_mixOffice 50 = .ok (.getfield 215, 3) := by decide +kernel
theorem dX12_mixOffice_53 : decode cX12_mixOffice 53 = .ok (.ifCond .eq 7, 3) := by decide +kernel
theorem dX12_mixOffice_56 : decode cX12_mixOffice 56 = .ok (.iconst 1, 1) := by decide +kernel
theorem dX12_mixOffice_57 : decode cX12_mixOffice 57 = .ok (.goto 4, 3) := by decide +kernel
theorem dX12_mixOffice_60 : decode cX12_mixOffice 60 = .ok (.iconst 0, 1) := by decide +kernel
theorem dX12_mixOffice_61 : decode cX12_mixOffice 61 = .ok (.invokevirtual 358, 3) := by decide +kernel
theorem dX12_mixOffice_64 : decode cX12_mixOffice 64 = .ok (.iconst 0, 1) := by decide +kernel
theorem dX12_mixOffice_65 : decode cX12_mixOffice 65 = .ok (.istore_n 1, 1) := by decide +kernel
theorem dX12_mixOffice_66 : decode cX12_mixOffice 66 = .ok (.iload_n 1, 1) := by decide +kernel
theorem dX12_mixOffice_67 : decode cX12_mixOffice 67 = .ok (.aload_n 0, 1) := by decide +kernel
theorem dX12_mixOffice_68 : decode cX12_mixOffice 68 = .ok (.getfield 141, 3) := by decide +kernel
theorem dX12_mixOffice_71 : decode cX12_mixOffice 71 = .ok (.if_icmp .ge 64, 3) := by decide +kernel
theorem dX12_mixOffice_74 : decode cX12_mixOffice 74 = .ok (.iconst 0, 1) := by decide +kernel
theorem dX12_mixOffice_75 : decode cX12_mixOffice 75 = .ok (.istore_n 2, 1) := by decide +kernel
theorem dX12_mixOffice_76 : decode cX12_mixOffice 76 = .ok (.iload_n 2, 1) := by decide +kernel
theorem dX12_mixOffice_77 : decode cX12_mixOffice 77 = .ok (.iconst 5, 1) := by decide +kernel
theorem dX12_mixOffice_78 : decode cX12_mixOffice 78 = .ok (.if_icmp .gt 19, 3) := by decide +kernel
theorem dX12_mixOffice_81 : decode cX12_mixOffice 81 = .ok (.aload_n 0, 1) := by decide +kernel
theorem dX12_mixOffice_82 : decode cX12_mixOffice 82 = .ok (.aload_n 0, 1) := by decide +kernel
theorem dX12_mixOffice_83 : decode cX12_mixOffice 83 = .ok (.iload_n 1, 1) := by decide +kernel
theorem dX12_mixOffice_84 : decode cX12_mixOffice 84 = .ok (.iload_n 2, 1) := by decide +kernel
theorem dX12_mixOffice_85 : decode cX12_mixOffice 85 = .ok (.invokevirtual 163, 3) := by decide +kernel
theorem dX12_mixOffice_88 : decode cX12_mixOffice 88 = .ok (.invokevirtual 358, 3) := by decide +kernel
theorem dX12_mixOffice_91 : decode cX12_mixOffice 91 = .ok (.iinc 2 1, 3) := by decide +kernel
theorem dX12_mixOffice_94 : decode cX12_mixOffice 94 = .ok (.goto (-18), 3) := by decide +kernel
theorem dX12_mixOffice_97 : decode cX12_mixOffice 97 = .ok (.iconst 0, 1) := by decide +kernel
theorem dX12_mixOffice_98 : decode cX12_mixOffice 98 = .ok (.istore_n 2, 1) := by decide +kernel
theorem dX12_mixOffice_99 : decode cX12_mixOffice 99 = .ok (.iload_n 2, 1) := by decide +kernel
theorem dX12_mixOffice_100 : decode cX12_mixOffice 100 = .ok (.iconst 3, 1) := by decide +kernel
theorem dX12_mixOffice_101 : decode cX12_mixOffice 101 = .ok (.if_icmp .gt 19, 3) := by decide +kernel
theorem dX12_mixOffice_104 : decode cX12_mixOffice 104 = .ok (.aload_n 0, 1) := by decide +kernel
theorem dX12_mixOffice_105 : decode cX12_mixOffice 105 = .ok (.aload_n 0, 1) := by decide +kernel
theorem dX12_mixOffice_106 : decode cX12_mixOffice 106 = .ok (.iload_n 1, 1) := by decide +kernel
theorem dX12_mixOffice_107 : decode cX12_mixOffice 107 = .ok (.iload_n 2, 1) := by decide +kernel
theorem dX12_mixOffice_108 : decode cX12_mixOffice 108 = .ok (.invokevirtual 257, 3) := by decide +kernel
theorem dX12_mixOffice_111 : decode cX12_mixOffice 111 = .ok (.invokevirtual 358, 3) := by decide +kernel
theorem dX12_mixOffice_114 : decode cX12_mixOffice 114 = .ok (.iinc 2 1, 3) := by decide +kernel
theorem dX12_mixOffice_117 : decode cX12_mixOffice 117 = .ok (.goto (-18), 3) := by decide +kernel
theorem dX12_mixOffice_120 : decode cX12_mixOffice 120 = .ok (.aload_n 0, 1) := by decide +kernel
theorem dX12_mixOffice_121 : decode cX12_mixOffice 121 = .ok (.aload_n 0, 1) := by decide +kernel
theorem dX12_mixOffice_122 : decode cX12_mixOffice 122 = .ok (.iload_n 1, 1) := by decide +kernel
theorem dX12_mixOffice_123 : decode cX12_mixOffice 123 = .ok (.invokevirtual 344, 3) := by decide +kernel
theorem dX12_mixOffice_126 : decode cX12_mixOffice 126 = .ok (.invokevirtual 358, 3) := by decide +kernel
theorem dX12_mixOffice_129 : decode cX12_mixOffice 129 = .ok (.iinc 1 1, 3) := by decide +kernel
theorem dX12_mixOffice_132 : decode cX12_mixOffice 132 = .ok (.goto (-66), 3) := by decide +kernel
theorem dX12_mixOffice_135 : decode cX12_mixOffice 135 = .ok (.iconst 0, 1) := by decide +kernel
theorem dX12_mixOffice_136 : decode cX12_mixOffice 136 = .ok (.istore_n 1, 1) := by decide +kernel
theorem dX12_mixOffice_137 : decode cX12_mixOffice 137 = .ok (.iload_n 1, 1) := by decide +kernel
theorem dX12_mixOffice_138 : decode cX12_mixOffice 138 = .ok (.aload_n 0, 1) := by decide +kernel
theorem dX12_mixOffice_139 : decode cX12_mixOffice 139 = .ok (.getfield 157, 3) := by decide +kernel
theorem dX12_mixOffice_142 : decode cX12_mixOffice 142 = .ok (.if_icmp .ge 22, 3) := by decide +kernel
theorem dX12_mixOffice_145 : decode cX12_mixOffice 145 = .ok (.aload_n 0, 1) := by decide +kernel
theorem dX12_mixOffice_146 : decode cX12_mixOffice 146 = .ok (.aload_n 0, 1) := by decide +kernel
theorem dX12_mixOffice_147 : decode cX12_mixOffice 147 = .ok (.getfield 69, 3) := by decide +kernel
theorem dX12_mixOffice_150 : decode cX12_mixOffice 150 = .ok (.bipush 10, 2) := by decide +kernel
theorem dX12_mixOffice_152 : decode cX12_mixOffice 152 = .ok (.iload_n 1, 1) := by decide +kernel
theorem dX12_mixOffice_153 : decode cX12_mixOffice 153 = .ok (.imul, 1) := by decide +kernel
theorem dX12_mixOffice_154 : decode cX12_mixOffice 154 = .ok (.iaload, 1) := by decide +kernel
theorem dX12_mixOffice_155 : decode cX12_mixOffice 155 = .ok (.invokevirtual 358, 3) := by decide +kernel
theorem dX12_mixOffice_158 : decode cX12_mixOffice 158 = .ok (.iinc 1 1, 3) := by decide +kernel
theorem dX12_mixOffice_161 : decode cX12_mixOffice 161 = .ok (.goto (-24), 3) := by decide +kernel
theorem dX12_mixOffice_164 : decode cX12_mixOffice 164 = .ok (.iconst 0, 1) := by decide +kernel
theorem dX12_mixOffice_165 : decode cX12_mixOffice 165 = .ok (.istore_n 1, 1) := by decide +kernel
theorem dX12_mixOffice_166 : decode cX12_mixOffice 166 = .ok (.iload_n 1, 1) := by decide +kernel
theorem dX12_mixOffice_167 : decode cX12_mixOffice 167 = .ok (.iconst 3, 1) := by decide +kernel
theorem dX12_mixOffice_168 : decode cX12_mixOffice 168 = .ok (.if_icmp .ge 40, 3) := by decide +kernel
theorem dX12_mixOffice_171 : decode cX12_mixOffice 171 = .ok (.aload_n 0, 1) := by decide +kernel
theorem dX12_mixOffice_172 : decode cX12_mixOffice 172 = .ok (.aload_n 0, 1) := by decide +kernel
theorem dX12_mixOffice_173 : decode cX12_mixOffice 173 = .ok (.getfield 47, 3) := by decide +kernel
theorem dX12_mixOffice_176 : decode cX12_mixOffice 176 = .ok (.bipush 50, 2) := by decide +kernel
theorem dX12_mixOffice_178 : decode cX12_mixOffice 178 = .ok (.iload_n 1, 1) := by decide +kernel
theorem dX12_mixOffice_179 : decode cX12_mixOffice 179 = .ok (.imul, 1) := by decide +kernel
theorem dX12_mixOffice_180 : decode cX12_mixOffice 180 = .ok (.iaload, 1) := by decide +kernel
theorem dX12_mixOffice_181 : decode cX12_mixOffice 181 = .ok (.bipush (-9), 2) := by decide +kernel
theorem dX12_mixOffice_183 : decode cX12_mixOffice 183 = .ok (.if_icmp .ne 7, 3) := by decide +kernel
theorem dX12_mixOffice_186 : decode cX12_mixOffice 186 = .ok (.iconst (-1), 1) := by decide +kernel
theorem dX12_mixOffice_187 : decode cX12_mixOffice 187 = .ok (.goto 12, 3) := by decide +kernel
theorem dX12_mixOffice_190 : decode cX12_mixOffice 190 = .ok (.aload_n 0, 1) := by decide +kernel
theorem dX12_mixOffice_191 : decode cX12_mixOffice 191 = .ok (.getfield 47, 3) := by decide +kernel
theorem dX12_mixOffice_194 : decode cX12_mixOffice 194 = .ok (.bipush 50, 2) := by decide +kernel
theorem dX12_mixOffice_196 : decode cX12_mixOffice 196 = .ok (.iload_n 1, 1) := by decide +kernel
theorem dX12_mixOffice_197 : decode cX12_mixOffice 197 = .ok (.imul, 1) := by decide +kernel
theorem dX12_mixOffice_198 : decode cX12_mixOffice 198 = .ok (.iaload, 1) := by decide +kernel
theorem dX12_mixOffice_199 : decode cX12_mixOffice 199 = .ok (.invokevirtual 358, 3) := by decide +kernel
theorem dX12_mixOffice_202 : decode cX12_mixOffice 202 = .ok (.iinc 1 1, 3) := by decide +kernel
theorem dX12_mixOffice_205 : decode cX12_mixOffice 205 = .ok (.goto (-39), 3) := by decide +kernel
theorem dX12_mixOffice_208 : decode cX12_mixOffice 208 = .ok (.return_, 1) := by decide +kernel
theorem dX12_digest_0 : decode cX12_digest 0 = .ok (.aload_n 0, 1) := by decide +kernel
theorem dX12_digest_1 : decode cX12_digest 1 = .ok (.ldc2_w 361, 3) := by decide +kernel
theorem dX12_digest_4 : decode cX12_digest 4 = .ok (.putfield 355, 3) := by decide +kernel
theorem dX12_digest_7 : decode cX12_digest 7 = .ok (.iconst 0, 1) := by decide +kernel
theorem dX12_digest_8 : decode cX12_digest 8 = .ok (.istore_n 1, 1) := by decide +kernel
theorem dX12_digest_9 : decode cX12_digest 9 = .ok (.iload_n 1, 1) := by decide +kernel
theorem dX12_digest_10 : decode cX12_digest 10 = .ok (.bipush 7, 2) := by decide +kernel
theorem dX12_digest_12 : decode cX12_digest 12 = .ok (.if_icmp .gt 18, 3) := by decide +kernel
theorem dX12_digest_15 : decode cX12_digest 15 = .ok (.aload_n 0, 1) := by decide +kernel
theorem dX12_digest_16 : decode cX12_digest 16 = .ok (.aload_n 0, 1) := by decide +kernel
theorem dX12_digest_17 : decode cX12_digest 17 = .ok (.iload_n 1, 1) := by decide +kernel
theorem dX12_digest_18 : decode cX12_digest 18 = .ok (.invokevirtual 350, 3) := by decide +kernel
theorem dX12_digest_21 : decode cX12_digest 21 = .ok (.invokevirtual 358, 3) := by decide +kernel
theorem dX12_digest_24 : decode cX12_digest 24 = .ok (.iinc 1 1, 3) := by decide +kernel
theorem dX12_digest_27 : decode cX12_digest 27 = .ok (.goto (-18), 3) := by decide +kernel
theorem dX12_digest_30 : decode cX12_digest 30 = .ok (.aload_n 0, 1) := by decide +kernel
theorem dX12_digest_31 : decode cX12_digest 31 = .ok (.invokevirtual 363, 3) := by decide +kernel
theorem dX12_digest_34 : decode cX12_digest 34 = .ok (.iconst 0, 1) := by decide +kernel
theorem dX12_digest_35 : decode cX12_digest 35 = .ok (.istore_n 1, 1) := by decide +kernel
theorem dX12_digest_36 : decode cX12_digest 36 = .ok (.iload_n 1, 1) := by decide +kernel
theorem dX12_digest_37 : decode cX12_digest 37 = .ok (.bipush 6, 2) := by decide +kernel
theorem dX12_digest_39 : decode cX12_digest 39 = .ok (.if_icmp .ge 60, 3) := by decide +kernel
theorem dX12_digest_42 : decode cX12_digest 42 = .ok (.aload_n 0, 1) := by decide +kernel
theorem dX12_digest_43 : decode cX12_digest 43 = .ok (.aload_n 0, 1) := by decide +kernel
theorem dX12_digest_44 : decode cX12_digest 44 = .ok (.getfield 17, 3) := by decide +kernel
theorem dX12_digest_47 : decode cX12_digest 47 = .ok (.iload_n 1, 1) := by decide +kernel
theorem dX12_digest_48 : decode cX12_digest 48 = .ok (.iaload, 1) := by decide +kernel
theorem dX12_digest_49 : decode cX12_digest 49 = .ok (.ifCond .ge 7, 3) := by decide +kernel
theorem dX12_digest_52 : decode cX12_digest 52 = .ok (.iconst (-1), 1) := by decide +kernel
theorem dX12_digest_53 : decode cX12_digest 53 = .ok (.goto 9, 3) := by decide +kernel
theorem dX12_digest_56 : decode cX12_digest 56 = .ok (.aload_n 0, 1) := by decide +kernel
theorem dX12_digest_57 : decode cX12_digest 57 = .ok (.getfield 17, 3) := by decide +kernel
theorem dX12_digest_60 : decode cX12_digest 60 = .ok (.iload_n 1, 1) := by decide +kernel
theorem dX12_digest_61 : decode cX12_digest 61 = .ok (.iaload, 1) := by decide +kernel
theorem dX12_digest_62 : decode cX12_digest 62 = .ok (.invokevirtual 358, 3) := by decide +kernel
theorem dX12_digest_65 : decode cX12_digest 65 = .ok (.iconst 0, 1) := by decide +kernel
theorem dX12_digest_66 : decode cX12_digest 66 = .ok (.istore_n 2, 1) := by decide +kernel
theorem dX12_digest_67 : decode cX12_digest 67 = .ok (.iload_n 2, 1) := by decide +kernel
theorem dX12_digest_68 : decode cX12_digest 68 = .ok (.aload_n 0, 1) := by decide +kernel
theorem dX12_digest_69 : decode cX12_digest 69 = .ok (.getfield 17, 3) := by decide +kernel
theorem dX12_digest_72 : decode cX12_digest 72 = .ok (.iload_n 1, 1) := by decide +kernel
theorem dX12_digest_73 : decode cX12_digest 73 = .ok (.iaload, 1) := by decide +kernel
theorem dX12_digest_74 : decode cX12_digest 74 = .ok (.if_icmp .ge 19, 3) := by decide +kernel
theorem dX12_digest_77 : decode cX12_digest 77 = .ok (.aload_n 0, 1) := by decide +kernel
theorem dX12_digest_78 : decode cX12_digest 78 = .ok (.aload_n 0, 1) := by decide +kernel
theorem dX12_digest_79 : decode cX12_digest 79 = .ok (.iload_n 1, 1) := by decide +kernel
theorem dX12_digest_80 : decode cX12_digest 80 = .ok (.iload_n 2, 1) := by decide +kernel
theorem dX12_digest_81 : decode cX12_digest 81 = .ok (.invokevirtual 110, 3) := by decide +kernel
theorem dX12_digest_84 : decode cX12_digest 84 = .ok (.invokevirtual 358, 3) := by decide +kernel
theorem dX12_digest_87 : decode cX12_digest 87 = .ok (.iinc 2 1, 3) := by decide +kernel
theorem dX12_digest_90 : decode cX12_digest 90 = .ok (.goto (-23), 3) := by decide +kernel
theorem dX12_digest_93 : decode cX12_digest 93 = .ok (.iinc 1 1, 3) := by decide +kernel
theorem dX12_digest_96 : decode cX12_digest 96 = .ok (.goto (-60), 3) := by decide +kernel
theorem dX12_digest_99 : decode cX12_digest 99 = .ok (.iconst 0, 1) := by decide +kernel
theorem dX12_digest_100 : decode cX12_digest 100 = .ok (.istore_n 1, 1) := by decide +kernel
theorem dX12_digest_101 : decode cX12_digest 101 = .ok (.iload_n 1, 1) := by decide +kernel
theorem dX12_digest_102 : decode cX12_digest 102 = .ok (.iconst 4, 1) := by decide +kernel
theorem dX12_digest_103 : decode cX12_digest 103 = .ok (.if_icmp .ge 65, 3) := by decide +kernel
theorem dX12_digest_106 : decode cX12_digest 106 = .ok (.aload_n 0, 1) := by decide +kernel
theorem dX12_digest_107 : decode cX12_digest 107 = .ok (.aload_n 0, 1) := by decide +kernel
theorem dX12_digest_108 : decode cX12_digest 108 = .ok (.getfield 26, 3) := by decide +kernel
theorem dX12_digest_111 : decode cX12_digest 111 = .ok (.iload_n 1, 1) := by decide +kernel
theorem dX12_digest_112 : decode cX12_digest 112 = .ok (.iaload, 1) := by decide +kernel
theorem dX12_digest_113 : decode cX12_digest 113 = .ok (.ifCond .ge 7, 3) := by decide +kernel
theorem dX12_digest_116 : decode cX12_digest 116 = .ok (.iconst (-1), 1) := by decide +kernel
theorem dX12_digest_117 : decode cX12_digest 117 = .ok (.goto 9, 3) := by decide +kernel
theorem dX12_digest_120 : decode cX12_digest 120 = .ok (.aload_n 0, 1) := by decide +kernel
theorem dX12_digest_121 : decode cX12_digest 121 = .ok (.getfield 26, 3) := by decide +kernel
theorem dX12_digest_124 : decode cX12_digest 124 = .ok (.iload_n 1, 1) := by decide +kernel
theorem dX12_digest_125 : decode cX12_digest 125 = .ok (.iaload, 1) := by decide +kernel
theorem dX12_digest_126 : decode cX12_digest 126 = .ok (.invokevirtual 358, 3) := by decide +kernel
theorem dX12_digest_129 : decode cX12_digest 129 = .ok (.iconst 0, 1) := by decide +kernel
theorem dX12_digest_130 : decode cX12_digest 130 = .ok (.istore_n 2, 1) := by decide +kernel
theorem dX12_digest_131 : decode cX12_digest 131 = .ok (.iload_n 2, 1) := by decide +kernel
theorem dX12_digest_132 : decode cX12_digest 132 = .ok (.aload_n 0, 1) := by decide +kernel
theorem dX12_digest_133 : decode cX12_digest 133 = .ok (.getfield 26, 3) := by decide +kernel
theorem dX12_digest_136 : decode cX12_digest 136 = .ok (.iload_n 1, 1) := by decide +kernel
theorem dX12_digest_137 : decode cX12_digest 137 = .ok (.iaload, 1) := by decide +kernel
theorem dX12_digest_138 : decode cX12_digest 138 = .ok (.if_icmp .ge 24, 3) := by decide +kernel
theorem dX12_digest_141 : decode cX12_digest 141 = .ok (.aload_n 0, 1) := by decide +kernel
theorem dX12_digest_142 : decode cX12_digest 142 = .ok (.aload_n 0, 1) := by decide +kernel
theorem dX12_digest_143 : decode cX12_digest 143 = .ok (.getfield 29, 3) := by decide +kernel
theorem dX12_digest_146 : decode cX12_digest 146 = .ok (.bipush 100, 2) := by decide +kernel
theorem dX12_digest_148 : decode cX12_digest 148 = .ok (.iload_n 1, 1) := by decide +kernel
theorem dX12_digest_149 : decode cX12_digest 149 = .ok (.imul, 1) := by decide +kernel
theorem dX12_digest_150 : decode cX12_digest 150 = .ok (.iload_n 2, 1) := by decide +kernel
theorem dX12_digest_151 : decode cX12_digest 151 = .ok (.iadd, 1) := by decide +kernel
theorem dX12_digest_152 : decode cX12_digest 152 = .ok (.iaload, 1) := by decide +kernel
theorem dX12_digest_153 : decode cX12_digest 153 = .ok (.invokevirtual 358, 3) := by decide +kernel
theorem dX12_digest_156 : decode cX12_digest 156 = .ok (.iinc 2 1, 3) := by decide +kernel
theorem dX12_digest_159 : decode cX12_digest 159 = .ok (.goto (-28), 3) := by decide +kernel
theorem dX12_digest_162 : decode cX12_digest 162 = .ok (.iinc 1 1, 3) := by decide +kernel
theorem dX12_digest_165 : decode cX12_digest 165 = .ok (.goto (-64), 3) := by decide +kernel
theorem dX12_digest_168 : decode cX12_digest 168 = .ok (.aload_n 0, 1) := by decide +kernel
theorem dX12_digest_169 : decode cX12_digest 169 = .ok (.getfield 355, 3) := by decide +kernel
theorem dX12_digest_172 : decode cX12_digest 172 = .ok (.lreturn, 1) := by decide +kernel
theorem dJ6_numberOfTrailingZeros_0f7a4_0 : decode cJ6_numberOfTrailingZeros_0f7a4 0 = .ok (.iload_n 0, 1) := by decide +kernel
theorem dJ6_numberOfTrailingZeros_0f7a4_1 : decode cJ6_numberOfTrailingZeros_0f7a4 1 = .ok (.iconst (-1), 1) := by decide +kernel
theorem dJ6_numberOfTrailingZeros_0f7a4_2 : decode cJ6_numberOfTrailingZeros_0f7a4 2 = .ok (.ixor, 1) := by decide +kernel
theorem dJ6_numberOfTrailingZeros_0f7a4_3 : decode cJ6_numberOfTrailingZeros_0f7a4 3 = .ok (.iload_n 0, 1) := by decide +kernel
theorem dJ6_numberOfTrailingZeros_0f7a4_4 : decode cJ6_numberOfTrailingZeros_0f7a4 4 = .ok (.iconst 1, 1) := by decide +kernel
theorem dJ6_numberOfTrailingZeros_0f7a4_5 : decode cJ6_numberOfTrailingZeros_0f7a4 5 = .ok (.isub, 1) := by decide +kernel
theorem dJ6_numberOfTrailingZeros_0f7a4_6 : decode cJ6_numberOfTrailingZeros_0f7a4 6 = .ok (.iand, 1) := by decide +kernel
theorem dJ6_numberOfTrailingZeros_0f7a4_7 : decode cJ6_numberOfTrailingZeros_0f7a4 7 = .ok (.istore_n 0, 1) := by decide +kernel
theorem dJ6_numberOfTrailingZeros_0f7a4_8 : decode cJ6_numberOfTrailingZeros_0f7a4 8 = .ok (.iload_n 0, 1) := by decide +kernel
theorem dJ6_numberOfTrailingZeros_0f7a4_9 : decode cJ6_numberOfTrailingZeros_0f7a4 9 = .ok (.ifCond .gt 8, 3) := by decide +kernel
theorem dJ6_numberOfTrailingZeros_0f7a4_12 : decode cJ6_numberOfTrailingZeros_0f7a4 12 = .ok (.iload_n 0, 1) := by decide +kernel
theorem dJ6_numberOfTrailingZeros_0f7a4_13 : decode cJ6_numberOfTrailingZeros_0f7a4 13 = .ok (.bipush 32, 2) := by decide +kernel
theorem dJ6_numberOfTrailingZeros_0f7a4_15 : decode cJ6_numberOfTrailingZeros_0f7a4 15 = .ok (.iand, 1) := by decide +kernel
theorem dJ6_numberOfTrailingZeros_0f7a4_16 : decode cJ6_numberOfTrailingZeros_0f7a4 16 = .ok (.ireturn, 1) := by decide +kernel
theorem dJ6_numberOfTrailingZeros_0f7a4_17 : decode cJ6_numberOfTrailingZeros_0f7a4 17 = .ok (.iconst 1, 1) := by decide +kernel
theorem dJ6_numberOfTrailingZeros_0f7a4_18 : decode cJ6_numberOfTrailingZeros_0f7a4 18 = .ok (.istore_n 1, 1) := by decide +kernel
theorem dJ6_numberOfTrailingZeros_0f7a4_19 : decode cJ6_numberOfTrailingZeros_0f7a4 19 = .ok (.iload_n 0, 1) := by decide +kernel
theorem dJ6_numberOfTrailingZeros_0f7a4_20 : decode cJ6_numberOfTrailingZeros_0f7a4 20 = .ok (.ldc_w 264, 3) := by decide +kernel
theorem dJ6_numberOfTrailingZeros_0f7a4_23 : decode cJ6_numberOfTrailingZeros_0f7a4 23 = .ok (.if_icmp .le 11, 3) := by decide +kernel
theorem dJ6_numberOfTrailingZeros_0f7a4_26 : decode cJ6_numberOfTrailingZeros_0f7a4 26 = .ok (.iinc 1 16, 3) := by decide +kernel
theorem dJ6_numberOfTrailingZeros_0f7a4_29 : decode cJ6_numberOfTrailingZeros_0f7a4 29 = .ok (.iload_n 0, 1) := by decide +kernel
theorem dJ6_numberOfTrailingZeros_0f7a4_30 : decode cJ6_numberOfTrailingZeros_0f7a4 30 = .ok (.bipush 16, 2) := by decide +kernel
theorem dJ6_numberOfTrailingZeros_0f7a4_32 : decode cJ6_numberOfTrailingZeros_0f7a4 32 = .ok (.iushr, 1) := by decide +kernel
theorem dJ6_numberOfTrailingZeros_0f7a4_33 : decode cJ6_numberOfTrailingZeros_0f7a4 33 = .ok (.istore_n 0, 1) := by decide +kernel
theorem dJ6_numberOfTrailingZeros_0f7a4_34 : decode cJ6_numberOfTrailingZeros_0f7a4 34 = .ok (.iload_n 0, 1) := by decide +kernel
theorem dJ6_numberOfTrailingZeros_0f7a4_35 : decode cJ6_numberOfTrailingZeros_0f7a4 35 = .ok (.sipush 256, 3) := by decide +kernel
theorem dJ6_numberOfTrailingZeros_0f7a4_38 : decode cJ6_numberOfTrailingZeros_0f7a4 38 = .ok (.if_icmp .le 11, 3) := by decide +kernel
theorem dJ6_numberOfTrailingZeros_0f7a4_41 : decode cJ6_numberOfTrailingZeros_0f7a4 41 = .ok (.iinc 1 8, 3) := by decide +kernel
theorem dJ6_numberOfTrailingZeros_0f7a4_44 : decode cJ6_numberOfTrailingZeros_0f7a4 44 = .ok (.iload_n 0, 1) := by decide +kernel
theorem dJ6_numberOfTrailingZeros_0f7a4_45 : decode cJ6_numberOfTrailingZeros_0f7a4 45 = .ok (.bipush 8, 2) := by decide +kernel
theorem dJ6_numberOfTrailingZeros_0f7a4_47 : decode cJ6_numberOfTrailingZeros_0f7a4 47 = .ok (.iushr, 1) := by decide +kernel
theorem dJ6_numberOfTrailingZeros_0f7a4_48 : decode cJ6_numberOfTrailingZeros_0f7a4 48 = .ok (.istore_n 0, 1) := by decide +kernel
theorem dJ6_numberOfTrailingZeros_0f7a4_49 : decode cJ6_numberOfTrailingZeros_0f7a4 49 = .ok (.iload_n 0, 1) := by decide +kernel
theorem dJ6_numberOfTrailingZeros_0f7a4_50 : decode cJ6_numberOfTrailingZeros_0f7a4 50 = .ok (.bipush 16, 2) := by decide +kernel
theorem dJ6_numberOfTrailingZeros_0f7a4_52 : decode cJ6_numberOfTrailingZeros_0f7a4 52 = .ok (.if_icmp .le 10, 3) := by decide +kernel
theorem dJ6_numberOfTrailingZeros_0f7a4_55 : decode cJ6_numberOfTrailingZeros_0f7a4 55 = .ok (.iinc 1 4, 3) := by decide +kernel
theorem dJ6_numberOfTrailingZeros_0f7a4_58 : decode cJ6_numberOfTrailingZeros_0f7a4 58 = .ok (.iload_n 0, 1) := by decide +kernel
theorem dJ6_numberOfTrailingZeros_0f7a4_59 : decode cJ6_numberOfTrailingZeros_0f7a4 59 = .ok (.iconst 4, 1) := by decide +kernel
theorem dJ6_numberOfTrailingZeros_0f7a4_60 : decode cJ6_numberOfTrailingZeros_0f7a4 60 = .ok (.iushr, 1) := by decide +kernel
theorem dJ6_numberOfTrailingZeros_0f7a4_61 : decode cJ6_numberOfTrailingZeros_0f7a4 61 = .ok (.istore_n 0, 1) := by decide +kernel
theorem dJ6_numberOfTrailingZeros_0f7a4_62 : decode cJ6_numberOfTrailingZeros_0f7a4 62 = .ok (.iload_n 0, 1) := by decide +kernel
theorem dJ6_numberOfTrailingZeros_0f7a4_63 : decode cJ6_numberOfTrailingZeros_0f7a4 63 = .ok (.iconst 4, 1) := by decide +kernel
theorem dJ6_numberOfTrailingZeros_0f7a4_64 : decode cJ6_numberOfTrailingZeros_0f7a4 64 = .ok (.if_icmp .le 10, 3) := by decide +kernel
theorem dJ6_numberOfTrailingZeros_0f7a4_67 : decode cJ6_numberOfTrailingZeros_0f7a4 67 = .ok (.iinc 1 2, 3) := by decide +kernel
theorem dJ6_numberOfTrailingZeros_0f7a4_70 : decode cJ6_numberOfTrailingZeros_0f7a4 70 = .ok (.iload_n 0, 1) := by decide +kernel
theorem dJ6_numberOfTrailingZeros_0f7a4_71 : decode cJ6_numberOfTrailingZeros_0f7a4 71 = .ok (.iconst 2, 1) := by decide +kernel
theorem dJ6_numberOfTrailingZeros_0f7a4_72 : decode cJ6_numberOfTrailingZeros_0f7a4 72 = .ok (.iushr, 1) := by decide +kernel
theorem dJ6_numberOfTrailingZeros_0f7a4_73 : decode cJ6_numberOfTrailingZeros_0f7a4 73 = .ok (.istore_n 0, 1) := by decide +kernel
theorem dJ6_numberOfTrailingZeros_0f7a4_74 : decode cJ6_numberOfTrailingZeros_0f7a4 74 = .ok (.iload_n 1, 1) := by decide +kernel
theorem dJ6_numberOfTrailingZeros_0f7a4_75 : decode cJ6_numberOfTrailingZeros_0f7a4 75 = .ok (.iload_n 0, 1) := by decide +kernel
theorem dJ6_numberOfTrailingZeros_0f7a4_76 : decode cJ6_numberOfTrailingZeros_0f7a4 76 = .ok (.iconst 1, 1) := by decide +kernel
theorem dJ6_numberOfTrailingZeros_0f7a4_77 : decode cJ6_numberOfTrailingZeros_0f7a4 77 = .ok (.iushr, 1) := by decide +kernel
theorem dJ6_numberOfTrailingZeros_0f7a4_78 : decode cJ6_numberOfTrailingZeros_0f7a4 78 = .ok (.iadd, 1) := by decide +kernel
theorem dJ6_numberOfTrailingZeros_0f7a4_79 : decode cJ6_numberOfTrailingZeros_0f7a4 79 = .ok (.ireturn, 1) := by decide +kernel
theorem dJ6_bitCount_0f7a4_0 : decode cJ6_bitCount_0f7a4 0 = .ok (.iload_n 0, 1) := by decide +kernel
theorem dJ6_bitCount_0f7a4_1 : decode cJ6_bitCount_0f7a4 1 = .ok (.iload_n 0, 1) := by decide +kernel
theorem dJ6_bitCount_0f7a4_2 : decode cJ6_bitCount_0f7a4 2 = .ok (.iconst 1, 1) := by decide +kernel
theorem dJ6_bitCount_0f7a4_3 : decode cJ6_bitCount_0f7a4 3 = .ok (.iushr, 1) := by decide +kernel
theorem dJ6_bitCount_0f7a4_4 : decode cJ6_bitCount_0f7a4 4 = .ok (.ldc_w 265, 3) := by decide +kernel
theorem dJ6_bitCount_0f7a4_7 : decode cJ6_bitCount_0f7a4 7 = .ok (.iand, 1) := by decide +kernel
theorem dJ6_bitCount_0f7a4_8 : decode cJ6_bitCount_0f7a4 8 = .ok (.isub, 1) := by decide +kernel
theorem dJ6_bitCount_0f7a4_9 : decode cJ6_bitCount_0f7a4 9 = .ok (.istore_n 0, 1) := by decide +kernel
theorem dJ6_bitCount_0f7a4_10 : decode cJ6_bitCount_0f7a4 10 = .ok (.iload_n 0, 1) := by decide +kernel
theorem dJ6_bitCount_0f7a4_11 : decode cJ6_bitCount_0f7a4 11 = .ok (.ldc_w 266, 3) := by decide +kernel
theorem dJ6_bitCount_0f7a4_14 : decode cJ6_bitCount_0f7a4 14 = .ok (.iand, 1) := by decide +kernel
theorem dJ6_bitCount_0f7a4_15 : decode cJ6_bitCount_0f7a4 15 = .ok (.iload_n 0, 1) := by decide +kernel
theorem dJ6_bitCount_0f7a4_16 : decode cJ6_bitCount_0f7a4 16 = .ok (.iconst 2, 1) := by decide +kernel
theorem dJ6_bitCount_0f7a4_17 : decode cJ6_bitCount_0f7a4 17 = .ok (.iushr, 1) := by decide +kernel
theorem dJ6_bitCount_0f7a4_18 : decode cJ6_bitCount_0f7a4 18 = .ok (.ldc_w 266, 3) := by decide +kernel
theorem dJ6_bitCount_0f7a4_21 : decode cJ6_bitCount_0f7a4 21 = .ok (.iand, 1) := by decide +kernel
theorem dJ6_bitCount_0f7a4_22 : decode cJ6_bitCount_0f7a4 22 = .ok (.iadd, 1) := by decide +kernel
theorem dJ6_bitCount_0f7a4_23 : decode cJ6_bitCount_0f7a4 23 = .ok (.istore_n 0, 1) := by decide +kernel
theorem dJ6_bitCount_0f7a4_24 : decode cJ6_bitCount_0f7a4 24 = .ok (.iload_n 0, 1) := by decide +kernel
theorem dJ6_bitCount_0f7a4_25 : decode cJ6_bitCount_0f7a4 25 = .ok (.iload_n 0, 1) := by decide +kernel
theorem dJ6_bitCount_0f7a4_26 : decode cJ6_bitCount_0f7a4 26 = .ok (.iconst 4, 1) := by decide +kernel
theorem dJ6_bitCount_0f7a4_27 : decode cJ6_bitCount_0f7a4 27 = .ok (.iushr, 1) := by decide +kernel
theorem dJ6_bitCount_0f7a4_28 : decode cJ6_bitCount_0f7a4 28 = .ok (.iadd, 1) := by decide +kernel
theorem dJ6_bitCount_0f7a4_29 : decode cJ6_bitCount_0f7a4 29 = .ok (.ldc_w 267, 3) := by decide +kernel
theorem dJ6_bitCount_0f7a4_32 : decode cJ6_bitCount_0f7a4 32 = .ok (.iand, 1) := by decide +kernel
theorem dJ6_bitCount_0f7a4_33 : decode cJ6_bitCount_0f7a4 33 = .ok (.istore_n 0, 1) := by decide +kernel
theorem dJ6_bitCount_0f7a4_34 : decode cJ6_bitCount_0f7a4 34 = .ok (.iload_n 0, 1) := by decide +kernel
theorem dJ6_bitCount_0f7a4_35 : decode cJ6_bitCount_0f7a4 35 = .ok (.iload_n 0, 1) := by decide +kernel
theorem dJ6_bitCount_0f7a4_36 : decode cJ6_bitCount_0f7a4 36 = .ok (.bipush 8, 2) := by decide +kernel
theorem dJ6_bitCount_0f7a4_38 : decode cJ6_bitCount_0f7a4 38 = .ok (.iushr, 1) := by decide +kernel
theorem dJ6_bitCount_0f7a4_39 : decode cJ6_bitCount_0f7a4 39 = .ok (.iadd, 1) := by decide +kernel
theorem dJ6_bitCount_0f7a4_40 : decode cJ6_bitCount_0f7a4 40 = .ok (.istore_n 0, 1) := by decide +kernel
theorem dJ6_bitCount_0f7a4_41 : decode cJ6_bitCount_0f7a4 41 = .ok (.iload_n 0, 1) := by decide +kernel
theorem dJ6_bitCount_0f7a4_42 : decode cJ6_bitCount_0f7a4 42 = .ok (.iload_n 0, 1) := by decide +kernel
theorem dJ6_bitCount_0f7a4_43 : decode cJ6_bitCount_0f7a4 43 = .ok (.bipush 16, 2) := by decide +kernel
theorem dJ6_bitCount_0f7a4_45 : decode cJ6_bitCount_0f7a4 45 = .ok (.iushr, 1) := by decide +kernel
theorem dJ6_bitCount_0f7a4_46 : decode cJ6_bitCount_0f7a4 46 = .ok (.iadd, 1) := by decide +kernel
theorem dJ6_bitCount_0f7a4_47 : decode cJ6_bitCount_0f7a4 47 = .ok (.istore_n 0, 1) := by decide +kernel
theorem dJ6_bitCount_0f7a4_48 : decode cJ6_bitCount_0f7a4 48 = .ok (.iload_n 0, 1) := by decide +kernel
theorem dJ6_bitCount_0f7a4_49 : decode cJ6_bitCount_0f7a4 49 = .ok (.bipush 63, 2) := by decide +kernel
theorem dJ6_bitCount_0f7a4_51 : decode cJ6_bitCount_0f7a4 51 = .ok (.iand, 1) := by decide +kernel
theorem dJ6_bitCount_0f7a4_52 : decode cJ6_bitCount_0f7a4 52 = .ok (.ireturn, 1) := by decide +kernel
theorem dJ9_abs_0f7a4_0 : decode cJ9_abs_0f7a4 0 = .ok (.iload_n 0, 1) := by decide +kernel
theorem dJ9_abs_0f7a4_1 : decode cJ9_abs_0f7a4 1 = .ok (.ifCond .ge 8, 3) := by decide +kernel
theorem dJ9_abs_0f7a4_4 : decode cJ9_abs_0f7a4 4 = .ok (.iload_n 0, 1) := by decide +kernel
theorem dJ9_abs_0f7a4_5 : decode cJ9_abs_0f7a4 5 = .ok (.ineg, 1) := by decide +kernel
theorem dJ9_abs_0f7a4_6 : decode cJ9_abs_0f7a4 6 = .ok (.goto 4, 3) := by decide +kernel
theorem dJ9_abs_0f7a4_9 : decode cJ9_abs_0f7a4 9 = .ok (.iload_n 0, 1) := by decide +kernel
theorem dJ9_abs_0f7a4_10 : decode cJ9_abs_0f7a4 10 = .ok (.ireturn, 1) := by decide +kernel
theorem dJ9_max_7cf53_0 : decode cJ9_max_7cf53 0 = .ok (.iload_n 0, 1) := by decide +kernel
theorem dJ9_max_7cf53_1 : decode cJ9_max_7cf53 1 = .ok (.iload_n 1, 1) := by decide +kernel
theorem dJ9_max_7cf53_2 : decode cJ9_max_7cf53 2 = .ok (.if_icmp .lt 7, 3) := by decide +kernel
theorem dJ9_max_7cf53_5 : decode cJ9_max_7cf53 5 = .ok (.iload_n 0, 1) := by decide +kernel
theorem dJ9_max_7cf53_6 : decode cJ9_max_7cf53 6 = .ok (.goto 4, 3) := by decide +kernel
theorem dJ9_max_7cf53_9 : decode cJ9_max_7cf53 9 = .ok (.iload_n 1, 1) := by decide +kernel
theorem dJ9_max_7cf53_10 : decode cJ9_max_7cf53 10 = .ok (.ireturn, 1) := by decide +kernel
theorem dJ9_min_7cf53_0 : decode cJ9_min_7cf53 0 = .ok (.iload_n 0, 1) := by decide +kernel
theorem dJ9_min_7cf53_1 : decode cJ9_min_7cf53 1 = .ok (.iload_n 1, 1) := by decide +kernel
theorem dJ9_min_7cf53_2 : decode cJ9_min_7cf53 2 = .ok (.if_icmp .gt 7, 3) := by decide +kernel
theorem dJ9_min_7cf53_5 : decode cJ9_min_7cf53 5 = .ok (.iload_n 0, 1) := by decide +kernel
theorem dJ9_min_7cf53_6 : decode cJ9_min_7cf53 6 = .ok (.goto 4, 3) := by decide +kernel
theorem dJ9_min_7cf53_9 : decode cJ9_min_7cf53 9 = .ok (.iload_n 1, 1) := by decide +kernel
theorem dJ9_min_7cf53_10 : decode cJ9_min_7cf53 10 = .ok (.ireturn, 1) := by decide +kernel
theorem dL_law_0 : decode cL_law 0 = .ok (.new 7, 3) := by decide +kernel
theorem dL_law_3 : decode cL_law 3 = .ok (.dup, 1) := by decide +kernel
theorem dL_law_4 : decode cL_law 4 = .ok (.invokespecial 9, 3) := by decide +kernel
theorem dL_law_7 : decode cL_law 7 = .ok (.astore_n 1, 1) := by decide +kernel
theorem dL_law_8 : decode cL_law 8 = .ok (.new 10, 3) := by decide +kernel
theorem dL_law_11 : decode cL_law 11 = .ok (.dup, 1) := by decide +kernel
theorem dL_law_12 : decode cL_law 12 = .ok (.invokespecial 12, 3) := by decide +kernel
theorem dL_law_15 : decode cL_law 15 = .ok (.astore_n 2, 1) := by decide +kernel
theorem dL_law_16 : decode cL_law 16 = .ok (.iconst 0, 1) := by decide +kernel
theorem dL_law_17 : decode cL_law 17 = .ok (.istore_n 3, 1) := by decide +kernel
theorem dL_law_18 : decode cL_law 18 = .ok (.iload_n 3, 1) := by decide +kernel
theorem dL_law_19 : decode cL_law 19 = .ok (.aload_n 0, 1) := by decide +kernel
theorem dL_law_20 : decode cL_law 20 = .ok (.arraylength, 1) := by decide +kernel
theorem dL_law_21 : decode cL_law 21 = .ok (.bipush 6, 2) := by decide +kernel
theorem dL_law_23 : decode cL_law 23 = .ok (.isub, 1) := by decide +kernel
theorem dL_law_24 : decode cL_law 24 = .ok (.if_icmp .gt 1610, 3) := by decide +kernel
theorem dL_law_27 : decode cL_law 27 = .ok (.aload_n 0, 1) := by decide +kernel
theorem dL_law_28 : decode cL_law 28 = .ok (.iload_n 3, 1) := by decide +kernel
theorem dL_law_29 : decode cL_law 29 = .ok (.iaload, 1) := by decide +kernel
theorem dL_law_30 : decode cL_law 30 = .ok (.bipush 63, 2) := by decide +kernel
theorem dL_law_32 : decode cL_law 32 = .ok (.iand, 1) := by decide +kernel
theorem dL_law_33 : decode cL_law 33 = .ok (.tableswitch 1595 0 50 #[219, 252, 295, 328, 351, 414, 437, 470, 513, 536, 559, 592, 625, 648, 671, 694, 727, 760, 773, 806, 819, 832, 855, 878, 901, 924, 957, 1000, 1033, 1056, 1089, 1112, 1135, 1168, 1191, 1214, 1237, 1270, 1313, 1356, 1389, 1412, 1435, 1458, 1481, 1494, 1508, 1522, 1545, 1558, 1581], 219) := by decide +kernel
theorem dL_law_252 : decode cL_law 252 = .ok (.aload_n 1, 1) := by decide +kernel
theorem dL_law_253 : decode cL_law 253 = .ok (.aload_n 0, 1) := by decide +kernel
theorem dL_law_254 : decode cL_law 254 = .ok (.iload_n 3, 1) := by decide +kernel
theorem dL_law_255 : decode cL_law 255 = .ok (.iconst 1, 1) := by decide +kernel
theorem dL_law_256 : decode cL_law 256 = .ok (.iadd, 1) := by decide +kernel
theorem dL_law_257 : decode cL_law 257 = .ok (.iaload, 1) := by decide +kernel
theorem dL_law_258 : decode cL_law 258 = .ok (.aload_n 0, 1) := by decide +kernel
theorem dL_law_259 : decode cL_law 259 = .ok (.iload_n 3, 1) := by decide +kernel
theorem dL_law_260 : decode cL_law 260 = .ok (.iconst 2, 1) := by decide +kernel
theorem dL_law_261 : decode cL_law 261 = .ok (.iadd, 1) := by decide +kernel
theorem dL_law_262 : decode cL_law 262 = .ok (.iaload, 1) := by decide +kernel
theorem dL_law_263 : decode cL_law 263 = .ok (.invokevirtual 13, 3) := by decide +kernel
theorem dL_law_266 : decode cL_law 266 = .ok (.aload_n 2, 1) := by decide +kernel
theorem dL_law_267 : decode cL_law 267 = .ok (.aload_n 0, 1) := by decide +kernel
theorem dL_law_268 : decode cL_law 268 = .ok (.iload_n 3, 1) := by decide +kernel
theorem dL_law_269 : decode cL_law 269 = .ok (.iconst 1, 1) := by decide +kernel
theorem dL_law_270 : decode cL_law 270 = .ok (.iadd, 1) := by decide +kernel
theorem dL_law_271 : decode cL_law 271 = .ok (.iaload, 1) := by decide +kernel
theorem dL_law_272 : decode cL_law 272 = .ok (.aload_n 0, 1) := by decide +kernel
theorem dL_law_273 : decode cL_law 273 = .ok (.iload_n 3, 1) := by decide +kernel
theorem dL_law_274 : decode cL_law 274 = .ok (.iconst 2, 1) := by decide +kernel
theorem dL_law_275 : decode cL_law 275 = .ok (.iadd, 1) := by decide +kernel
theorem dL_law_276 : decode cL_law 276 = .ok (.iaload, 1) := by decide +kernel
theorem dL_law_277 : decode cL_law 277 = .ok (.invokevirtual 17, 3) := by decide +kernel
theorem dL_law_280 : decode cL_law 280 = .ok (.if_icmp .eq 1348, 3) := by decide +kernel
theorem dL_law_283 : decode cL_law 283 = .ok (.iconst 0, 1) := by decide +kernel
theorem dL_law_284 : decode cL_law 284 = .ok (.ireturn, 1) := by decide +kernel
theorem dL_law_285 : decode cL_law 285 = .ok (.aload_n 1, 1) := by decide +kernel
theorem dL_law_286 : decode cL_law 286 = .ok (.aload_n 0, 1) := by decide +kernel
theorem dL_law_287 : decode cL_law 287 = .ok (.iload_n 3, 1) := by decide +kernel
theorem dL_law_288 : decode cL_law 288 = .ok (.iconst 1, 1) := by decide +kernel
theorem dL_law_289 : decode cL_law 289 = .ok (.iadd, 1) := by decide +kernel
theorem dL_law_290 : decode cL_law 290 = .ok (.iaload, 1) := by decide +kernel
theorem dL_law_291 : decode cL_law 291 = .ok (.aload_n 0, 1) := by decide +kernel
theorem dL_law_292 : decode cL_law 292 = .ok (.iload_n 3, 1) := by decide +kernel
theorem dL_law_293 : decode cL_law 293 = .ok (.iconst 2, 1) := by decide +kernel
theorem dL_law_294 : decode cL_law 294 = .ok (.iadd, 1) := by decide +kernel
theorem dL_law_295 : decode cL_law 295 = .ok (.iaload, 1) := by decide +kernel
theorem dL_law_296 : decode cL_law 296 = .ok (.aload_n 0, 1) := by decide +kernel
theorem dL_law_297 : decode cL_law 297 = .ok (.iload_n 3, 1) := by decide +kernel
theorem dL_law_298 : decode cL_law 298 = .ok (.iconst 3, 1) := by decide +kernel
theorem dL_law_299 : decode cL_law 299 = .ok (.iadd, 1) := by decide +kernel
theorem dL_law_300 : decode cL_law 300 = .ok (.iaload, 1) := by decide +kernel
theorem dL_law_301 : decode cL_law 301 = .ok (.invokevirtual 18, 3) := by decide +kernel
theorem dL_law_304 : decode cL_law 304 = .ok (.aload_n 2, 1) := by decide +kernel
theorem dL_law_305 : decode cL_law 305 = .ok (.aload_n 0, 1) := by decide +kernel
theorem dL_law_306 : decode cL_law 306 = .ok (.iload_n 3, 1) := by decide +kernel
theorem dL_law_307 : decode cL_law 307 = .ok (.iconst 1, 1) := by decide +kernel
theorem dL_law_308 : decode cL_law 308 = .ok (.iadd, 1) := by decide +kernel
theorem dL_law_309 : decode cL_law 309 = .ok (.iaload, 1) := by decide +kernel
theorem dL_law_310 : decode cL_law 310 = .ok (.aload_n 0, 1) := by decide +kernel
theorem dL_law_311 : decode cL_law 311 = .ok (.iload_n 3, 1) := by decide +kernel
theorem dL_law_312 : decode cL_law 312 = .ok (.iconst 2, 1) := by decide +kernel
theorem dL_law_313 : decode cL_law 313 = .ok (.iadd, 1) := by decide +kernel
theorem dL_law_314 : decode cL_law 314 = .ok (.iaload, 1) := by decide +kernel
theorem dL_law_315 : decode cL_law 315 = .ok (.aload_n 0, 1) := by decide +kernel
theorem dL_law_316 : decode cL_law 316 = .ok (.iload_n 3, 1) := by decide +kernel
theorem dL_law_317 : decode cL_law 317 = .ok (.iconst 3, 1) := by decide +kernel
theorem dL_law_318 : decode cL_law 318 = .ok (.iadd, 1) := by decide +kernel
theorem dL_law_319 : decode cL_law 319 = .ok (.iaload, 1) := by decide +kernel
theorem dL_law_320 : decode cL_law 320 = .ok (.invokevirtual 22, 3) := by decide +kernel
theorem dL_law_323 : decode cL_law 323 = .ok (.if_icmp .eq 1305, 3) := by decide +kernel
theorem dL_law_326 : decode cL_law 326 = .ok (.iconst 0, 1) := by decide +kernel
theorem dL_law_327 : decode cL_law 327 = .ok (.ireturn, 1) := by decide +kernel
theorem dL_law_328 : decode cL_law 328 = .ok (.aload_n 1, 1) := by decide +kernel
theorem dL_law_329 : decode cL_law 329 = .ok (.aload_n 0, 1) := by decide +kernel
theorem dL_law_330 : decode cL_law 330 = .ok (.iload_n 3, 1) := by decide +kernel
theorem dL_law_331 : decode cL_law 331 = .ok (.iconst 1, 1) := by decide +kernel
theorem dL_law_332 : decode cL_law 332 = .ok (.iadd, 1) := by decide +kernel
theorem dL_law_333 : decode cL_law 333 = .ok (.iaload, 1) := by decide +kernel
theorem dL_law_334 : decode cL_law 334 = .ok (.aload_n 0, 1) := by decide +kernel
theorem dL_law_335 : decode cL_law 335 = .ok (.iload_n 3, 1) := by decide +kernel
theorem dL_law_336 : decode cL_law 336 = .ok (.iconst 2, 1) := by decide +kernel
theorem dL_law_337 : decode cL_law 337 = .ok (.iadd, 1) := by decide +kernel
theorem dL_law_338 : decode cL_law 338 = .ok (.iaload, 1) := by decide +kernel
theorem dL_law_339 : decode cL_law 339 = .ok (.invokevirtual 23, 3) := by decide +kernel
theorem dL_law_342 : decode cL_law 342 = .ok (.aload_n 2, 1) := by decide +kernel
theorem dL_law_343 : decode cL_law 343 = .ok (.aload_n 0, 1) := by decide +kernel
theorem dL_law_344 : decode cL_law 344 = .ok (.iload_n 3, 1) := by decide +kernel
theorem dL_law_345 : decode cL_law 345 = .ok (.iconst 1, 1) := by decide +kernel
theorem dL_law_346 : decode cL_law 346 = .ok (.iadd, 1) := by decide +kernel
theorem dL_law_347 : decode cL_law 347 = .ok (.iaload, 1) := by decide +kernel
theorem dL_law_348 : decode cL_law 348 = .ok (.aload_n 0, 1) := by decide +kernel
theorem dL_law_349 : decode cL_law 349 = .ok (.iload_n 3, 1) := by decide +kernel
theorem dL_law_350 : decode cL_law 350 = .ok (.iconst 2, 1) := by decide +kernel
theorem dL_law_351 : decode cL_law 351 = .ok (.iadd, 1) := by decide +kernel
theorem dL_law_352 : decode cL_law 352 = .ok (.iaload, 1) := by decide +kernel
theorem dL_law_353 : decode cL_law 353 = .ok (.invokevirtual 26, 3) := by decide +kernel
theorem dL_law_356 : decode cL_law 356 = .ok (.if_icmp .eq 1272, 3) := by decide +kernel
theorem dL_law_359 : decode cL_law 359 = .ok (.iconst 0, 1) := by decide +kernel
theorem dL_law_360 : decode cL_law 360 = .ok (.ireturn, 1) := by decide +kernel
theorem dL_law_361 : decode cL_law 361 = .ok (.aload_n 1, 1) := by decide +kernel
theorem dL_law_362 : decode cL_law 362 = .ok (.aload_n 0, 1) := by decide +kernel
theorem dL_law_363 : decode cL_law 363 = .ok (.iload_n 3, 1) := by decide +kernel
theorem dL_law_364 : decode cL_law 364 = .ok (.iconst 1, 1) := by decide +kernel
theorem dL_law_365 : decode cL_law 365 = .ok (.iadd, 1) := by decide +kernel
theorem dL_law_366 : decode cL_law 366 = .ok (.iaload, 1) := by decide +kernel
theorem dL_law_367 : decode cL_law 367 = .ok (.invokevirtual 27, 3) := by decide +kernel
theorem dL_law_370 : decode cL_law 370 = .ok (.aload_n 2, 1) := by decide +kernel
theorem dL_law_371 : decode cL_law 371 = .ok (.aload_n 0, 1) := by decide +kernel
theorem dL_law_372 : decode cL_law 372 = .ok (.iload_n 3, 1) := by decide +kernel
theorem dL_law_373 : decode cL_law 373 = .ok (.iconst 1, 1) := by decide +kernel
theorem dL_law_374 : decode cL_law 374 = .ok (.iadd, 1) := by decide +kernel
theorem dL_law_375 : decode cL_law 375 = .ok (.iaload, 1) := by decide +kernel
theorem dL_law_376 : decode cL_law 376 = .ok (.invokevirtual 31, 3) := by decide +kernel
theorem dL_law_379 : decode cL_law 379 = .ok (.if_icmp .eq 1249, 3) := by decide +kernel
theorem dL_law_382 : decode cL_law 382 = .ok (.iconst 0, 1) := by decide +kernel
theorem dL_law_383 : decode cL_law 383 = .ok (.ireturn, 1) := by decide +kernel
theorem dL_law_384 : decode cL_law 384 = .ok (.aload_n 1, 1) := by decide +kernel
theorem dL_law_385 : decode cL_law 385 = .ok (.aload_n 0, 1) := by decide +kernel
theorem dL_law_386 : decode cL_law 386 = .ok (.iload_n 3, 1) := by decide +kernel
theorem dL_law_387 : decode cL_law 387 = .ok (.iconst 1, 1) := by decide +kernel
theorem dL_law_388 : decode cL_law 388 = .ok (.iadd, 1) := by decide +kernel
theorem dL_law_389 : decode cL_law 389 = .ok (.iaload, 1) := by decide +kernel
theorem dL_law_390 : decode cL_law 390 = .ok (.aload_n 0, 1) := by decide +kernel
theorem dL_law_391 : decode cL_law 391 = .ok (.iload_n 3, 1) := by decide +kernel
theorem dL_law_392 : decode cL_law 392 = .ok (.iconst 2, 1) := by decide +kernel
theorem dL_law_393 : decode cL_law 393 = .ok (.iadd, 1) := by decide +kernel
theorem dL_law_394 : decode cL_law 394 = .ok (.iaload, 1) := by decide +kernel
theorem dL_law_395 : decode cL_law 395 = .ok (.aload_n 0, 1) := by decide +kernel
theorem dL_law_396 : decode cL_law 396 = .ok (.iload_n 3, 1) := by decide +kernel
theorem dL_law_397 : decode cL_law 397 = .ok (.iconst 3, 1) := by decide +kernel
theorem dL_law_398 : decode cL_law 398 = .ok (.iadd, 1) := by decide +kernel
theorem dL_law_399 : decode cL_law 399 = .ok (.iaload, 1) := by decide +kernel
theorem dL_law_400 : decode cL_law 400 = .ok (.aload_n 0, 1) := by decide +kernel
theorem dL_law_401 : decode cL_law 401 = .ok (.iload_n 3, 1) := by decide +kernel
theorem dL_law_402 : decode cL_law 402 = .ok (.iconst 4, 1) := by decide +kernel
theorem dL_law_403 : decode cL_law 403 = .ok (.iadd, 1) := by decide +kernel
theorem dL_law_404 : decode cL_law 404 = .ok (.iaload, 1) := by decide +kernel
theorem dL_law_405 : decode cL_law 405 = .ok (.aload_n 0, 1) := by decide +kernel
theorem dL_law_406 : decode cL_law 406 = .ok (.iload_n 3, 1) := by decide +kernel
theorem dL_law_407 : decode cL_law 407 = .ok (.iconst 5, 1) := by decide +kernel
theorem dL_law_408 : decode cL_law 408 = .ok (.iadd, 1) := by decide +kernel
theorem dL_law_409 : decode cL_law 409 = .ok (.iaload, 1) := by decide +kernel
theorem dL_law_410 : decode cL_law 410 = .ok (.invokevirtual 32, 3) := by decide +kernel
theorem dL_law_413 : decode cL_law 413 = .ok (.aload_n 2, 1) := by decide +kernel
theorem dL_law_414 : decode cL_law 414 = .ok (.aload_n 0, 1) := by decide +kernel
theorem dL_law_415 : decode cL_law 415 = .ok (.iload_n 3, 1) := by decide +kernel
theorem dL_law_416 : decode cL_law 416 = .ok (.iconst 1, 1) := by decide +kernel
theorem dL_law_417 : decode cL_law 417 = .ok (.iadd, 1) := by decide +kernel
theorem dL_law_418 : decode cL_law 418 = .ok (.iaload, 1) := by decide +kernel
theorem dL_law_419 : decode cL_law 419 = .ok (.aload_n 0, 1) := by decide +kernel
theorem dL_law_420 : decode cL_law 420 = .ok (.iload_n 3, 1) := by decide +kernel
theorem dL_law_421 : decode cL_law 421 = .ok (.iconst 2, 1) := by decide +kernel
theorem dL_law_422 : decode cL_law 422 = .ok (.iadd, 1) := by decide +kernel
theorem dL_law_423 : decode cL_law 423 = .ok (.iaload, 1) := by decide +kernel
theorem dL_law_424 : decode cL_law 424 = .ok (.aload_n 0, 1) := by decide +kernel
theorem dL_law_425 : decode cL_law 425 = .ok (.iload_n 3, 1) := by decide +kernel
theorem dL_law_426 : decode cL_law 426 = .ok (.iconst 3, 1) := by decide +kernel
theorem dL_law_427 : decode cL_law 427 = .ok (.iadd, 1) := by decide +kernel
theorem dL_law_428 : decode cL_law 428 = .ok (.iaload, 1) := by decide +kernel
theorem dL_law_429 : decode cL_law 429 = .ok (.aload_n 0, 1) := by decide +kernel
theorem dL_law_430 : decode cL_law 430 = .ok (.iload_n 3, 1) := by decide +kernel
theorem dL_law_431 : decode cL_law 431 = .ok (.iconst 4, 1) := by decide +kernel
theorem dL_law_432 : decode cL_law 432 = .ok (.iadd, 1) := by decide +kernel
theorem dL_law_433 : decode cL_law 433 = .ok (.iaload, 1) := by decide +kernel
theorem dL_law_434 : decode cL_law 434 = .ok (.aload_n 0, 1) := by decide +kernel
theorem dL_law_435 : decode cL_law 435 = .ok (.iload_n 3, 1) := by decide +kernel
theorem dL_law_436 : decode cL_law 436 = .ok (.iconst 5, 1) := by decide +kernel
theorem dL_law_437 : decode cL_law 437 = .ok (.iadd, 1) := by decide +kernel
theorem dL_law_438 : decode cL_law 438 = .ok (.iaload, 1) := by decide +kernel
theorem dL_law_439 : decode cL_law 439 = .ok (.invokevirtual 36, 3) := by decide +kernel
theorem dL_law_442 : decode cL_law 442 = .ok (.if_icmp .eq 1186, 3) := by decide +kernel
theorem dL_law_445 : decode cL_law 445 = .ok (.iconst 0, 1) := by decide +kernel
theorem dL_law_446 : decode cL_law 446 = .ok (.ireturn, 1) := by decide +kernel
theorem dL_law_447 : decode cL_law 447 = .ok (.aload_n 1, 1) := by decide +kernel
theorem dL_law_448 : decode cL_law 448 = .ok (.aload_n 0, 1) := by decide +kernel
theorem dL_law_449 : decode cL_law 449 = .ok (.iload_n 3, 1) := by decide +kernel
theorem dL_law_450 : decode cL_law 450 = .ok (.iconst 1, 1) := by decide +kernel
theorem dL_law_451 : decode cL_law 451 = .ok (.iadd, 1) := by decide +kernel
theorem dL_law_452 : decode cL_law 452 = .ok (.iaload, 1) := by decide +kernel
theorem dL_law_453 : decode cL_law 453 = .ok (.invokevirtual 37, 3) := by decide +kernel
theorem dL_law_456 : decode cL_law 456 = .ok (.aload_n 2, 1) := by decide +kernel
theorem dL_law_457 : decode cL_law 457 = .ok (.aload_n 0, 1) := by decide +kernel
theorem dL_law_458 : decode cL_law 458 = .ok (.iload_n 3, 1) := by decide +kernel
theorem dL_law_459 : decode cL_law 459 = .ok (.iconst 1, 1) := by decide +kernel
theorem dL_law_460 : decode cL_law 460 = .ok (.iadd, 1) := by decide +kernel
theorem dL_law_461 : decode cL_law 461 = .ok (.iaload, 1) := by decide +kernel
theorem dL_law_462 : decode cL_law 462 = .ok (.invokevirtual 40, 3) := by decide +kernel
theorem dL_law_465 : decode cL_law 465 = .ok (.if_icmp .eq 1163, 3) := by decide +kernel
theorem dL_law_468 : decode cL_law 468 = .ok (.iconst 0, 1) := by decide +kernel
theorem dL_law_469 : decode cL_law 469 = .ok (.ireturn, 1) := by decide +kernel
theorem dL_law_470 : decode cL_law 470 = .ok (.aload_n 1, 1) := by decide +kernel
theorem dL_law_471 : decode cL_law 471 = .ok (.aload_n 0, 1) := by decide +kernel
theorem dL_law_472 : decode cL_law 472 = .ok (.iload_n 3, 1) := by decide +kernel
theorem dL_law_473 : decode cL_law 473 = .ok (.iconst 1, 1) := by decide +kernel
theorem dL_law_474 : decode cL_law 474 = .ok (.iadd, 1) := by decide +kernel
theorem dL_law_475 : decode cL_law 475 = .ok (.iaload, 1) := by decide +kernel
theorem dL_law_476 : decode cL_law 476 = .ok (.aload_n 0, 1) := by decide +kernel
theorem dL_law_477 : decode cL_law 477 = .ok (.iload_n 3, 1) := by decide +kernel
theorem dL_law_478 : decode cL_law 478 = .ok (.iconst 2, 1) := by decide +kernel
theorem dL_law_479 : decode cL_law 479 = .ok (.iadd, 1) := by decide +kernel
theorem dL_law_480 : decode cL_law 480 = .ok (.iaload, 1) := by decide +kernel
theorem dL_law_481 : decode cL_law 481 = .ok (.invokevirtual 41, 3) := by decide +kernel
theorem dL_law_484 : decode cL_law 484 = .ok (.aload_n 2, 1) := by decide +kernel
theorem dL_law_485 : decode cL_law 485 = .ok (.aload_n 0, 1) := by decide +kernel
theorem dL_law_486 : decode cL_law 486 = .ok (.iload_n 3, 1) := by decide +kernel
theorem dL_law_487 : decode cL_law 487 = .ok (.iconst 1, 1) := by decide +kernel
theorem dL_law_488 : decode cL_law 488 = .ok (.iadd, 1) := by decide +kernel
theorem dL_law_489 : decode cL_law 489 = .ok (.iaload, 1) := by decide +kernel
theorem dL_law_490 : decode cL_law 490 = .ok (.aload_n 0, 1) := by decide +kernel
theorem dL_law_491 : decode cL_law 491 = .ok (.iload_n 3, 1) := by decide +kernel
theorem dL_law_492 : decode cL_law 492 = .ok (.iconst 2, 1) := by decide +kernel
theorem dL_law_493 : decode cL_law 493 = .ok (.iadd, 1) := by decide +kernel
theorem dL_law_494 : decode cL_law 494 = .ok (.iaload, 1) := by decide +kernel
theorem dL_law_495 : decode cL_law 495 = .ok (.invokevirtual 44, 3) := by decide +kernel
theorem dL_law_498 : decode cL_law 498 = .ok (.if_icmp .eq 1130, 3) := by decide +kernel
theorem dL_law_501 : decode cL_law 501 = .ok (.iconst 0, 1) := by decide +kernel
theorem dL_law_502 : decode cL_law 502 = .ok (.ireturn, 1) := by decide +kernel
theorem dL_law_503 : decode cL_law 503 = .ok (.aload_n 1, 1) := by decide +kernel
theorem dL_law_504 : decode cL_law 504 = .ok (.aload_n 0, 1) := by decide +kernel
theorem dL_law_505 : decode cL_law 505 = .ok (.iload_n 3, 1) := by decide +kernel
theorem dL_law_506 : decode cL_law 506 = .ok (.iconst 1, 1) := by decide +kernel
theorem dL_law_507 : decode cL_law 507 = .ok (.iadd, 1) := by decide +kernel
theorem dL_law_508 : decode cL_law 508 = .ok (.iaload, 1) := by decide +kernel
theorem dL_law_509 : decode cL_law 509 = .ok (.aload_n 0, 1) := by decide +kernel
theorem dL_law_510 : decode cL_law 510 = .ok (.iload_n 3, 1) := by decide +kernel
theorem dL_law_511 : decode cL_law 511 = .ok (.iconst 2, 1) := by decide +kernel
theorem dL_law_512 : decode cL_law 512 = .ok (.iadd, 1) := by decide +kernel
theorem dL_law_513 : decode cL_law 513 = .ok (.iaload, 1) := by decide +kernel
theorem dL_law_514 : decode cL_law 514 = .ok (.aload_n 0, 1) := by decide +kernel
theorem dL_law_515 : decode cL_law 515 = .ok (.iload_n 3, 1) := by decide +kernel
theorem dL_law_516 : decode cL_law 516 = .ok (.iconst 3, 1) := by decide +kernel
theorem dL_law_517 : decode cL_law 517 = .ok (.iadd, 1) := by decide +kernel
theorem dL_law_518 : decode cL_law 518 = .ok (.iaload, 1) := by decide +kernel
theorem dL_law_519 : decode cL_law 519 = .ok (.invokevirtual 45, 3) := by decide +kernel
theorem dL_law_522 : decode cL_law 522 = .ok (.aload_n 2, 1) := by decide +kernel
theorem dL_law_523 : decode cL_law 523 = .ok (.aload_n 0, 1) := by decide +kernel
theorem dL_law_524 : decode cL_law 524 = .ok (.iload_n 3, 1) := by decide +kernel
theorem dL_law_525 : decode cL_law 525 = .ok (.iconst 1, 1) := by decide +kernel
theorem dL_law_526 : decode cL_law 526 = .ok (.iadd, 1) := by decide +kernel
theorem dL_law_527 : decode cL_law 527 = .ok (.iaload, 1) := by decide +kernel
theorem dL_law_528 : decode cL_law 528 = .ok (.aload_n 0, 1) := by decide +kernel
theorem dL_law_529 : decode cL_law 529 = .ok (.iload_n 3, 1) := by decide +kernel
theorem dL_law_530 : decode cL_law 530 = .ok (.iconst 2, 1) := by decide +kernel
theorem dL_law_531 : decode cL_law 531 = .ok (.iadd, 1) := by decide +kernel
theorem dL_law_532 : decode cL_law 532 = .ok (.iaload, 1) := by decide +kernel
theorem dL_law_533 : decode cL_law 533 = .ok (.aload_n 0, 1) := by decide +kernel
theorem dL_law_534 : decode cL_law 534 = .ok (.iload_n 3, 1) := by decide +kernel
theorem dL_law_535 : decode cL_law 535 = .ok (.iconst 3, 1) := by decide +kernel
theorem dL_law_536 : decode cL_law 536 = .ok (.iadd, 1) := by decide +kernel
theorem dL_law_537 : decode cL_law 537 = .ok (.iaload, 1) := by decide +kernel
theorem dL_law_538 : decode cL_law 538 = .ok (.invokevirtual 48, 3) := by decide +kernel
theorem dL_law_541 : decode cL_law 541 = .ok (.if_icmp .eq 1087, 3) := by decide +kernel
theorem dL_law_544 : decode cL_law 544 = .ok (.iconst 0, 1) := by decide +kernel
theorem dL_law_545 : decode cL_law 545 = .ok (.ireturn, 1) := by decide +kernel
theorem dL_law_546 : decode cL_law 546 = .ok (.aload_n 1, 1) := by decide +kernel
theorem dL_law_547 : decode cL_law 547 = .ok (.aload_n 0, 1) := by decide +kernel
theorem dL_law_548 : decode cL_law 548 = .ok (.iload_n 3, 1) := by decide +kernel
theorem dL_law_549 : decode cL_law 549 = .ok (.iconst 1, 1) := by decide +kernel
theorem dL_law_550 : decode cL_law 550 = .ok (.iadd, 1) := by decide +kernel
theorem dL_law_551 : decode cL_law 551 = .ok (.iaload, 1) := by decide +kernel
theorem dL_law_552 : decode cL_law 552 = .ok (.invokevirtual 49, 3) := by decide +kernel
theorem dL_law_555 : decode cL_law 555 = .ok (.aload_n 2, 1) := by decide +kernel
theorem dL_law_556 : decode cL_law 556 = .ok (.aload_n 0, 1) := by decide +kernel
theorem dL_law_557 : decode cL_law 557 = .ok (.iload_n 3, 1) := by decide +kernel
theorem dL_law_558 : decode cL_law 558 = .ok (.iconst 1, 1) := by decide +kernel
theorem dL_law_559 : decode cL_law 559 = .ok (.iadd, 1) := by decide +kernel
theorem dL_law_560 : decode cL_law 560 = .ok (.iaload, 1) := by decide +kernel
theorem dL_law_561 : decode cL_law 561 = .ok (.invokevirtual 52, 3) := by decide +kernel
theorem dL_law_564 : decode cL_law 564 = .ok (.if_icmp .eq 1064, 3) := by decide +kernel
theorem dL_law_567 : decode cL_law 567 = .ok (.iconst 0, 1) := by decide +kernel
theorem dL_law_568 : decode cL_law 568 = .ok (.ireturn, 1) := by decide +kernel
theorem dL_law_569 : decode cL_law 569 = .ok (.aload_n 1, 1) := by decide +kernel
theorem dL_law_570 : decode cL_law 570 = .ok (.aload_n 0, 1) := by decide +kernel
theorem dL_law_571 : decode cL_law 571 = .ok (.iload_n 3, 1) := by decide +kernel
theorem dL_law_572 : decode cL_law 572 = .ok (.iconst 1, 1) := by decide +kernel
theorem dL_law_573 : decode cL_law 573 = .ok (.iadd, 1) := by decide +kernel
theorem dL_law_574 : decode cL_law 574 = .ok (.iaload, 1) := by decide +kernel
theorem dL_law_575 : decode cL_law 575 = .ok (.invokevirtual 53, 3) := by decide +kernel
theorem dL_law_578 : decode cL_law 578 = .ok (.aload_n 2, 1) := by decide +kernel
theorem dL_law_579 : decode cL_law 579 = .ok (.aload_n 0, 1) := by decide +kernel
theorem dL_law_580 : decode cL_law 580 = .ok (.iload_n 3, 1) := by decide +kernel
theorem dL_law_581 : decode cL_law 581 = .ok (.iconst 1, 1) := by decide +kernel
theorem dL_law_582 : decode cL_law 582 = .ok (.iadd, 1) := by decide +kernel
theorem dL_law_583 : decode cL_law 583 = .ok (.iaload, 1) := by decide +kernel
theorem dL_law_584 : decode cL_law 584 = .ok (.invokevirtual 56, 3) := by decide +kernel
theorem dL_law_587 : decode cL_law 587 = .ok (.if_icmp .eq 1041, 3) := by decide +kernel
theorem dL_law_590 : decode cL_law 590 = .ok (.iconst 0, 1) := by decide +kernel
theorem dL_law_591 : decode cL_law 591 = .ok (.ireturn, 1) := by decide +kernel
theorem dL_law_592 : decode cL_law 592 = .ok (.aload_n 1, 1) := by decide +kernel
theorem dL_law_593 : decode cL_law 593 = .ok (.aload_n 0, 1) := by decide +kernel
theorem dL_law_594 : decode cL_law 594 = .ok (.iload_n 3, 1) := by decide +kernel
theorem dL_law_595 : decode cL_law 595 = .ok (.iconst 1, 1) := by decide +kernel
theorem dL_law_596 : decode cL_law 596 = .ok (.iadd, 1) := by decide +kernel
theorem dL_law_597 : decode cL_law 597 = .ok (.iaload, 1) := by decide +kernel
theorem dL_law_598 : decode cL_law 598 = .ok (.aload_n 0, 1) := by decide +kernel
theorem dL_law_599 : decode cL_law 599 = .ok (.iload_n 3, 1) := by decide +kernel
theorem dL_law_600 : decode cL_law 600 = .ok (.iconst 2, 1) := by decide +kernel
theorem dL_law_601 : decode cL_law 601 = .ok (.iadd, 1) := by decide +kernel
theorem dL_law_602 : decode cL_law 602 = .ok (.iaload, 1) := by decide +kernel
theorem dL_law_603 : decode cL_law 603 = .ok (.invokevirtual 57, 3) := by decide +kernel
theorem dL_law_606 : decode cL_law 606 = .ok (.aload_n 2, 1) := by decide +kernel
theorem dL_law_607 : decode cL_law 607 = .ok (.aload_n 0, 1) := by decide +kernel
theorem dL_law_608 : decode cL_law 608 = .ok (.iload_n 3, 1) := by decide +kernel
theorem dL_law_609 : decode cL_law 609 = .ok (.iconst 1, 1) := by decide +kernel
theorem dL_law_610 : decode cL_law 610 = .ok (.iadd, 1) := by decide +kernel
theorem dL_law_611 : decode cL_law 611 = .ok (.iaload, 1) := by decide +kernel
theorem dL_law_612 : decode cL_law 612 = .ok (.aload_n 0, 1) := by decide +kernel
theorem dL_law_613 : decode cL_law 613 = .ok (.iload_n 3, 1) := by decide +kernel
theorem dL_law_614 : decode cL_law 614 = .ok (.iconst 2, 1) := by decide +kernel
theorem dL_law_615 : decode cL_law 615 = .ok (.iadd, 1) := by decide +kernel
theorem dL_law_616 : decode cL_law 616 = .ok (.iaload, 1) := by decide +kernel
theorem dL_law_617 : decode cL_law 617 = .ok (.invokevirtual 60, 3) := by decide +kernel
theorem dL_law_620 : decode cL_law 620 = .ok (.if_icmp .eq 1008, 3) := by decide +kernel
theorem dL_law_623 : decode cL_law 623 = .ok (.iconst 0, 1) := by decide +kernel
theorem dL_law_624 : decode cL_law 624 = .ok (.ireturn, 1) := by decide +kernel
theorem dL_law_625 : decode cL_law 625 = .ok (.aload_n 1, 1) := by decide +kernel
theorem dL_law_626 : decode cL_law 626 = .ok (.aload_n 0, 1) := by decide +kernel
theorem dL_law_627 : decode cL_law 627 = .ok (.iload_n 3, 1) := by decide +kernel
theorem dL_law_628 : decode cL_law 628 = .ok (.iconst 1, 1) := by decide +kernel
theorem dL_law_629 : decode cL_law 629 = .ok (.iadd, 1) := by decide +kernel
theorem dL_law_630 : decode cL_law 630 = .ok (.iaload, 1) := by decide +kernel
theorem dL_law_631 : decode cL_law 631 = .ok (.aload_n 0, 1) := by decide +kernel
theorem dL_law_632 : decode cL_law 632 = .ok (.iload_n 3, 1) := by decide +kernel
theorem dL_law_633 : decode cL_law 633 = .ok (.iconst 2, 1) := by decide +kernel
theorem dL_law_634 : decode cL_law 634 = .ok (.iadd, 1) := by decide +kernel
theorem dL_law_635 : decode cL_law 635 = .ok (.iaload, 1) := by decide +kernel
theorem dL_law_636 : decode cL_law 636 = .ok (.invokevirtual 61, 3) := by decide +kernel
theorem dL_law_639 : decode cL_law 639 = .ok (.aload_n 2, 1) := by decide +kernel
theorem dL_law_640 : decode cL_law 640 = .ok (.aload_n 0, 1) := by decide +kernel
theorem dL_law_641 : decode cL_law 641 = .ok (.iload_n 3, 1) := by decide +kernel
theorem dL_law_642 : decode cL_law 642 = .ok (.iconst 1, 1) := by decide +kernel
theorem dL_law_643 : decode cL_law 643 = .ok (.iadd, 1) := by decide +kernel
theorem dL_law_644 : decode cL_law 644 = .ok (.iaload, 1) := by decide +kernel
theorem dL_law_645 : decode cL_law 645 = .ok (.aload_n 0, 1) := by decide +kernel
theorem dL_law_646 : decode cL_law 646 = .ok (.iload_n 3, 1) := by decide +kernel
theorem dL_law_647 : decode cL_law 647 = .ok (.iconst 2, 1) := by decide +kernel
theorem dL_law_648 : decode cL_law 648 = .ok (.iadd, 1) := by decide +kernel
theorem dL_law_649 : decode cL_law 649 = .ok (.iaload, 1) := by decide +kernel
theorem dL_law_650 : decode cL_law 650 = .ok (.invokevirtual 64, 3) := by decide +kernel
theorem dL_law_653 : decode cL_law 653 = .ok (.if_icmp .eq 975, 3) := by decide +kernel
theorem dL_law_656 : decode cL_law 656 = .ok (.iconst 0, 1) := by decide +kernel
theorem dL_law_657 : decode cL_law 657 = .ok (.ireturn, 1) := by decide +kernel
theorem dL_law_658 : decode cL_law 658 = .ok (.aload_n 1, 1) := by decide +kernel
theorem dL_law_659 : decode cL_law 659 = .ok (.aload_n 0, 1) := by decide +kernel
theorem dL_law_660 : decode cL_law 660 = .ok (.iload_n 3, 1) := by decide +kernel
theorem dL_law_661 : decode cL_law 661 = .ok (.iconst 1, 1) := by decide +kernel
theorem dL_law_662 : decode cL_law 662 = .ok (.iadd, 1) := by decide +kernel
theorem dL_law_663 : decode cL_law 663 = .ok (.iaload, 1) := by decide +kernel
theorem dL_law_664 : decode cL_law 664 = .ok (.invokevirtual 65, 3) := by decide +kernel
theorem dL_law_667 : decode cL_law 667 = .ok (.aload_n 2, 1) := by decide +kernel
theorem dL_law_668 : decode cL_law 668 = .ok (.aload_n 0, 1) := by decide +kernel
theorem dL_law_669 : decode cL_law 669 = .ok (.iload_n 3, 1) := by decide +kernel
theorem dL_law_670 : decode cL_law 670 = .ok (.iconst 1, 1) := by decide +kernel
theorem dL_law_671 : decode cL_law 671 = .ok (.iadd, 1) := by decide +kernel
theorem dL_law_672 : decode cL_law 672 = .ok (.iaload, 1) := by decide +kernel
theorem dL_law_673 : decode cL_law 673 = .ok (.invokevirtual 68, 3) := by decide +kernel
theorem dL_law_676 : decode cL_law 676 = .ok (.if_icmp .eq 952, 3) := by decide +kernel
theorem dL_law_679 : decode cL_law 679 = .ok (.iconst 0, 1) := by decide +kernel
theorem dL_law_680 : decode cL_law 680 = .ok (.ireturn, 1) := by decide +kernel
theorem dL_law_681 : decode cL_law 681 = .ok (.aload_n 1, 1) := by decide +kernel
theorem dL_law_682 : decode cL_law 682 = .ok (.aload_n 0, 1) := by decide +kernel
theorem dL_law_683 : decode cL_law 683 = .ok (.iload_n 3, 1) := by decide +kernel
theorem dL_law_684 : decode cL_law 684 = .ok (.iconst 1, 1) := by decide +kernel
theorem dL_law_685 : decode cL_law 685 = .ok (.iadd, 1) := by decide +kernel
theorem dL_law_686 : decode cL_law 686 = .ok (.iaload, 1) := by decide +kernel
theorem dL_law_687 : decode cL_law 687 = .ok (.invokevirtual 69, 3) := by decide +kernel
theorem dL_law_690 : decode cL_law 690 = .ok (.aload_n 2, 1) := by decide +kernel
theorem dL_law_691 : decode cL_law 691 = .ok (.aload_n 0, 1) := by decide +kernel
theorem dL_law_692 : decode cL_law 692 = .ok (.iload_n 3, 1) := by decide +kernel
theorem dL_law_693 : decode cL_law 693 = .ok (.iconst 1, 1) := by decide +kernel
theorem dL_law_694 : decode cL_law 694 = .ok (.iadd, 1) := by decide +kernel
theorem dL_law_695 : decode cL_law 695 = .ok (.iaload, 1) := by decide +kernel
theorem dL_law_696 : decode cL_law 696 = .ok (.invokevirtual 72, 3) := by decide +kernel
theorem dL_law_699 : decode cL_law 699 = .ok (.if_icmp .eq 929, 3) := by decide +kernel
theorem dL_law_702 : decode cL_law 702 = .ok (.iconst 0, 1) := by decide +kernel
theorem dL_law_703 : decode cL_law 703 = .ok (.ireturn, 1) := by decide +kernel
theorem dL_law_704 : decode cL_law 704 = .ok (.aload_n 1, 1) := by decide +kernel
theorem dL_law_705 : decode cL_law 705 = .ok (.aload_n 0, 1) := by decide +kernel
theorem dL_law_706 : decode cL_law 706 = .ok (.iload_n 3, 1) := by decide +kernel
theorem dL_law_707 : decode cL_law 707 = .ok (.iconst 1, 1) := by decide +kernel
theorem dL_law_708 : decode cL_law 708 = .ok (.iadd, 1) := by decide +kernel
theorem dL_law_709 : decode cL_law 709 = .ok (.iaload, 1) := by decide +kernel
theorem dL_law_710 : decode cL_law 710 = .ok (.invokevirtual 73, 3) := by decide +kernel
theorem dL_law_713 : decode cL_law 713 = .ok (.aload_n 2, 1) := by decide +kernel
theorem dL_law_714 : decode cL_law 714 = .ok (.aload_n 0, 1) := by decide +kernel
theorem dL_law_715 : decode cL_law 715 = .ok (.iload_n 3, 1) := by decide +kernel
theorem dL_law_716 : decode cL_law 716 = .ok (.iconst 1, 1) := by decide +kernel
theorem dL_law_717 : decode cL_law 717 = .ok (.iadd, 1) := by decide +kernel
theorem dL_law_718 : decode cL_law 718 = .ok (.iaload, 1) := by decide +kernel
theorem dL_law_719 : decode cL_law 719 = .ok (.invokevirtual 76, 3) := by decide +kernel
theorem dL_law_722 : decode cL_law 722 = .ok (.if_icmp .eq 906, 3) := by decide +kernel
theorem dL_law_725 : decode cL_law 725 = .ok (.iconst 0, 1) := by decide +kernel
theorem dL_law_726 : decode cL_law 726 = .ok (.ireturn, 1) := by decide +kernel
theorem dL_law_727 : decode cL_law 727 = .ok (.aload_n 1, 1) := by decide +kernel
theorem dL_law_728 : decode cL_law 728 = .ok (.aload_n 0, 1) := by decide +kernel
theorem dL_law_729 : decode cL_law 729 = .ok (.iload_n 3, 1) := by decide +kernel
theorem dL_law_730 : decode cL_law 730 = .ok (.iconst 1, 1) := by decide +kernel
theorem dL_law_731 : decode cL_law 731 = .ok (.iadd, 1) := by decide +kernel
theorem dL_law_732 : decode cL_law 732 = .ok (.iaload, 1) := by decide +kernel
theorem dL_law_733 : decode cL_law 733 = .ok (.aload_n 0, 1) := by decide +kernel
theorem dL_law_734 : decode cL_law 734 = .ok (.iload_n 3, 1) := by decide +kernel
theorem dL_law_735 : decode cL_law 735 = .ok (.iconst 2, 1) := by decide +kernel
theorem dL_law_736 : decode cL_law 736 = .ok (.iadd, 1) := by decide +kernel
theorem dL_law_737 : decode cL_law 737 = .ok (.iaload, 1) := by decide +kernel
theorem dL_law_738 : decode cL_law 738 = .ok (.invokevirtual 77, 3) := by decide +kernel
theorem dL_law_741 : decode cL_law 741 = .ok (.aload_n 2, 1) := by decide +kernel
theorem dL_law_742 : decode cL_law 742 = .ok (.aload_n 0, 1) := by decide +kernel
theorem dL_law_743 : decode cL_law 743 = .ok (.iload_n 3, 1) := by decide +kernel
theorem dL_law_744 : decode cL_law 744 = .ok (.iconst 1, 1) := by decide +kernel
theorem dL_law_745 : decode cL_law 745 = .ok (.iadd, 1) := by decide +kernel
theorem dL_law_746 : decode cL_law 746 = .ok (.iaload, 1) := by decide +kernel
theorem dL_law_747 : decode cL_law 747 = .ok (.aload_n 0, 1) := by decide +kernel
theorem dL_law_748 : decode cL_law 748 = .ok (.iload_n 3, 1) := by decide +kernel
theorem dL_law_749 : decode cL_law 749 = .ok (.iconst 2, 1) := by decide +kernel
theorem dL_law_750 : decode cL_law 750 = .ok (.iadd, 1) := by decide +kernel
theorem dL_law_751 : decode cL_law 751 = .ok (.iaload, 1) := by decide +kernel
theorem dL_law_752 : decode cL_law 752 = .ok (.invokevirtual 80, 3) := by decide +kernel
theorem dL_law_755 : decode cL_law 755 = .ok (.if_icmp .eq 873, 3) := by decide +kernel
theorem dL_law_758 : decode cL_law 758 = .ok (.iconst 0, 1) := by decide +kernel
theorem dL_law_759 : decode cL_law 759 = .ok (.ireturn, 1) := by decide +kernel
theorem dL_law_760 : decode cL_law 760 = .ok (.aload_n 1, 1) := by decide +kernel
theorem dL_law_761 : decode cL_law 761 = .ok (.aload_n 0, 1) := by decide +kernel
theorem dL_law_762 : decode cL_law 762 = .ok (.iload_n 3, 1) := by decide +kernel
theorem dL_law_763 : decode cL_law 763 = .ok (.iconst 1, 1) := by decide +kernel
theorem dL_law_764 : decode cL_law 764 = .ok (.iadd, 1) := by decide +kernel
theorem dL_law_765 : decode cL_law 765 = .ok (.iaload, 1) := by decide +kernel
theorem dL_law_766 : decode cL_law 766 = .ok (.aload_n 0, 1) := by decide +kernel
theorem dL_law_767 : decode cL_law 767 = .ok (.iload_n 3, 1) := by decide +kernel
theorem dL_law_768 : decode cL_law 768 = .ok (.iconst 2, 1) := by decide +kernel
theorem dL_law_769 : decode cL_law 769 = .ok (.iadd, 1) := by decide +kernel
theorem dL_law_770 : decode cL_law 770 = .ok (.iaload, 1) := by decide +kernel
theorem dL_law_771 : decode cL_law 771 = .ok (.invokevirtual 81, 3) := by decide +kernel
theorem dL_law_774 : decode cL_law 774 = .ok (.aload_n 2, 1) := by decide +kernel
theorem dL_law_775 : decode cL_law 775 = .ok (.aload_n 0, 1) := by decide +kernel
theorem dL_law_776 : decode cL_law 776 = .ok (.iload_n 3, 1) := by decide +kernel
theorem dL_law_777 : decode cL_law 777 = .ok (.iconst 1, 1) := by decide +kernel
theorem dL_law_778 : decode cL_law 778 = .ok (.iadd, 1) := by decide +kernel
theorem dL_law_779 : decode cL_law 779 = .ok (.iaload, 1) := by decide +kernel
theorem dL_law_780 : decode cL_law 780 = .ok (.aload_n 0, 1) := by decide +kernel
theorem dL_law_781 : decode cL_law 781 = .ok (.iload_n 3, 1) := by decide +kernel
theorem dL_law_782 : decode cL_law 782 = .ok (.iconst 2, 1) := by decide +kernel
theorem dL_law_783 : decode cL_law 783 = .ok (.iadd, 1) := by decide +kernel
theorem dL_law_784 : decode cL_law 784 = .ok (.iaload, 1) := by decide +kernel
theorem dL_law_785 : decode cL_law 785 = .ok (.invokevirtual 84, 3) := by decide +kernel
theorem dL_law_788 : decode cL_law 788 = .ok (.if_icmp .eq 840, 3) := by decide +kernel
theorem dL_law_791 : decode cL_law 791 = .ok (.iconst 0, 1) := by decide +kernel
theorem dL_law_792 : decode cL_law 792 = .ok (.ireturn, 1) := by decide +kernel
theorem dL_law_793 : decode cL_law 793 = .ok (.aload_n 1, 1) := by decide +kernel
theorem dL_law_794 : decode cL_law 794 = .ok (.invokevirtual 85, 3) := by decide +kernel
theorem dL_law_797 : decode cL_law 797 = .ok (.aload_n 2, 1) := by decide +kernel
theorem dL_law_798 : decode cL_law 798 = .ok (.invokevirtual 89, 3) := by decide +kernel
theorem dL_law_801 : decode cL_law 801 = .ok (.if_icmp .eq 827, 3) := by decide +kernel
theorem dL_law_804 : decode cL_law 804 = .ok (.iconst 0, 1) := by decide +kernel
theorem dL_law_805 : decode cL_law 805 = .ok (.ireturn, 1) := by decide +kernel
theorem dL_law_806 : decode cL_law 806 = .ok (.aload_n 1, 1) := by decide +kernel
theorem dL_law_807 : decode cL_law 807 = .ok (.aload_n 0, 1) := by decide +kernel
theorem dL_law_808 : decode cL_law 808 = .ok (.iload_n 3, 1) := by decide +kernel
theorem dL_law_809 : decode cL_law 809 = .ok (.iconst 1, 1) := by decide +kernel
theorem dL_law_810 : decode cL_law 810 = .ok (.iadd, 1) := by decide +kernel
theorem dL_law_811 : decode cL_law 811 = .ok (.iaload, 1) := by decide +kernel
theorem dL_law_812 : decode cL_law 812 = .ok (.aload_n 0, 1) := by decide +kernel
theorem dL_law_813 : decode cL_law 813 = .ok (.iload_n 3, 1) := by decide +kernel
theorem dL_law_814 : decode cL_law 814 = .ok (.iconst 2, 1) := by decide +kernel
theorem dL_law_815 : decode cL_law 815 = .ok (.iadd, 1) := by decide +kernel
theorem dL_law_816 : decode cL_law 816 = .ok (.iaload, 1) := by decide +kernel
theorem dL_law_817 : decode cL_law 817 = .ok (.invokevirtual 90, 3) := by decide +kernel
theorem dL_law_820 : decode cL_law 820 = .ok (.aload_n 2, 1) := by decide +kernel
theorem dL_law_821 : decode cL_law 821 = .ok (.aload_n 0, 1) := by decide +kernel
theorem dL_law_822 : decode cL_law 822 = .ok (.iload_n 3, 1) := by decide +kernel
theorem dL_law_823 : decode cL_law 823 = .ok (.iconst 1, 1) := by decide +kernel
theorem dL_law_824 : decode cL_law 824 = .ok (.iadd, 1) := by decide +kernel
theorem dL_law_825 : decode cL_law 825 = .ok (.iaload, 1) := by decide +kernel
theorem dL_law_826 : decode cL_law 826 = .ok (.aload_n 0, 1) := by decide +kernel
theorem dL_law_827 : decode cL_law 827 = .ok (.iload_n 3, 1) := by decide +kernel
theorem dL_law_828 : decode cL_law 828 = .ok (.iconst 2, 1) := by decide +kernel
theorem dL_law_829 : decode cL_law 829 = .ok (.iadd, 1) := by decide +kernel
theorem dL_law_830 : decode cL_law 830 = .ok (.iaload, 1) := by decide +kernel
theorem dL_law_831 : decode cL_law 831 = .ok (.invokevirtual 93, 3) := by decide +kernel
theorem dL_law_834 : decode cL_law 834 = .ok (.if_icmp .eq 794, 3) := by decide +kernel
theorem dL_law_837 : decode cL_law 837 = .ok (.iconst 0, 1) := by decide +kernel
theorem dL_law_838 : decode cL_law 838 = .ok (.ireturn, 1) := by decide +kernel
theorem dL_law_839 : decode cL_law 839 = .ok (.aload_n 1, 1) := by decide +kernel
theorem dL_law_840 : decode cL_law 840 = .ok (.invokevirtual 94, 3) := by decide +kernel
theorem dL_law_843 : decode cL_law 843 = .ok (.aload_n 2, 1) := by decide +kernel
theorem dL_law_844 : decode cL_law 844 = .ok (.invokevirtual 97, 3) := by decide +kernel
theorem dL_law_847 : decode cL_law 847 = .ok (.if_icmp .eq 781, 3) := by decide +kernel
theorem dL_law_850 : decode cL_law 850 = .ok (.iconst 0, 1) := by decide +kernel
theorem dL_law_851 : decode cL_law 851 = .ok (.ireturn, 1) := by decide +kernel
theorem dL_law_852 : decode cL_law 852 = .ok (.aload_n 1, 1) := by decide +kernel
theorem dL_law_853 : decode cL_law 853 = .ok (.invokevirtual 98, 3) := by decide +kernel
theorem dL_law_856 : decode cL_law 856 = .ok (.aload_n 2, 1) := by decide +kernel
theorem dL_law_857 : decode cL_law 857 = .ok (.invokevirtual 101, 3) := by decide +kernel
theorem dL_law_860 : decode cL_law 860 = .ok (.if_icmp .eq 768, 3) := by decide +kernel
theorem dL_law_863 : decode cL_law 863 = .ok (.iconst 0, 1) := by decide +kernel
theorem dL_law_864 : decode cL_law 864 = .ok (.ireturn, 1) := by decide +kernel
theorem dL_law_865 : decode cL_law 865 = .ok (.aload_n 1, 1) := by decide +kernel
theorem dL_law_866 : decode cL_law 866 = .ok (.aload_n 0, 1) := by decide +kernel
theorem dL_law_867 : decode cL_law 867 = .ok (.iload_n 3, 1) := by decide +kernel
theorem dL_law_868 : decode cL_law 868 = .ok (.iconst 1, 1) := by decide +kernel
theorem dL_law_869 : decode cL_law 869 = .ok (.iadd, 1) := by decide +kernel
theorem dL_law_870 : decode cL_law 870 = .ok (.iaload, 1) := by decide +kernel
theorem dL_law_871 : decode cL_law 871 = .ok (.invokevirtual 102, 3) := by decide +kernel
theorem dL_law_874 : decode cL_law 874 = .ok (.aload_n 2, 1) := by decide +kernel
theorem dL_law_875 : decode cL_law 875 = .ok (.aload_n 0, 1) := by decide +kernel
theorem dL_law_876 : decode cL_law 876 = .ok (.iload_n 3, 1) := by decide +kernel
theorem dL_law_877 : decode cL_law 877 = .ok (.iconst 1, 1) := by decide +kernel
theorem dL_law_878 : decode cL_law 878 = .ok (.iadd, 1) := by decide +kernel
theorem dL_law_879 : decode cL_law 879 = .ok (.iaload, 1) := by decide +kernel
theorem dL_law_880 : decode cL_law 880 = .ok (.invokevirtual 105, 3) := by decide +kernel
theorem dL_law_883 : decode cL_law 883 = .ok (.if_icmp .eq 745, 3) := by decide +kernel
theorem dL_law_886 : decode cL_law 886 = .ok (.iconst 0, 1) := by decide +kernel
theorem dL_law_887 : decode cL_law 887 = .ok (.ireturn, 1) := by decide +kernel
theorem dL_law_888 : decode cL_law 888 = .ok (.aload_n 1, 1) := by decide +kernel
theorem dL_law_889 : decode cL_law 889 = .ok (.aload_n 0, 1) := by decide +kernel
theorem dL_law_890 : decode cL_law 890 = .ok (.iload_n 3, 1) := by decide +kernel
theorem dL_law_891 : decode cL_law 891 = .ok (.iconst 1, 1) := by decide +kernel
theorem dL_law_892 : decode cL_law 892 = .ok (.iadd, 1) := by decide +kernel
theorem dL_law_893 : decode cL_law 893 = .ok (.iaload, 1) := by decide +kernel
theorem dL_law_894 : decode cL_law 894 = .ok (.invokevirtual 106, 3) := by decide +kernel
theorem dL_law_897 : decode cL_law 897 = .ok (.aload_n 2, 1) := by decide +kernel
theorem dL_law_898 : decode cL_law 898 = .ok (.aload_n 0, 1) := by decide +kernel
theorem dL_law_899 : decode cL_law 899 = .ok (.iload_n 3, 1) := by decide +kernel
theorem dL_law_900 : decode cL_law 900 = .ok (.iconst 1, 1) := by decide +kernel
theorem dL_law_901 : decode cL_law 901 = .ok (.iadd, 1) := by decide +kernel
theorem dL_law_902 : decode cL_law 902 = .ok (.iaload, 1) := by decide +kernel
theorem dL_law_903 : decode cL_law 903 = .ok (.invokevirtual 109, 3) := by decide +kernel
theorem dL_law_906 : decode cL_law 906 = .ok (.if_icmp .eq 722, 3) := by decide +kernel
theorem dL_law_909 : decode cL_law 909 = .ok (.iconst 0, 1) := by decide +kernel
theorem dL_law_910 : decode cL_law 910 = .ok (.ireturn, 1) := by decide +kernel
theorem dL_law_911 : decode cL_law 911 = .ok (.aload_n 1, 1) := by decide +kernel
theorem dL_law_912 : decode cL_law 912 = .ok (.aload_n 0, 1) := by decide +kernel
theorem dL_law_913 : decode cL_law 913 = .ok (.iload_n 3, 1) := by decide +kernel
theorem dL_law_914 : decode cL_law 914 = .ok (.iconst 1, 1) := by decide +kernel
theorem dL_law_915 : decode cL_law 915 = .ok (.iadd, 1) := by decide +kernel
theorem dL_law_916 : decode cL_law 916 = .ok (.iaload, 1) := by decide +kernel
theorem dL_law_917 : decode cL_law 917 = .ok (.invokevirtual 110, 3) := by decide +kernel
theorem dL_law_920 : decode cL_law 920 = .ok (.aload_n 2, 1) := by decide +kernel
theorem dL_law_921 : decode cL_law 921 = .ok (.aload_n 0, 1) := by decide +kernel
theorem dL_law_922 : decode cL_law 922 = .ok (.iload_n 3, 1) := by decide +kernel
theorem dL_law_923 : decode cL_law 923 = .ok (.iconst 1, 1) := by decide +kernel
theorem dL_law_924 : decode cL_law 924 = .ok (.iadd, 1) := by decide +kernel
theorem dL_law_925 : decode cL_law 925 = .ok (.iaload, 1) := by decide +kernel
theorem dL_law_926 : decode cL_law 926 = .ok (.invokevirtual 113, 3) := by decide +kernel
theorem dL_law_929 : decode cL_law 929 = .ok (.if_icmp .eq 699, 3) := by decide +kernel
theorem dL_law_932 : decode cL_law 932 = .ok (.iconst 0, 1) := by decide +kernel
theorem dL_law_933 : decode cL_law 933 = .ok (.ireturn, 1) := by decide +kernel
theorem dL_law_934 : decode cL_law 934 = .ok (.aload_n 1, 1) := by decide +kernel
theorem dL_law_935 : decode cL_law 935 = .ok (.aload_n 0, 1) := by decide +kernel
theorem dL_law_936 : decode cL_law 936 = .ok (.iload_n 3, 1) := by decide +kernel
theorem dL_law_937 : decode cL_law 937 = .ok (.iconst 1, 1) := by decide +kernel
theorem dL_law_938 : decode cL_law 938 = .ok (.iadd, 1) := by decide +kernel
theorem dL_law_939 : decode cL_law 939 = .ok (.iaload, 1) := by decide +kernel
theorem dL_law_940 : decode cL_law 940 = .ok (.invokevirtual 114, 3) := by decide +kernel
theorem dL_law_943 : decode cL_law 943 = .ok (.aload_n 2, 1) := by decide +kernel
theorem dL_law_944 : decode cL_law 944 = .ok (.aload_n 0, 1) := by decide +kernel
theorem dL_law_945 : decode cL_law 945 = .ok (.iload_n 3, 1) := by decide +kernel
theorem dL_law_946 : decode cL_law 946 = .ok (.iconst 1, 1) := by decide +kernel
theorem dL_law_947 : decode cL_law 947 = .ok (.iadd, 1) := by decide +kernel
theorem dL_law_948 : decode cL_law 948 = .ok (.iaload, 1) := by decide +kernel
theorem dL_law_949 : decode cL_law 949 = .ok (.invokevirtual 117, 3) := by decide +kernel
theorem dL_law_952 : decode cL_law 952 = .ok (.if_icmp .eq 676, 3) := by decide +kernel
theorem dL_law_955 : decode cL_law 955 = .ok (.iconst 0, 1) := by decide +kernel
theorem dL_law_956 : decode cL_law 956 = .ok (.ireturn, 1) := by decide +kernel
theorem dL_law_957 : decode cL_law 957 = .ok (.aload_n 1, 1) := by decide +kernel
theorem dL_law_958 : decode cL_law 958 = .ok (.aload_n 0, 1) := by decide +kernel
theorem dL_law_959 : decode cL_law 959 = .ok (.iload_n 3, 1) := by decide +kernel
theorem dL_law_960 : decode cL_law 960 = .ok (.iconst 1, 1) := by decide +kernel
theorem dL_law_961 : decode cL_law 961 = .ok (.iadd, 1) := by decide +kernel
theorem dL_law_962 : decode cL_law 962 = .ok (.iaload, 1) := by decide +kernel
theorem dL_law_963 : decode cL_law 963 = .ok (.aload_n 0, 1) := by decide +kernel
theorem dL_law_964 : decode cL_law 964 = .ok (.iload_n 3, 1) := by decide +kernel
theorem dL_law_965 : decode cL_law 965 = .ok (.iconst 2, 1) := by decide +kernel
theorem dL_law_966 : decode cL_law 966 = .ok (.iadd, 1) := by decide +kernel
theorem dL_law_967 : decode cL_law 967 = .ok (.iaload, 1) := by decide +kernel
theorem dL_law_968 : decode cL_law 968 = .ok (.invokevirtual 118, 3) := by decide +kernel
theorem dL_law_971 : decode cL_law 971 = .ok (.aload_n 2, 1) := by decide +kernel
theorem dL_law_972 : decode cL_law 972 = .ok (.aload_n 0, 1) := by decide +kernel
theorem dL_law_973 : decode cL_law 973 = .ok (.iload_n 3, 1) := by decide +kernel
theorem dL_law_974 : decode cL_law 974 = .ok (.iconst 1, 1) := by decide +kernel
theorem dL_law_975 : decode cL_law 975 = .ok (.iadd, 1) := by decide +kernel
theorem dL_law_976 : decode cL_law 976 = .ok (.iaload, 1) := by decide +kernel
theorem dL_law_977 : decode cL_law 977 = .ok (.aload_n 0, 1) := by decide +kernel
theorem dL_law_978 : decode cL_law 978 = .ok (.iload_n 3, 1) := by decide +kernel
theorem dL_law_979 : decode cL_law 979 = .ok (.iconst 2, 1) := by decide +kernel
theorem dL_law_980 : decode cL_law 980 = .ok (.iadd, 1) := by decide +kernel
theorem dL_law_981 : decode cL_law 981 = .ok (.iaload, 1) := by decide +kernel
theorem dL_law_982 : decode cL_law 982 = .ok (.invokevirtual 121, 3) := by decide +kernel
theorem dL_law_985 : decode cL_law 985 = .ok (.if_icmp .eq 643, 3) := by decide +kernel
theorem dL_law_988 : decode cL_law 988 = .ok (.iconst 0, 1) := by decide +kernel
theorem dL_law_989 : decode cL_law 989 = .ok (.ireturn, 1) := by decide +kernel
theorem dL_law_990 : decode cL_law 990 = .ok (.aload_n 1, 1) := by decide +kernel
theorem dL_law_991 : decode cL_law 991 = .ok (.aload_n 0, 1) := by decide +kernel
theorem dL_law_992 : decode cL_law 992 = .ok (.iload_n 3, 1) := by decide +kernel
theorem dL_law_993 : decode cL_law 993 = .ok (.iconst 1, 1) := by decide +kernel
theorem dL_law_994 : decode cL_law 994 = .ok (.iadd, 1) := by decide +kernel
theorem dL_law_995 : decode cL_law 995 = .ok (.iaload, 1) := by decide +kernel
theorem dL_law_996 : decode cL_law 996 = .ok (.aload_n 0, 1) := by decide +kernel
theorem dL_law_997 : decode cL_law 997 = .ok (.iload_n 3, 1) := by decide +kernel
theorem dL_law_998 : decode cL_law 998 = .ok (.iconst 2, 1) := by decide +kernel
theorem dL_law_999 : decode cL_law 999 = .ok (.iadd, 1) := by decide +kernel
theorem dL_law_1000 : decode cL_law 1000 = .ok (.iaload, 1) := by decide +kernel
theorem dL_law_1001 : decode cL_law 1001 = .ok (.aload_n 0, 1) := by decide +kernel
theorem dL_law_1002 : decode cL_law 1002 = .ok (.iload_n 3, 1) := by decide +kernel
theorem dL_law_1003 : decode cL_law 1003 = .ok (.iconst 3, 1) := by decide +kernel
theorem dL_law_1004 : decode cL_law 1004 = .ok (.iadd, 1) := by decide +kernel
theorem dL_law_1005 : decode cL_law 1005 = .ok (.iaload, 1) := by decide +kernel
theorem dL_law_1006 : decode cL_law 1006 = .ok (.invokevirtual 122, 3) := by decide +kernel
theorem dL_law_1009 : decode cL_law 1009 = .ok (.aload_n 2, 1) := by decide +kernel
theorem dL_law_1010 : decode cL_law 1010 = .ok (.aload_n 0, 1) := by decide +kernel
theorem dL_law_1011 : decode cL_law 1011 = .ok (.iload_n 3, 1) := by decide +kernel
theorem dL_law_1012 : decode cL_law 1012 = .ok (.iconst 1, 1) := by decide +kernel
theorem dL_law_1013 : decode cL_law 1013 = .ok (.iadd, 1) := by decide +kernel
theorem dL_law_1014 : decode cL_law 1014 = .ok (.iaload, 1) := by decide +kernel
theorem dL_law_1015 : decode cL_law 1015 = .ok (.aload_n 0, 1) := by decide +kernel
theorem dL_law_1016 : decode cL_law 1016 = .ok (.iload_n 3, 1) := by decide +kernel
theorem dL_law_1017 : decode cL_law 1017 = .ok (.iconst 2, 1) := by decide +kernel
theorem dL_law_1018 : decode cL_law 1018 = .ok (.iadd, 1) := by decide +kernel
theorem dL_law_1019 : decode cL_law 1019 = .ok (.iaload, 1) := by decide +kernel
theorem dL_law_1020 : decode cL_law 1020 = .ok (.aload_n 0, 1) := by decide +kernel
theorem dL_law_1021 : decode cL_law 1021 = .ok (.iload_n 3, 1) := by decide +kernel
theorem dL_law_1022 : decode cL_law 1022 = .ok (.iconst 3, 1) := by decide +kernel
theorem dL_law_1023 : decode cL_law 1023 = .ok (.iadd, 1) := by decide +kernel
theorem dL_law_1024 : decode cL_law 1024 = .ok (.iaload, 1) := by decide +kernel
theorem dL_law_1025 : decode cL_law 1025 = .ok (.invokevirtual 125, 3) := by decide +kernel
theorem dL_law_1028 : decode cL_law 1028 = .ok (.if_icmp .eq 600, 3) := by decide +kernel
theorem dL_law_1031 : decode cL_law 1031 = .ok (.iconst 0, 1) := by decide +kernel
theorem dL_law_1032 : decode cL_law 1032 = .ok (.ireturn, 1) := by decide +kernel
theorem dL_law_1033 : decode cL_law 1033 = .ok (.aload_n 1, 1) := by decide +kernel
theorem dL_law_1034 : decode cL_law 1034 = .ok (.aload_n 0, 1) := by decide +kernel
theorem dL_law_1035 : decode cL_law 1035 = .ok (.iload_n 3, 1) := by decide +kernel
theorem dL_law_1036 : decode cL_law 1036 = .ok (.iconst 1, 1) := by decide +kernel
theorem dL_law_1037 : decode cL_law 1037 = .ok (.iadd, 1) := by decide +kernel
theorem dL_law_1038 : decode cL_law 1038 = .ok (.iaload, 1) := by decide +kernel
theorem dL_law_1039 : decode cL_law 1039 = .ok (.aload_n 0, 1) := by decide +kernel
theorem dL_law_1040 : decode cL_law 1040 = .ok (.iload_n 3, 1) := by decide +kernel
theorem dL_law_1041 : decode cL_law 1041 = .ok (.iconst 2, 1) := by decide +kernel
theorem dL_law_1042 : decode cL_law 1042 = .ok (.iadd, 1) := by decide +kernel
theorem dL_law_1043 : decode cL_law 1043 = .ok (.iaload, 1) := by decide +kernel
theorem dL_law_1044 : decode cL_law 1044 = .ok (.invokevirtual 126, 3) := by decide +kernel
theorem dL_law_1047 : decode cL_law 1047 = .ok (.aload_n 2, 1) := by decide +kernel
theorem dL_law_1048 : decode cL_law 1048 = .ok (.aload_n 0, 1) := by decide +kernel
theorem dL_law_1049 : decode cL_law 1049 = .ok (.iload_n 3, 1) := by decide +kernel
theorem dL_law_1050 : decode cL_law 1050 = .ok (.iconst 1, 1) := by decide +kernel
theorem dL_law_1051 : decode cL_law 1051 = .ok (.iadd, 1) := by decide +kernel
theorem dL_law_1052 : decode cL_law 1052 = .ok (.iaload, 1) := by decide +kernel
theorem dL_law_1053 : decode cL_law 1053 = .ok (.aload_n 0, 1) := by decide +kernel
theorem dL_law_1054 : decode cL_law 1054 = .ok (.iload_n 3, 1) := by decide +kernel
theorem dL_law_1055 : decode cL_law 1055 = .ok (.iconst 2, 1) := by decide +kernel
theorem dL_law_1056 : decode cL_law 1056 = .ok (.iadd, 1) := by decide +kernel
theorem dL_law_1057 : decode cL_law 1057 = .ok (.iaload, 1) := by decide +kernel
theorem dL_law_1058 : decode cL_law 1058 = .ok (.invokevirtual 129, 3) := by decide +kernel
theorem dL_law_1061 : decode cL_law 1061 = .ok (.if_icmp .eq 567, 3) := by decide +kernel
theorem dL_law_1064 : decode cL_law 1064 = .ok (.iconst 0, 1) := by decide +kernel
theorem dL_law_1065 : decode cL_law 1065 = .ok (.ireturn, 1) := by decide +kernel
theorem dL_law_1066 : decode cL_law 1066 = .ok (.aload_n 1, 1) := by decide +kernel
theorem dL_law_1067 : decode cL_law 1067 = .ok (.aload_n 0, 1) := by decide +kernel
theorem dL_law_1068 : decode cL_law 1068 = .ok (.iload_n 3, 1) := by decide +kernel
theorem dL_law_1069 : decode cL_law 1069 = .ok (.iconst 1, 1) := by decide +kernel
theorem dL_law_1070 : decode cL_law 1070 = .ok (.iadd, 1) := by decide +kernel
theorem dL_law_1071 : decode cL_law 1071 = .ok (.iaload, 1) := by decide +kernel
theorem dL_law_1072 : decode cL_law 1072 = .ok (.invokevirtual 130, 3) := by decide +kernel
theorem dL_law_1075 : decode cL_law 1075 = .ok (.aload_n 2, 1) := by decide +kernel
theorem dL_law_1076 : decode cL_law 1076 = .ok (.aload_n 0, 1) := by decide +kernel
theorem dL_law_1077 : decode cL_law 1077 = .ok (.iload_n 3, 1) := by decide +kernel
theorem dL_law_1078 : decode cL_law 1078 = .ok (.iconst 1, 1) := by decide +kernel
theorem dL_law_1079 : decode cL_law 1079 = .ok (.iadd, 1) := by decide +kernel
theorem dL_law_1080 : decode cL_law 1080 = .ok (.iaload, 1) := by decide +kernel
theorem dL_law_1081 : decode cL_law 1081 = .ok (.invokevirtual 133, 3) := by decide +kernel
theorem dL_law_1084 : decode cL_law 1084 = .ok (.if_icmp .eq 544, 3) := by decide +kernel
theorem dL_law_1087 : decode cL_law 1087 = .ok (.iconst 0, 1) := by decide +kernel
theorem dL_law_1088 : decode cL_law 1088 = .ok (.ireturn, 1) := by decide +kernel
theorem dL_law_1089 : decode cL_law 1089 = .ok (.aload_n 1, 1) := by decide +kernel
theorem dL_law_1090 : decode cL_law 1090 = .ok (.aload_n 0, 1) := by decide +kernel
theorem dL_law_1091 : decode cL_law 1091 = .ok (.iload_n 3, 1) := by decide +kernel
theorem dL_law_1092 : decode cL_law 1092 = .ok (.iconst 1, 1) := by decide +kernel
theorem dL_law_1093 : decode cL_law 1093 = .ok (.iadd, 1) := by decide +kernel
theorem dL_law_1094 : decode cL_law 1094 = .ok (.iaload, 1) := by decide +kernel
theorem dL_law_1095 : decode cL_law 1095 = .ok (.aload_n 0, 1) := by decide +kernel
theorem dL_law_1096 : decode cL_law 1096 = .ok (.iload_n 3, 1) := by decide +kernel
theorem dL_law_1097 : decode cL_law 1097 = .ok (.iconst 2, 1) := by decide +kernel
theorem dL_law_1098 : decode cL_law 1098 = .ok (.iadd, 1) := by decide +kernel
theorem dL_law_1099 : decode cL_law 1099 = .ok (.iaload, 1) := by decide +kernel
theorem dL_law_1100 : decode cL_law 1100 = .ok (.invokevirtual 134, 3) := by decide +kernel
theorem dL_law_1103 : decode cL_law 1103 = .ok (.aload_n 2, 1) := by decide +kernel
theorem dL_law_1104 : decode cL_law 1104 = .ok (.aload_n 0, 1) := by decide +kernel
theorem dL_law_1105 : decode cL_law 1105 = .ok (.iload_n 3, 1) := by decide +kernel
theorem dL_law_1106 : decode cL_law 1106 = .ok (.iconst 1, 1) := by decide +kernel
theorem dL_law_1107 : decode cL_law 1107 = .ok (.iadd, 1) := by decide +kernel
theorem dL_law_1108 : decode cL_law 1108 = .ok (.iaload, 1) := by decide +kernel
theorem dL_law_1109 : decode cL_law 1109 = .ok (.aload_n 0, 1) := by decide +kernel
theorem dL_law_1110 : decode cL_law 1110 = .ok (.iload_n 3, 1) := by decide +kernel
theorem dL_law_1111 : decode cL_law 1111 = .ok (.iconst 2, 1) := by decide +kernel
theorem dL_law_1112 : decode cL_law 1112 = .ok (.iadd, 1) := by decide +kernel
theorem dL_law_1113 : decode cL_law 1113 = .ok (.iaload, 1) := by decide +kernel
theorem dL_law_1114 : decode cL_law 1114 = .ok (.invokevirtual 137, 3) := by decide +kernel
theorem dL_law_1117 : decode cL_law 1117 = .ok (.if_icmp .eq 511, 3) := by decide +kernel
theorem dL_law_1120 : decode cL_law 1120 = .ok (.iconst 0, 1) := by decide +kernel
theorem dL_law_1121 : decode cL_law 1121 = .ok (.ireturn, 1) := by decide +kernel
theorem dL_law_1122 : decode cL_law 1122 = .ok (.aload_n 1, 1) := by decide +kernel
theorem dL_law_1123 : decode cL_law 1123 = .ok (.aload_n 0, 1) := by decide +kernel
theorem dL_law_1124 : decode cL_law 1124 = .ok (.iload_n 3, 1) := by decide +kernel
theorem dL_law_1125 : decode cL_law 1125 = .ok (.iconst 1, 1) := by decide +kernel
theorem dL_law_1126 : decode cL_law 1126 = .ok (.iadd, 1) := by decide +kernel
theorem dL_law_1127 : decode cL_law 1127 = .ok (.iaload, 1) := by decide +kernel
theorem dL_law_1128 : decode cL_law 1128 = .ok (.invokevirtual 138, 3) := by decide +kernel
theorem dL_law_1131 : decode cL_law 1131 = .ok (.aload_n 2, 1) := by decide +kernel
theorem dL_law_1132 : decode cL_law 1132 = .ok (.aload_n 0, 1) := by decide +kernel
theorem dL_law_1133 : decode cL_law 1133 = .ok (.iload_n 3, 1) := by decide +kernel
theorem dL_law_1134 : decode cL_law 1134 = .ok (.iconst 1, 1) := by decide +kernel
theorem dL_law_1135 : decode cL_law 1135 = .ok (.iadd, 1) := by decide +kernel
theorem dL_law_1136 : decode cL_law 1136 = .ok (.iaload, 1) := by decide +kernel
theorem dL_law_1137 : decode cL_law 1137 = .ok (.invokevirtual 141, 3) := by decide +kernel
theorem dL_law_1140 : decode cL_law 1140 = .ok (.if_icmp .eq 488, 3) := by decide +kernel
theorem dL_law_1143 : decode cL_law 1143 = .ok (.iconst 0, 1) := by decide +kernel
theorem dL_law_1144 : decode cL_law 1144 = .ok (.ireturn, 1) := by decide +kernel
theorem dL_law_1145 : decode cL_law 1145 = .ok (.aload_n 1, 1) := by decide +kernel
theorem dL_law_1146 : decode cL_law 1146 = .ok (.aload_n 0, 1) := by decide +kernel
theorem dL_law_1147 : decode cL_law 1147 = .ok (.iload_n 3, 1) := by decide +kernel
theorem dL_law_1148 : decode cL_law 1148 = .ok (.iconst 1, 1) := by decide +kernel
theorem dL_law_1149 : decode cL_law 1149 = .ok (.iadd, 1) := by decide +kernel
theorem dL_law_1150 : decode cL_law 1150 = .ok (.iaload, 1) := by decide +kernel
theorem dL_law_1151 : decode cL_law 1151 = .ok (.invokevirtual 142, 3) := by decide +kernel
theorem dL_law_1154 : decode cL_law 1154 = .ok (.aload_n 2, 1) := by decide +kernel
theorem dL_law_1155 : decode cL_law 1155 = .ok (.aload_n 0, 1) := by decide +kernel
theorem dL_law_1156 : decode cL_law 1156 = .ok (.iload_n 3, 1) := by decide +kernel
theorem dL_law_1157 : decode cL_law 1157 = .ok (.iconst 1, 1) := by decide +kernel
theorem dL_law_1158 : decode cL_law 1158 = .ok (.iadd, 1) := by decide +kernel
theorem dL_law_1159 : decode cL_law 1159 = .ok (.iaload, 1) := by decide +kernel
theorem dL_law_1160 : decode cL_law 1160 = .ok (.invokevirtual 145, 3) := by decide +kernel
theorem dL_law_1163 : decode cL_law 1163 = .ok (.if_icmp .eq 465, 3) := by decide +kernel
theorem dL_law_1166 : decode cL_law 1166 = .ok (.iconst 0, 1) := by decide +kernel
theorem dL_law_1167 : decode cL_law 1167 = .ok (.ireturn, 1) := by decide +kernel
theorem dL_law_1168 : decode cL_law 1168 = .ok (.aload_n 1, 1) := by decide +kernel
theorem dL_law_1169 : decode cL_law 1169 = .ok (.aload_n 0, 1) := by decide +kernel
theorem dL_law_1170 : decode cL_law 1170 = .ok (.iload_n 3, 1) := by decide +kernel
theorem dL_law_1171 : decode cL_law 1171 = .ok (.iconst 1, 1) := by decide +kernel
theorem dL_law_1172 : decode cL_law 1172 = .ok (.iadd, 1) := by decide +kernel
theorem dL_law_1173 : decode cL_law 1173 = .ok (.iaload, 1) := by decide +kernel
theorem dL_law_1174 : decode cL_law 1174 = .ok (.aload_n 0, 1) := by decide +kernel
theorem dL_law_1175 : decode cL_law 1175 = .ok (.iload_n 3, 1) := by decide +kernel
theorem dL_law_1176 : decode cL_law 1176 = .ok (.iconst 2, 1) := by decide +kernel
theorem dL_law_1177 : decode cL_law 1177 = .ok (.iadd, 1) := by decide +kernel
theorem dL_law_1178 : decode cL_law 1178 = .ok (.iaload, 1) := by decide +kernel
theorem dL_law_1179 : decode cL_law 1179 = .ok (.invokevirtual 146, 3) := by decide +kernel
theorem dL_law_1182 : decode cL_law 1182 = .ok (.aload_n 2, 1) := by decide +kernel
theorem dL_law_1183 : decode cL_law 1183 = .ok (.aload_n 0, 1) := by decide +kernel
theorem dL_law_1184 : decode cL_law 1184 = .ok (.iload_n 3, 1) := by decide +kernel
theorem dL_law_1185 : decode cL_law 1185 = .ok (.iconst 1, 1) := by decide +kernel
theorem dL_law_1186 : decode cL_law 1186 = .ok (.iadd, 1) := by decide +kernel
theorem dL_law_1187 : decode cL_law 1187 = .ok (.iaload, 1) := by decide +kernel
theorem dL_law_1188 : decode cL_law 1188 = .ok (.aload_n 0, 1) := by decide +kernel
theorem dL_law_1189 : decode cL_law 1189 = .ok (.iload_n 3, 1) := by decide +kernel
theorem dL_law_1190 : decode cL_law 1190 = .ok (.iconst 2, 1) := by decide +kernel
theorem dL_law_1191 : decode cL_law 1191 = .ok (.iadd, 1) := by decide +kernel
theorem dL_law_1192 : decode cL_law 1192 = .ok (.iaload, 1) := by decide +kernel
theorem dL_law_1193 : decode cL_law 1193 = .ok (.invokevirtual 149, 3) := by decide +kernel
theorem dL_law_1196 : decode cL_law 1196 = .ok (.if_icmp .eq 432, 3) := by decide +kernel
theorem dL_law_1199 : decode cL_law 1199 = .ok (.iconst 0, 1) := by decide +kernel
theorem dL_law_1200 : decode cL_law 1200 = .ok (.ireturn, 1) := by decide +kernel
theorem dL_law_1201 : decode cL_law 1201 = .ok (.aload_n 1, 1) := by decide +kernel
theorem dL_law_1202 : decode cL_law 1202 = .ok (.aload_n 0, 1) := by decide +kernel
theorem dL_law_1203 : decode cL_law 1203 = .ok (.iload_n 3, 1) := by decide +kernel
theorem dL_law_1204 : decode cL_law 1204 = .ok (.iconst 1, 1) := by decide +kernel
theorem dL_law_1205 : decode cL_law 1205 = .ok (.iadd, 1) := by decide +kernel
theorem dL_law_1206 : decode cL_law 1206 = .ok (.iaload, 1) := by decide +kernel
theorem dL_law_1207 : decode cL_law 1207 = .ok (.invokevirtual 150, 3) := by decide +kernel
theorem dL_law_1210 : decode cL_law 1210 = .ok (.aload_n 2, 1) := by decide +kernel
theorem dL_law_1211 : decode cL_law 1211 = .ok (.aload_n 0, 1) := by decide +kernel
theorem dL_law_1212 : decode cL_law 1212 = .ok (.iload_n 3, 1) := by decide +kernel
theorem dL_law_1213 : decode cL_law 1213 = .ok (.iconst 1, 1) := by decide +kernel
theorem dL_law_1214 : decode cL_law 1214 = .ok (.iadd, 1) := by decide +kernel
theorem dL_law_1215 : decode cL_law 1215 = .ok (.iaload, 1) := by decide +kernel
theorem dL_law_1216 : decode cL_law 1216 = .ok (.invokevirtual 153, 3) := by decide +kernel
theorem dL_law_1219 : decode cL_law 1219 = .ok (.if_icmp .eq 409, 3) := by decide +kernel
theorem dL_law_1222 : decode cL_law 1222 = .ok (.iconst 0, 1) := by decide +kernel
theorem dL_law_1223 : decode cL_law 1223 = .ok (.ireturn, 1) := by decide +kernel
theorem dL_law_1224 : decode cL_law 1224 = .ok (.aload_n 1, 1) := by decide +kernel
theorem dL_law_1225 : decode cL_law 1225 = .ok (.aload_n 0, 1) := by decide +kernel
theorem dL_law_1226 : decode cL_law 1226 = .ok (.iload_n 3, 1) := by decide +kernel
theorem dL_law_1227 : decode cL_law 1227 = .ok (.iconst 1, 1) := by decide +kernel
theorem dL_law_1228 : decode cL_law 1228 = .ok (.iadd, 1) := by decide +kernel
theorem dL_law_1229 : decode cL_law 1229 = .ok (.iaload, 1) := by decide +kernel
theorem dL_law_1230 : decode cL_law 1230 = .ok (.invokevirtual 154, 3) := by decide +kernel
theorem dL_law_1233 : decode cL_law 1233 = .ok (.aload_n 2, 1) := by decide +kernel
theorem dL_law_1234 : decode cL_law 1234 = .ok (.aload_n 0, 1) := by decide +kernel
theorem dL_law_1235 : decode cL_law 1235 = .ok (.iload_n 3, 1) := by decide +kernel
theorem dL_law_1236 : decode cL_law 1236 = .ok (.iconst 1, 1) := by decide +kernel
theorem dL_law_1237 : decode cL_law 1237 = .ok (.iadd, 1) := by decide +kernel
theorem dL_law_1238 : decode cL_law 1238 = .ok (.iaload, 1) := by decide +kernel
theorem dL_law_1239 : decode cL_law 1239 = .ok (.invokevirtual 157, 3) := by decide +kernel
theorem dL_law_1242 : decode cL_law 1242 = .ok (.if_icmp .eq 386, 3) := by decide +kernel
theorem dL_law_1245 : decode cL_law 1245 = .ok (.iconst 0, 1) := by decide +kernel
theorem dL_law_1246 : decode cL_law 1246 = .ok (.ireturn, 1) := by decide +kernel
theorem dL_law_1247 : decode cL_law 1247 = .ok (.aload_n 1, 1) := by decide +kernel
theorem dL_law_1248 : decode cL_law 1248 = .ok (.aload_n 0, 1) := by decide +kernel
theorem dL_law_1249 : decode cL_law 1249 = .ok (.iload_n 3, 1) := by decide +kernel
theorem dL_law_1250 : decode cL_law 1250 = .ok (.iconst 1, 1) := by decide +kernel
theorem dL_law_1251 : decode cL_law 1251 = .ok (.iadd, 1) := by decide +kernel
theorem dL_law_1252 : decode cL_law 1252 = .ok (.iaload, 1) := by decide +kernel
theorem dL_law_1253 : decode cL_law 1253 = .ok (.invokevirtual 158, 3) := by decide +kernel
theorem dL_law_1256 : decode cL_law 1256 = .ok (.aload_n 2, 1) := by decide +kernel
theorem dL_law_1257 : decode cL_law 1257 = .ok (.aload_n 0, 1) := by decide +kernel
theorem dL_law_1258 : decode cL_law 1258 = .ok (.iload_n 3, 1) := by decide +kernel
theorem dL_law_1259 : decode cL_law 1259 = .ok (.iconst 1, 1) := by decide +kernel
theorem dL_law_1260 : decode cL_law 1260 = .ok (.iadd, 1) := by decide +kernel
theorem dL_law_1261 : decode cL_law 1261 = .ok (.iaload, 1) := by decide +kernel
theorem dL_law_1262 : decode cL_law 1262 = .ok (.invokevirtual 161, 3) := by decide +kernel
theorem dL_law_1265 : decode cL_law 1265 = .ok (.if_icmp .eq 363, 3) := by decide +kernel
theorem dL_law_1268 : decode cL_law 1268 = .ok (.iconst 0, 1) := by decide +kernel
theorem dL_law_1269 : decode cL_law 1269 = .ok (.ireturn, 1) := by decide +kernel
theorem dL_law_1270 : decode cL_law 1270 = .ok (.aload_n 1, 1) := by decide +kernel
theorem dL_law_1271 : decode cL_law 1271 = .ok (.aload_n 0, 1) := by decide +kernel
theorem dL_law_1272 : decode cL_law 1272 = .ok (.iload_n 3, 1) := by decide +kernel
theorem dL_law_1273 : decode cL_law 1273 = .ok (.iconst 1, 1) := by decide +kernel
theorem dL_law_1274 : decode cL_law 1274 = .ok (.iadd, 1) := by decide +kernel
theorem dL_law_1275 : decode cL_law 1275 = .ok (.iaload, 1) := by decide +kernel
theorem dL_law_1276 : decode cL_law 1276 = .ok (.aload_n 0, 1) := by decide +kernel
theorem dL_law_1277 : decode cL_law 1277 = .ok (.iload_n 3, 1) := by decide +kernel
theorem dL_law_1278 : decode cL_law 1278 = .ok (.iconst 2, 1) := by decide +kernel
theorem dL_law_1279 : decode cL_law 1279 = .ok (.iadd, 1) := by decide +kernel
theorem dL_law_1280 : decode cL_law 1280 = .ok (.iaload, 1) := by decide +kernel
theorem dL_law_1281 : decode cL_law 1281 = .ok (.invokevirtual 162, 3) := by decide +kernel
theorem dL_law_1284 : decode cL_law 1284 = .ok (.aload_n 2, 1) := by decide +kernel
theorem dL_law_1285 : decode cL_law 1285 = .ok (.aload_n 0, 1) := by decide +kernel
theorem dL_law_1286 : decode cL_law 1286 = .ok (.iload_n 3, 1) := by decide +kernel
theorem dL_law_1287 : decode cL_law 1287 = .ok (.iconst 1, 1) := by decide +kernel
theorem dL_law_1288 : decode cL_law 1288 = .ok (.iadd, 1) := by decide +kernel
theorem dL_law_1289 : decode cL_law 1289 = .ok (.iaload, 1) := by decide +kernel
theorem dL_law_1290 : decode cL_law 1290 = .ok (.aload_n 0, 1) := by decide +kernel
theorem dL_law_1291 : decode cL_law 1291 = .ok (.iload_n 3, 1) := by decide +kernel
theorem dL_law_1292 : decode cL_law 1292 = .ok (.iconst 2, 1) := by decide +kernel
theorem dL_law_1293 : decode cL_law 1293 = .ok (.iadd, 1) := by decide +kernel
theorem dL_law_1294 : decode cL_law 1294 = .ok (.iaload, 1) := by decide +kernel
theorem dL_law_1295 : decode cL_law 1295 = .ok (.invokevirtual 165, 3) := by decide +kernel
theorem dL_law_1298 : decode cL_law 1298 = .ok (.if_icmp .eq 330, 3) := by decide +kernel
theorem dL_law_1301 : decode cL_law 1301 = .ok (.iconst 0, 1) := by decide +kernel
theorem dL_law_1302 : decode cL_law 1302 = .ok (.ireturn, 1) := by decide +kernel
theorem dL_law_1303 : decode cL_law 1303 = .ok (.aload_n 1, 1) := by decide +kernel
theorem dL_law_1304 : decode cL_law 1304 = .ok (.aload_n 0, 1) := by decide +kernel
theorem dL_law_1305 : decode cL_law 1305 = .ok (.iload_n 3, 1) := by decide +kernel
theorem dL_law_1306 : decode cL_law 1306 = .ok (.iconst 1, 1) := by decide +kernel
theorem dL_law_1307 : decode cL_law 1307 = .ok (.iadd, 1) := by decide +kernel
theorem dL_law_1308 : decode cL_law 1308 = .ok (.iaload, 1) := by decide +kernel
theorem dL_law_1309 : decode cL_law 1309 = .ok (.aload_n 0, 1) := by decide +kernel
theorem dL_law_1310 : decode cL_law 1310 = .ok (.iload_n 3, 1) := by decide +kernel
theorem dL_law_1311 : decode cL_law 1311 = .ok (.iconst 2, 1) := by decide +kernel
theorem dL_law_1312 : decode cL_law 1312 = .ok (.iadd, 1) := by decide +kernel
theorem dL_law_1313 : decode cL_law 1313 = .ok (.iaload, 1) := by decide +kernel
theorem dL_law_1314 : decode cL_law 1314 = .ok (.aload_n 0, 1) := by decide +kernel
theorem dL_law_1315 : decode cL_law 1315 = .ok (.iload_n 3, 1) := by decide +kernel
theorem dL_law_1316 : decode cL_law 1316 = .ok (.iconst 3, 1) := by decide +kernel
theorem dL_law_1317 : decode cL_law 1317 = .ok (.iadd, 1) := by decide +kernel
theorem dL_law_1318 : decode cL_law 1318 = .ok (.iaload, 1) := by decide +kernel
theorem dL_law_1319 : decode cL_law 1319 = .ok (.invokevirtual 166, 3) := by decide +kernel
theorem dL_law_1322 : decode cL_law 1322 = .ok (.aload_n 2, 1) := by decide +kernel
theorem dL_law_1323 : decode cL_law 1323 = .ok (.aload_n 0, 1) := by decide +kernel
theorem dL_law_1324 : decode cL_law 1324 = .ok (.iload_n 3, 1) := by decide +kernel
theorem dL_law_1325 : decode cL_law 1325 = .ok (.iconst 1, 1) := by decide +kernel
theorem dL_law_1326 : decode cL_law 1326 = .ok (.iadd, 1) := by decide +kernel
theorem dL_law_1327 : decode cL_law 1327 = .ok (.iaload, 1) := by decide +kernel
theorem dL_law_1328 : decode cL_law 1328 = .ok (.aload_n 0, 1) := by decide +kernel
theorem dL_law_1329 : decode cL_law 1329 = .ok (.iload_n 3, 1) := by decide +kernel
theorem dL_law_1330 : decode cL_law 1330 = .ok (.iconst 2, 1) := by decide +kernel
theorem dL_law_1331 : decode cL_law 1331 = .ok (.iadd, 1) := by decide +kernel
theorem dL_law_1332 : decode cL_law 1332 = .ok (.iaload, 1) := by decide +kernel
theorem dL_law_1333 : decode cL_law 1333 = .ok (.aload_n 0, 1) := by decide +kernel
theorem dL_law_1334 : decode cL_law 1334 = .ok (.iload_n 3, 1) := by decide +kernel
theorem dL_law_1335 : decode cL_law 1335 = .ok (.iconst 3, 1) := by decide +kernel
theorem dL_law_1336 : decode cL_law 1336 = .ok (.iadd, 1) := by decide +kernel
theorem dL_law_1337 : decode cL_law 1337 = .ok (.iaload, 1) := by decide +kernel
theorem dL_law_1338 : decode cL_law 1338 = .ok (.invokevirtual 169, 3) := by decide +kernel
theorem dL_law_1341 : decode cL_law 1341 = .ok (.if_icmp .eq 287, 3) := by decide +kernel
theorem dL_law_1344 : decode cL_law 1344 = .ok (.iconst 0, 1) := by decide +kernel
theorem dL_law_1345 : decode cL_law 1345 = .ok (.ireturn, 1) := by decide +kernel
theorem dL_law_1346 : decode cL_law 1346 = .ok (.aload_n 1, 1) := by decide +kernel
theorem dL_law_1347 : decode cL_law 1347 = .ok (.aload_n 0, 1) := by decide +kernel
theorem dL_law_1348 : decode cL_law 1348 = .ok (.iload_n 3, 1) := by decide +kernel
theorem dL_law_1349 : decode cL_law 1349 = .ok (.iconst 1, 1) := by decide +kernel
theorem dL_law_1350 : decode cL_law 1350 = .ok (.iadd, 1) := by decide +kernel
theorem dL_law_1351 : decode cL_law 1351 = .ok (.iaload, 1) := by decide +kernel
theorem dL_law_1352 : decode cL_law 1352 = .ok (.aload_n 0, 1) := by decide +kernel
theorem dL_law_1353 : decode cL_law 1353 = .ok (.iload_n 3, 1) := by decide +kernel
theorem dL_law_1354 : decode cL_law 1354 = .ok (.iconst 2, 1) := by decide +kernel
theorem dL_law_1355 : decode cL_law 1355 = .ok (.iadd, 1) := by decide +kernel
theorem dL_law_1356 : decode cL_law 1356 = .ok (.iaload, 1) := by decide +kernel
theorem dL_law_1357 : decode cL_law 1357 = .ok (.aload_n 0, 1) := by decide +kernel
theorem dL_law_1358 : decode cL_law 1358 = .ok (.iload_n 3, 1) := by decide +kernel
theorem dL_law_1359 : decode cL_law 1359 = .ok (.iconst 3, 1) := by decide +kernel
theorem dL_law_1360 : decode cL_law 1360 = .ok (.iadd, 1) := by decide +kernel
theorem dL_law_1361 : decode cL_law 1361 = .ok (.iaload, 1) := by decide +kernel
theorem dL_law_1362 : decode cL_law 1362 = .ok (.invokevirtual 170, 3) := by decide +kernel
theorem dL_law_1365 : decode cL_law 1365 = .ok (.aload_n 2, 1) := by decide +kernel
theorem dL_law_1366 : decode cL_law 1366 = .ok (.aload_n 0, 1) := by decide +kernel
theorem dL_law_1367 : decode cL_law 1367 = .ok (.iload_n 3, 1) := by decide +kernel
theorem dL_law_1368 : decode cL_law 1368 = .ok (.iconst 1, 1) := by decide +kernel
theorem dL_law_1369 : decode cL_law 1369 = .ok (.iadd, 1) := by decide +kernel
theorem dL_law_1370 : decode cL_law 1370 = .ok (.iaload, 1) := by decide +kernel
theorem dL_law_1371 : decode cL_law 1371 = .ok (.aload_n 0, 1) := by decide +kernel
theorem dL_law_1372 : decode cL_law 1372 = .ok (.iload_n 3, 1) := by decide +kernel
theorem dL_law_1373 : decode cL_law 1373 = .ok (.iconst 2, 1) := by decide +kernel
theorem dL_law_1374 : decode cL_law 1374 = .ok (.iadd, 1) := by decide +kernel
theorem dL_law_1375 : decode cL_law 1375 = .ok (.iaload, 1) := by decide +kernel
theorem dL_law_1376 : decode cL_law 1376 = .ok (.aload_n 0, 1) := by decide +kernel
theorem dL_law_1377 : decode cL_law 1377 = .ok (.iload_n 3, 1) := by decide +kernel
theorem dL_law_1378 : decode cL_law 1378 = .ok (.iconst 3, 1) := by decide +kernel
theorem dL_law_1379 : decode cL_law 1379 = .ok (.iadd, 1) := by decide +kernel
theorem dL_law_1380 : decode cL_law 1380 = .ok (.iaload, 1) := by decide +kernel
theorem dL_law_1381 : decode cL_law 1381 = .ok (.invokevirtual 173, 3) := by decide +kernel
theorem dL_law_1384 : decode cL_law 1384 = .ok (.if_icmp .eq 244, 3) := by decide +kernel
theorem dL_law_1387 : decode cL_law 1387 = .ok (.iconst 0, 1) := by decide +kernel
theorem dL_law_1388 : decode cL_law 1388 = .ok (.ireturn, 1) := by decide +kernel
theorem dL_law_1389 : decode cL_law 1389 = .ok (.aload_n 1, 1) := by decide +kernel
theorem dL_law_1390 : decode cL_law 1390 = .ok (.aload_n 0, 1) := by decide +kernel
theorem dL_law_1391 : decode cL_law 1391 = .ok (.iload_n 3, 1) := by decide +kernel
theorem dL_law_1392 : decode cL_law 1392 = .ok (.iconst 1, 1) := by decide +kernel
theorem dL_law_1393 : decode cL_law 1393 = .ok (.iadd, 1) := by decide +kernel
theorem dL_law_1394 : decode cL_law 1394 = .ok (.iaload, 1) := by decide +kernel
theorem dL_law_1395 : decode cL_law 1395 = .ok (.aload_n 0, 1) := by decide +kernel
theorem dL_law_1396 : decode cL_law 1396 = .ok (.iload_n 3, 1) := by decide +kernel
theorem dL_law_1397 : decode cL_law 1397 = .ok (.iconst 2, 1) := by decide +kernel
theorem dL_law_1398 : decode cL_law 1398 = .ok (.iadd, 1) := by decide +kernel
theorem dL_law_1399 : decode cL_law 1399 = .ok (.iaload, 1) := by decide +kernel
theorem dL_law_1400 : decode cL_law 1400 = .ok (.invokevirtual 174, 3) := by decide +kernel
theorem dL_law_1403 : decode cL_law 1403 = .ok (.aload_n 2, 1) := by decide +kernel
theorem dL_law_1404 : decode cL_law 1404 = .ok (.aload_n 0, 1) := by decide +kernel
theorem dL_law_1405 : decode cL_law 1405 = .ok (.iload_n 3, 1) := by decide +kernel
theorem dL_law_1406 : decode cL_law 1406 = .ok (.iconst 1, 1) := by decide +kernel
theorem dL_law_1407 : decode cL_law 1407 = .ok (.iadd, 1) := by decide +kernel
theorem dL_law_1408 : decode cL_law 1408 = .ok (.iaload, 1) := by decide +kernel
theorem dL_law_1409 : decode cL_law 1409 = .ok (.aload_n 0, 1) := by decide +kernel
theorem dL_law_1410 : decode cL_law 1410 = .ok (.iload_n 3, 1) := by decide +kernel
theorem dL_law_1411 : decode cL_law 1411 = .ok (.iconst 2, 1) := by decide +kernel
theorem dL_law_1412 : decode cL_law 1412 = .ok (.iadd, 1) := by decide +kernel
theorem dL_law_1413 : decode cL_law 1413 = .ok (.iaload, 1) := by decide +kernel
theorem dL_law_1414 : decode cL_law 1414 = .ok (.invokevirtual 177, 3) := by decide +kernel
theorem dL_law_1417 : decode cL_law 1417 = .ok (.if_icmp .eq 211, 3) := by decide +kernel
theorem dL_law_1420 : decode cL_law 1420 = .ok (.iconst 0, 1) := by decide +kernel
theorem dL_law_1421 : decode cL_law 1421 = .ok (.ireturn, 1) := by decide +kernel
theorem dL_law_1422 : decode cL_law 1422 = .ok (.aload_n 1, 1) := by decide +kernel
theorem dL_law_1423 : decode cL_law 1423 = .ok (.aload_n 0, 1) := by decide +kernel
theorem dL_law_1424 : decode cL_law 1424 = .ok (.iload_n 3, 1) := by decide +kernel
theorem dL_law_1425 : decode cL_law 1425 = .ok (.iconst 1, 1) := by decide +kernel
theorem dL_law_1426 : decode cL_law 1426 = .ok (.iadd, 1) := by decide +kernel
theorem dL_law_1427 : decode cL_law 1427 = .ok (.iaload, 1) := by decide +kernel
theorem dL_law_1428 : decode cL_law 1428 = .ok (.invokevirtual 178, 3) := by decide +kernel
theorem dL_law_1431 : decode cL_law 1431 = .ok (.aload_n 2, 1) := by decide +kernel
theorem dL_law_1432 : decode cL_law 1432 = .ok (.aload_n 0, 1) := by decide +kernel
theorem dL_law_1433 : decode cL_law 1433 = .ok (.iload_n 3, 1) := by decide +kernel
theorem dL_law_1434 : decode cL_law 1434 = .ok (.iconst 1, 1) := by decide +kernel
theorem dL_law_1435 : decode cL_law 1435 = .ok (.iadd, 1) := by decide +kernel
theorem dL_law_1436 : decode cL_law 1436 = .ok (.iaload, 1) := by decide +kernel
theorem dL_law_1437 : decode cL_law 1437 = .ok (.invokevirtual 181, 3) := by decide +kernel
theorem dL_law_1440 : decode cL_law 1440 = .ok (.if_icmp .eq 188, 3) := by decide +kernel
theorem dL_law_1443 : decode cL_law 1443 = .ok (.iconst 0, 1) := by decide +kernel
theorem dL_law_1444 : decode cL_law 1444 = .ok (.ireturn, 1) := by decide +kernel
theorem dL_law_1445 : decode cL_law 1445 = .ok (.aload_n 1, 1) := by decide +kernel
theorem dL_law_1446 : decode cL_law 1446 = .ok (.aload_n 0, 1) := by decide +kernel
theorem dL_law_1447 : decode cL_law 1447 = .ok (.iload_n 3, 1) := by decide +kernel
theorem dL_law_1448 : decode cL_law 1448 = .ok (.iconst 1, 1) := by decide +kernel
theorem dL_law_1449 : decode cL_law 1449 = .ok (.iadd, 1) := by decide +kernel
theorem dL_law_1450 : decode cL_law 1450 = .ok (.iaload, 1) := by decide +kernel
theorem dL_law_1451 : decode cL_law 1451 = .ok (.invokevirtual 182, 3) := by decide +kernel
theorem dL_law_1454 : decode cL_law 1454 = .ok (.aload_n 2, 1) := by decide +kernel
theorem dL_law_1455 : decode cL_law 1455 = .ok (.aload_n 0, 1) := by decide +kernel
theorem dL_law_1456 : decode cL_law 1456 = .ok (.iload_n 3, 1) := by decide +kernel
theorem dL_law_1457 : decode cL_law 1457 = .ok (.iconst 1, 1) := by decide +kernel
theorem dL_law_1458 : decode cL_law 1458 = .ok (.iadd, 1) := by decide +kernel
theorem dL_law_1459 : decode cL_law 1459 = .ok (.iaload, 1) := by decide +kernel
theorem dL_law_1460 : decode cL_law 1460 = .ok (.invokevirtual 185, 3) := by decide +kernel
theorem dL_law_1463 : decode cL_law 1463 = .ok (.if_icmp .eq 165, 3) := by decide +kernel
theorem dL_law_1466 : decode cL_law 1466 = .ok (.iconst 0, 1) := by decide +kernel
theorem dL_law_1467 : decode cL_law 1467 = .ok (.ireturn, 1) := by decide +kernel
theorem dL_law_1468 : decode cL_law 1468 = .ok (.aload_n 1, 1) := by decide +kernel
theorem dL_law_1469 : decode cL_law 1469 = .ok (.aload_n 0, 1) := by decide +kernel
theorem dL_law_1470 : decode cL_law 1470 = .ok (.iload_n 3, 1) := by decide +kernel
theorem dL_law_1471 : decode cL_law 1471 = .ok (.iconst 1, 1) := by decide +kernel
theorem dL_law_1472 : decode cL_law 1472 = .ok (.iadd, 1) := by decide +kernel
theorem dL_law_1473 : decode cL_law 1473 = .ok (.iaload, 1) := by decide +kernel
theorem dL_law_1474 : decode cL_law 1474 = .ok (.invokevirtual 186, 3) := by decide +kernel
theorem dL_law_1477 : decode cL_law 1477 = .ok (.aload_n 2, 1) := by decide +kernel
theorem dL_law_1478 : decode cL_law 1478 = .ok (.aload_n 0, 1) := by decide +kernel
theorem dL_law_1479 : decode cL_law 1479 = .ok (.iload_n 3, 1) := by decide +kernel
theorem dL_law_1480 : decode cL_law 1480 = .ok (.iconst 1, 1) := by decide +kernel
theorem dL_law_1481 : decode cL_law 1481 = .ok (.iadd, 1) := by decide +kernel
theorem dL_law_1482 : decode cL_law 1482 = .ok (.iaload, 1) := by decide +kernel
theorem dL_law_1483 : decode cL_law 1483 = .ok (.invokevirtual 189, 3) := by decide +kernel
theorem dL_law_1486 : decode cL_law 1486 = .ok (.if_icmp .eq 142, 3) := by decide +kernel
theorem dL_law_1489 : decode cL_law 1489 = .ok (.iconst 0, 1) := by decide +kernel
theorem dL_law_1490 : decode cL_law 1490 = .ok (.ireturn, 1) := by decide +kernel
theorem dL_law_1491 : decode cL_law 1491 = .ok (.aload_n 1, 1) := by decide +kernel
theorem dL_law_1492 : decode cL_law 1492 = .ok (.aload_n 0, 1) := by decide +kernel
theorem dL_law_1493 : decode cL_law 1493 = .ok (.iload_n 3, 1) := by decide +kernel
theorem dL_law_1494 : decode cL_law 1494 = .ok (.iconst 1, 1) := by decide +kernel
theorem dL_law_1495 : decode cL_law 1495 = .ok (.iadd, 1) := by decide +kernel
theorem dL_law_1496 : decode cL_law 1496 = .ok (.iaload, 1) := by decide +kernel
theorem dL_law_1497 : decode cL_law 1497 = .ok (.invokevirtual 190, 3) := by decide +kernel
theorem dL_law_1500 : decode cL_law 1500 = .ok (.aload_n 2, 1) := by decide +kernel
theorem dL_law_1501 : decode cL_law 1501 = .ok (.aload_n 0, 1) := by decide +kernel
theorem dL_law_1502 : decode cL_law 1502 = .ok (.iload_n 3, 1) := by decide +kernel
theorem dL_law_1503 : decode cL_law 1503 = .ok (.iconst 1, 1) := by decide +kernel
theorem dL_law_1504 : decode cL_law 1504 = .ok (.iadd, 1) := by decide +kernel
theorem dL_law_1505 : decode cL_law 1505 = .ok (.iaload, 1) := by decide +kernel
theorem dL_law_1506 : decode cL_law 1506 = .ok (.invokevirtual 193, 3) := by decide +kernel
theorem dL_law_1509 : decode cL_law 1509 = .ok (.if_icmp .eq 119, 3) := by decide +kernel
theorem dL_law_1512 : decode cL_law 1512 = .ok (.iconst 0, 1) := by decide +kernel
theorem dL_law_1513 : decode cL_law 1513 = .ok (.ireturn, 1) := by decide +kernel
theorem dL_law_1514 : decode cL_law 1514 = .ok (.aload_n 1, 1) := by decide +kernel
theorem dL_law_1515 : decode cL_law 1515 = .ok (.invokevirtual 194, 3) := by decide +kernel
theorem dL_law_1518 : decode cL_law 1518 = .ok (.aload_n 2, 1) := by decide +kernel
theorem dL_law_1519 : decode cL_law 1519 = .ok (.invokevirtual 197, 3) := by decide +kernel
theorem dL_law_1522 : decode cL_law 1522 = .ok (.if_icmp .eq 106, 3) := by decide +kernel
theorem dL_law_1525 : decode cL_law 1525 = .ok (.iconst 0, 1) := by decide +kernel
theorem dL_law_1526 : decode cL_law 1526 = .ok (.ireturn, 1) := by decide +kernel
theorem dL_law_1527 : decode cL_law 1527 = .ok (.aload_n 1, 1) := by decide +kernel
theorem dL_law_1528 : decode cL_law 1528 = .ok (.invokevirtual 198, 3) := by decide +kernel
theorem dL_law_1531 : decode cL_law 1531 = .ok (.aload_n 2, 1) := by decide +kernel
theorem dL_law_1532 : decode cL_law 1532 = .ok (.invokevirtual 202, 3) := by decide +kernel
theorem dL_law_1535 : decode cL_law 1535 = .ok (.lcmp, 1) := by decide +kernel
theorem dL_law_1536 : decode cL_law 1536 = .ok (.ifCond .eq 92, 3) := by decide +kernel
theorem dL_law_1539 : decode cL_law 1539 = .ok (.iconst 0, 1) := by decide +kernel
theorem dL_law_1540 : decode cL_law 1540 = .ok (.ireturn, 1) := by decide +kernel
theorem dL_law_1541 : decode cL_law 1541 = .ok (.aload_n 1, 1) := by decide +kernel
theorem dL_law_1542 : decode cL_law 1542 = .ok (.invokevirtual 203, 3) := by decide +kernel
theorem dL_law_1545 : decode cL_law 1545 = .ok (.aload_n 2, 1) := by decide +kernel
theorem dL_law_1546 : decode cL_law 1546 = .ok (.invokevirtual 206, 3) := by decide +kernel
theorem dL_law_1549 : decode cL_law 1549 = .ok (.lcmp, 1) := by decide +kernel
theorem dL_law_1550 : decode cL_law 1550 = .ok (.ifCond .eq 78, 3) := by decide +kernel
theorem dL_law_1553 : decode cL_law 1553 = .ok (.iconst 0, 1) := by decide +kernel
theorem dL_law_1554 : decode cL_law 1554 = .ok (.ireturn, 1) := by decide +kernel
theorem dL_law_1555 : decode cL_law 1555 = .ok (.aload_n 1, 1) := by decide +kernel
theorem dL_law_1556 : decode cL_law 1556 = .ok (.aload_n 0, 1) := by decide +kernel
theorem dL_law_1557 : decode cL_law 1557 = .ok (.iload_n 3, 1) := by decide +kernel
theorem dL_law_1558 : decode cL_law 1558 = .ok (.iconst 1, 1) := by decide +kernel
theorem dL_law_1559 : decode cL_law 1559 = .ok (.iadd, 1) := by decide +kernel
theorem dL_law_1560 : decode cL_law 1560 = .ok (.iaload, 1) := by decide +kernel
theorem dL_law_1561 : decode cL_law 1561 = .ok (.invokevirtual 207, 3) := by decide +kernel
theorem dL_law_1564 : decode cL_law 1564 = .ok (.aload_n 2, 1) := by decide +kernel
theorem dL_law_1565 : decode cL_law 1565 = .ok (.aload_n 0, 1) := by decide +kernel
theorem dL_law_1566 : decode cL_law 1566 = .ok (.iload_n 3, 1) := by decide +kernel
theorem dL_law_1567 : decode cL_law 1567 = .ok (.iconst 1, 1) := by decide +kernel
theorem dL_law_1568 : decode cL_law 1568 = .ok (.iadd, 1) := by decide +kernel
theorem dL_law_1569 : decode cL_law 1569 = .ok (.iaload, 1) := by decide +kernel
theorem dL_law_1570 : decode cL_law 1570 = .ok (.invokevirtual 210, 3) := by decide +kernel
theorem dL_law_1573 : decode cL_law 1573 = .ok (.if_icmp .eq 55, 3) := by decide +kernel
theorem dL_law_1576 : decode cL_law 1576 = .ok (.iconst 0, 1) := by decide +kernel
theorem dL_law_1577 : decode cL_law 1577 = .ok (.ireturn, 1) := by decide +kernel
theorem dL_law_1578 : decode cL_law 1578 = .ok (.aload_n 1, 1) := by decide +kernel
theorem dL_law_1579 : decode cL_law 1579 = .ok (.invokevirtual 211, 3) := by decide +kernel
theorem dL_law_1582 : decode cL_law 1582 = .ok (.aload_n 2, 1) := by decide +kernel
theorem dL_law_1583 : decode cL_law 1583 = .ok (.invokevirtual 214, 3) := by decide +kernel
theorem dL_law_1586 : decode cL_law 1586 = .ok (.if_icmp .eq 42, 3) := by decide +kernel
theorem dL_law_1589 : decode cL_law 1589 = .ok (.iconst 0, 1) := by decide +kernel
theorem dL_law_1590 : decode cL_law 1590 = .ok (.ireturn, 1) := by decide +kernel
theorem dL_law_1591 : decode cL_law 1591 = .ok (.aload_n 1, 1) := by decide +kernel
theorem dL_law_1592 : decode cL_law 1592 = .ok (.aload_n 0, 1) := by decide +kernel
theorem dL_law_1593 : decode cL_law 1593 = .ok (.iload_n 3, 1) := by decide +kernel
theorem dL_law_1594 : decode cL_law 1594 = .ok (.iconst 1, 1) := by decide +kernel
theorem dL_law_1595 : decode cL_law 1595 = .ok (.iadd, 1) := by decide +kernel
theorem dL_law_1596 : decode cL_law 1596 = .ok (.iaload, 1) := by decide +kernel
theorem dL_law_1597 : decode cL_law 1597 = .ok (.invokevirtual 215, 3) := by decide +kernel
theorem dL_law_1600 : decode cL_law 1600 = .ok (.aload_n 2, 1) := by decide +kernel
theorem dL_law_1601 : decode cL_law 1601 = .ok (.aload_n 0, 1) := by decide +kernel
theorem dL_law_1602 : decode cL_law 1602 = .ok (.iload_n 3, 1) := by decide +kernel
theorem dL_law_1603 : decode cL_law 1603 = .ok (.iconst 1, 1) := by decide +kernel
theorem dL_law_1604 : decode cL_law 1604 = .ok (.iadd, 1) := by decide +kernel
theorem dL_law_1605 : decode cL_law 1605 = .ok (.iaload, 1) := by decide +kernel
theorem dL_law_1606 : decode cL_law 1606 = .ok (.invokevirtual 218, 3) := by decide +kernel
theorem dL_law_1609 : decode cL_law 1609 = .ok (.if_icmp .eq 19, 3) := by decide +kernel
theorem dL_law_1612 : decode cL_law 1612 = .ok (.iconst 0, 1) := by decide +kernel
theorem dL_law_1613 : decode cL_law 1613 = .ok (.ireturn, 1) := by decide +kernel
theorem dL_law_1614 : decode cL_law 1614 = .ok (.aload_n 1, 1) := by decide +kernel
theorem dL_law_1615 : decode cL_law 1615 = .ok (.invokevirtual 219, 3) := by decide +kernel
theorem dL_law_1618 : decode cL_law 1618 = .ok (.aload_n 2, 1) := by decide +kernel
theorem dL_law_1619 : decode cL_law 1619 = .ok (.invokevirtual 222, 3) := by decide +kernel
theorem dL_law_1622 : decode cL_law 1622 = .ok (.lcmp, 1) := by decide +kernel
theorem dL_law_1623 : decode cL_law 1623 = .ok (.ifCond .eq 5, 3) := by decide +kernel
theorem dL_law_1626 : decode cL_law 1626 = .ok (.iconst 0, 1) := by decide +kernel
theorem dL_law_1627 : decode cL_law 1627 = .ok (.ireturn, 1) := by decide +kernel
theorem dL_law_1628 : decode cL_law 1628 = .ok (.iinc 3 6, 3) := by decide +kernel
theorem dL_law_1631 : decode cL_law 1631 = .ok (.goto (-1613), 3) := by decide +kernel
theorem dL_law_1634 : decode cL_law 1634 = .ok (.iconst 1, 1) := by decide +kernel
theorem dL_law_1635 : decode cL_law 1635 = .ok (.ireturn, 1) := by decide +kernel
