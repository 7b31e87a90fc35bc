theorem dX0_init_0 : decode cX0_init 0 = .ok (.aload_n 0, 1) := by decide +kernel
theorem dX0_init_1 : decode cX0_init 1 = .ok (.invokespecial 3, 3) := by decide +kernel
theorem dX0_init_4 : decode cX0_init 4 = .ok (.aload_n 0, 1) := by decide +kernel
theorem dX0_init_5 : decode cX0_init 5 = .ok (.new 9, 3) := by decide +kernel
theorem dX0_init_8 : decode cX0_init 8 = .ok (.dup, 1) := by decide +kernel
theorem dX0_init_9 : decode cX0_init 9 = .ok (.bipush 24, 2) := by decide +kernel
theorem dX0_init_11 : decode cX0_init 11 = .ok (.invokespecial 11, 3) := by decide +kernel
theorem dX0_init_14 : decode cX0_init 14 = .ok (.putfield 14, 3) := by decide +kernel
theorem dX0_init_17 : decode cX0_init 17 = .ok (.aload_n 0, 1) := by decide +kernel
theorem dX0_init_18 : decode cX0_init 18 = .ok (.new 9, 3) := by decide +kernel
theorem dX0_init_21 : decode cX0_init 21 = .ok (.dup, 1) := by decide +kernel
theorem dX0_init_22 : decode cX0_init 22 = .ok (.bipush 24, 2) := by decide +kernel
theorem dX0_init_24 : decode cX0_init 24 = .ok (.invokespecial 11, 3) := by decide +kernel
theorem dX0_init_27 : decode cX0_init 27 = .ok (.putfield 20, 3) := by decide +kernel
theorem dX0_init_30 : decode cX0_init 30 = .ok (.aload_n 0, 1) := by decide +kernel
theorem dX0_init_31 : decode cX0_init 31 = .ok (.iconst 0, 1) := by decide +kernel
theorem dX0_init_32 : decode cX0_init 32 = .ok (.putfield 23, 3) := by decide +kernel
theorem dX0_init_35 : decode cX0_init 35 = .ok (.aload_n 0, 1) := by decide +kernel
theorem dX0_init_36 : decode cX0_init 36 = .ok (.iconst 0, 1) := by decide +kernel
theorem dX0_init_37 : decode cX0_init 37 = .ok (.putfield 27, 3) := by decide +kernel
theorem dX0_init_40 : decode cX0_init 40 = .ok (.aload_n 0, 1) := by decide +kernel
theorem dX0_init_41 : decode cX0_init 41 = .ok (.new 9, 3) := by decide +kernel
theorem dX0_init_44 : decode cX0_init 44 = .ok (.dup, 1) := by decide +kernel
theorem dX0_init_45 : decode cX0_init 45 = .ok (.bipush 24, 2) := by decide +kernel
theorem dX0_init_47 : decode cX0_init 47 = .ok (.invokespecial 11, 3) := by decide +kernel
theorem dX0_init_50 : decode cX0_init 50 = .ok (.putfield 30, 3) := by decide +kernel
theorem dX0_init_53 : decode cX0_init 53 = .ok (.aload_n 0, 1) := by decide +kernel
theorem dX0_init_54 : decode cX0_init 54 = .ok (.new 9, 3) := by decide +kernel
theorem dX0_init_57 : decode cX0_init 57 = .ok (.dup, 1) := by decide +kernel
theorem dX0_init_58 : decode cX0_init 58 = .ok (.bipush 24, 2) := by decide +kernel
theorem dX0_init_60 : decode cX0_init 60 = .ok (.invokespecial 11, 3) := by decide +kernel
theorem dX0_init_63 : decode cX0_init 63 = .ok (.putfield 33, 3) := by decide +kernel
theorem dX0_init_66 : decode cX0_init 66 = .ok (.return_, 1) := by decide +kernel
theorem dX0_find_0 : decode cX0_find 0 = .ok (.aload_n 0, 1) := by decide +kernel
theorem dX0_find_1 : decode cX0_find 1 = .ok (.aload_n 1, 1) := by decide +kernel
theorem dX0_find_2 : decode cX0_find 2 = .ok (.getfield 36, 3) := by decide +kernel
theorem dX0_find_5 : decode cX0_find 5 = .ok (.iconst 0, 1) := by decide +kernel
theorem dX0_find_6 : decode cX0_find 6 = .ok (.invokevirtual 41, 3) := by decide +kernel
theorem dX0_find_9 : decode cX0_find 9 = .ok (.putfield 27, 3) := by decide +kernel
theorem dX0_find_12 : decode cX0_find 12 = .ok (.aload_n 1, 1) := by decide +kernel
theorem dX0_find_13 : decode cX0_find 13 = .ok (.getfield 45, 3) := by decide +kernel
theorem dX0_find_16 : decode cX0_find 16 = .ok (.aload_n 0, 1) := by decide +kernel
theorem dX0_find_17 : decode cX0_find 17 = .ok (.getfield 30, 3) := by decide +kernel
theorem dX0_find_20 : decode cX0_find 20 = .ok (.aload_n 0, 1) := by decide +kernel
theorem dX0_find_21 : decode cX0_find 21 = .ok (.getfield 27, 3) := by decide +kernel
theorem dX0_find_24 : decode cX0_find 24 = .ok (.iconst 0, 1) := by decide +kernel
theorem dX0_find_25 : decode cX0_find 25 = .ok (.invokevirtual 49, 3) := by decide +kernel
theorem dX0_find_28 : decode cX0_find 28 = .ok (.istore_n 3, 1) := by decide +kernel
theorem dX0_find_29 : decode cX0_find 29 = .ok (.aload_n 1, 1) := by decide +kernel
theorem dX0_find_30 : decode cX0_find 30 = .ok (.getfield 55, 3) := by decide +kernel
theorem dX0_find_33 : decode cX0_find 33 = .ok (.aload_n 0, 1) := by decide +kernel
theorem dX0_find_34 : decode cX0_find 34 = .ok (.getfield 33, 3) := by decide +kernel
theorem dX0_find_37 : decode cX0_find 37 = .ok (.aload_n 0, 1) := by decide +kernel
theorem dX0_find_38 : decode cX0_find 38 = .ok (.getfield 27, 3) := by decide +kernel
theorem dX0_find_41 : decode cX0_find 41 = .ok (.iload_n 2, 1) := by decide +kernel
theorem dX0_find_42 : decode cX0_find 42 = .ok (.invokevirtual 49, 3) := by decide +kernel
theorem dX0_find_45 : decode cX0_find 45 = .ok (.istore 4, 2) := by decide +kernel
theorem dX0_find_47 : decode cX0_find 47 = .ok (.aload_n 0, 1) := by decide +kernel
theorem dX0_find_48 : decode cX0_find 48 = .ok (.iconst 0, 1) := by decide +kernel
theorem dX0_find_49 : decode cX0_find 49 = .ok (.putfield 23, 3) := by decide +kernel
theorem dX0_find_52 : decode cX0_find 52 = .ok (.iconst 0, 1) := by decide +kernel
theorem dX0_find_53 : decode cX0_find 53 = .ok (.istore 5, 2) := by decide +kernel
theorem dX0_find_55 : decode cX0_find 55 = .ok (.iload 5, 2) := by decide +kernel
theorem dX0_find_57 : decode cX0_find 57 = .ok (.iload_n 3, 1) := by decide +kernel
theorem dX0_find_58 : decode cX0_find 58 = .ok (.if_icmp .ge 129, 3) := by decide +kernel
theorem dX0_find_61 : decode cX0_find 61 = .ok (.aload_n 0, 1) := by decide +kernel
theorem dX0_find_62 : decode cX0_find 62 = .ok (.getfield 30, 3) := by decide +kernel
theorem dX0_find_65 : decode cX0_find 65 = .ok (.iload 5, 2) := by decide +kernel
theorem dX0_find_67 : decode cX0_find 67 = .ok (.invokevirtual 41, 3) := by decide +kernel
theorem dX0_find_70 : decode cX0_find 70 = .ok (.istore 6, 2) := by decide +kernel
theorem dX0_find_72 : decode cX0_find 72 = .ok (.iload_n 2, 1) := by decide +kernel
theorem dX0_find_73 : decode cX0_find 73 = .ok (.ifCond .eq 26, 3) := by decide +kernel
theorem dX0_find_76 : decode cX0_find 76 = .ok (.iload 6, 2) := by decide +kernel
theorem dX0_find_78 : decode cX0_find 78 = .ok (.aload_n 1, 1) := by decide +kernel
theorem dX0_find_79 : decode cX0_find 79 = .ok (.getfield 45, 3) := by decide +kernel
theorem dX0_find_82 : decode cX0_find 82 = .ok (.iload 5, 2) := by decide +kernel
theorem dX0_find_84 : decode cX0_find 84 = .ok (.aload_n 0, 1) := by decide +kernel
theorem dX0_find_85 : decode cX0_find 85 = .ok (.getfield 27, 3) := by decide +kernel
theorem dX0_find_88 : decode cX0_find 88 = .ok (.iconst 1, 1) := by decide +kernel
theorem dX0_find_89 : decode cX0_find 89 = .ok (.invokevirtual 58, 3) := by decide +kernel
theorem dX0_find_92 : decode cX0_find 92 = .ok (.if_icmp .ne 7, 3) := by decide +kernel
theorem dX0_find_95 : decode cX0_find 95 = .ok (.iconst 1, 1) := by decide +kernel
theorem dX0_find_96 : decode cX0_find 96 = .ok (.goto 4, 3) := by decide +kernel
theorem dX0_find_99 : decode cX0_find 99 = .ok (.iconst 0, 1) := by decide +kernel
theorem dX0_find_100 : decode cX0_find 100 = .ok (.istore 7, 2) := by decide +kernel
theorem dX0_find_102 : decode cX0_find 102 = .ok (.iload 7, 2) := by decide +kernel
theorem dX0_find_104 : decode cX0_find 104 = .ok (.ifCond .ne 77, 3) := by decide +kernel
theorem dX0_find_107 : decode cX0_find 107 = .ok (.aload_n 0, 1) := by decide +kernel
theorem dX0_find_108 : decode cX0_find 108 = .ok (.getfield 30, 3) := by decide +kernel
theorem dX0_find_111 : decode cX0_find 111 = .ok (.iload_n 3, 1) := by decide +kernel
theorem dX0_find_112 : decode cX0_find 112 = .ok (.iload 6, 2) := by decide +kernel
theorem dX0_find_114 : decode cX0_find 114 = .ok (.invokestatic 62, 3) := by decide +kernel
theorem dX0_find_117 : decode cX0_find 117 = .ok (.iconst 1, 1) := by decide +kernel
theorem dX0_find_118 : decode cX0_find 118 = .ok (.if_icmp .ne 63, 3) := by decide +kernel
theorem dX0_find_121 : decode cX0_find 121 = .ok (.aload_n 0, 1) := by decide +kernel
theorem dX0_find_122 : decode cX0_find 122 = .ok (.getfield 33, 3) := by decide +kernel
theorem dX0_find_125 : decode cX0_find 125 = .ok (.iload 4, 2) := by decide +kernel
theorem dX0_find_127 : decode cX0_find 127 = .ok (.iload 6, 2) := by decide +kernel
theorem dX0_find_129 : decode cX0_find 129 = .ok (.invokestatic 62, 3) := by decide +kernel
theorem dX0_find_132 : decode cX0_find 132 = .ok (.iconst 1, 1) := by decide +kernel
theorem dX0_find_133 : decode cX0_find 133 = .ok (.if_icmp .ne 48, 3) := by decide +kernel
theorem dX0_find_136 : decode cX0_find 136 = .ok (.aload_n 0, 1) := by decide +kernel
theorem dX0_find_137 : decode cX0_find 137 = .ok (.getfield 14, 3) := by decide +kernel
theorem dX0_find_140 : decode cX0_find 140 = .ok (.aload_n 0, 1) := by decide +kernel
theorem dX0_find_141 : decode cX0_find 141 = .ok (.getfield 23, 3) := by decide +kernel
theorem dX0_find_144 : decode cX0_find 144 = .ok (.iload 5, 2) := by decide +kernel
theorem dX0_find_146 : decode cX0_find 146 = .ok (.invokevirtual 66, 3) := by decide +kernel
theorem dX0_find_149 : decode cX0_find 149 = .ok (.aload_n 0, 1) := by decide +kernel
theorem dX0_find_150 : decode cX0_find 150 = .ok (.getfield 20, 3) := by decide +kernel
theorem dX0_find_153 : decode cX0_find 153 = .ok (.aload_n 0, 1) := by decide +kernel
theorem dX0_find_154 : decode cX0_find 154 = .ok (.getfield 23, 3) := by decide +kernel
theorem dX0_find_157 : decode cX0_find 157 = .ok (.aload_n 0, 1) := by decide +kernel
theorem dX0_find_158 : decode cX0_find 158 = .ok (.getfield 33, 3) := by decide +kernel
theorem dX0_find_161 : decode cX0_find 161 = .ok (.iload 4, 2) := by decide +kernel
theorem dX0_find_163 : decode cX0_find 163 = .ok (.iload 6, 2) := by decide +kernel
theorem dX0_find_165 : decode cX0_find 165 = .ok (.invokestatic 70, 3) := by decide +kernel
theorem dX0_find_168 : decode cX0_find 168 = .ok (.invokevirtual 66, 3) := by decide +kernel
theorem dX0_find_171 : decode cX0_find 171 = .ok (.aload_n 0, 1) := by decide +kernel
theorem dX0_find_172 : decode cX0_find 172 = .ok (.dup, 1) := by decide +kernel
theorem dX0_find_173 : decode cX0_find 173 = .ok (.getfield 23, 3) := by decide +kernel
theorem dX0_find_176 : decode cX0_find 176 = .ok (.iconst 1, 1) := by decide +kernel
theorem dX0_find_177 : decode cX0_find 177 = .ok (.iadd, 1) := by decide +kernel
theorem dX0_find_178 : decode cX0_find 178 = .ok (.putfield 23, 3) := by decide +kernel
theorem dX0_find_181 : decode cX0_find 181 = .ok (.iinc 5 1, 3) := by decide +kernel
theorem dX0_find_184 : decode cX0_find 184 = .ok (.goto (-129), 3) := by decide +kernel
theorem dX0_find_187 : decode cX0_find 187 = .ok (.return_, 1) := by decide +kernel
theorem dX0_times_0 : decode cX0_times 0 = .ok (.iconst 0, 1) := by decide +kernel
theorem dX0_times_1 : decode cX0_times 1 = .ok (.istore_n 3, 1) := by decide +kernel
theorem dX0_times_2 : decode cX0_times 2 = .ok (.iconst 0, 1) := by decide +kernel
theorem dX0_times_3 : decode cX0_times 3 = .ok (.istore 4, 2) := by decide +kernel
theorem dX0_times_5 : decode cX0_times 5 = .ok (.iload 4, 2) := by decide +kernel
theorem dX0_times_7 : decode cX0_times 7 = .ok (.iload_n 1, 1) := by decide +kernel
theorem dX0_times_8 : decode cX0_times 8 = .ok (.if_icmp .ge 22, 3) := by decide +kernel
theorem dX0_times_11 : decode cX0_times 11 = .ok (.aload_n 0, 1) := by decide +kernel
theorem dX0_times_12 : decode cX0_times 12 = .ok (.iload 4, 2) := by decide +kernel
theorem dX0_times_14 : decode cX0_times 14 = .ok (.invokevirtual 41, 3) := by decide +kernel
theorem dX0_times_17 : decode cX0_times 17 = .ok (.iload_n 2, 1) := by decide +kernel
theorem dX0_times_18 : decode cX0_times 18 = .ok (.if_icmp .ne 6, 3) := by decide +kernel
theorem dX0_times_21 : decode cX0_times 21 = .ok (.iinc 3 1, 3) := by decide +kernel
theorem dX0_times_24 : decode cX0_times 24 = .ok (.iinc 4 1, 3) := by decide +kernel
theorem dX0_times_27 : decode cX0_times 27 = .ok (.goto (-22), 3) := by decide +kernel
theorem dX0_times_30 : decode cX0_times 30 = .ok (.iload_n 3, 1) := by decide +kernel
theorem dX0_times_31 : decode cX0_times 31 = .ok (.ireturn, 1) := by decide +kernel
theorem dX0_firstPlace_0 : decode cX0_firstPlace 0 = .ok (.iconst 0, 1) := by decide +kernel
theorem dX0_firstPlace_1 : decode cX0_firstPlace 1 = .ok (.istore_n 3, 1) := by decide +kernel
theorem dX0_firstPlace_2 : decode cX0_firstPlace 2 = .ok (.iload_n 3, 1) := by decide +kernel
theorem dX0_firstPlace_3 : decode cX0_firstPlace 3 = .ok (.iload_n 1, 1) := by decide +kernel
theorem dX0_firstPlace_4 : decode cX0_firstPlace 4 = .ok (.if_icmp .ge 20, 3) := by decide +kernel
theorem dX0_firstPlace_7 : decode cX0_firstPlace 7 = .ok (.aload_n 0, 1) := by decide +kernel
theorem dX0_firstPlace_8 : decode cX0_firstPlace 8 = .ok (.iload_n 3, 1) := by decide +kernel
theorem dX0_firstPlace_9 : decode cX0_firstPlace 9 = .ok (.invokevirtual 41, 3) := by decide +kernel
theorem dX0_firstPlace_12 : decode cX0_firstPlace 12 = .ok (.iload_n 2, 1) := by decide +kernel
theorem dX0_firstPlace_13 : decode cX0_firstPlace 13 = .ok (.if_icmp .ne 5, 3) := by decide +kernel
theorem dX0_firstPlace_16 : decode cX0_firstPlace 16 = .ok (.iload_n 3, 1) := by decide +kernel
theorem dX0_firstPlace_17 : decode cX0_firstPlace 17 = .ok (.ireturn, 1) := by decide +kernel
theorem dX0_firstPlace_18 : decode cX0_firstPlace 18 = .ok (.iinc 3 1, 3) := by decide +kernel
theorem dX0_firstPlace_21 : decode cX0_firstPlace 21 = .ok (.goto (-19), 3) := by decide +kernel
theorem dX0_firstPlace_24 : decode cX0_firstPlace 24 = .ok (.iconst (-1), 1) := by decide +kernel
theorem dX0_firstPlace_25 : decode cX0_firstPlace 25 = .ok (.ireturn, 1) := by decide +kernel
theorem dX0_fit_0 : decode cX0_fit 0 = .ok (.aload_n 0, 1) := by decide +kernel
theorem dX0_fit_1 : decode cX0_fit 1 = .ok (.getfield 14, 3) := by decide +kernel
theorem dX0_fit_4 : decode cX0_fit 4 = .ok (.iload_n 2, 1) := by decide +kernel
theorem dX0_fit_5 : decode cX0_fit 5 = .ok (.invokevirtual 41, 3) := by decide +kernel
theorem dX0_fit_8 : decode cX0_fit 8 = .ok (.aload_n 0, 1) := by decide +kernel
theorem dX0_fit_9 : decode cX0_fit 9 = .ok (.getfield 14, 3) := by decide +kernel
theorem dX0_fit_12 : decode cX0_fit 12 = .ok (.iload_n 1, 1) := by decide +kernel
theorem dX0_fit_13 : decode cX0_fit 13 = .ok (.invokevirtual 41, 3) := by decide +kernel
theorem dX0_fit_16 : decode cX0_fit 16 = .ok (.isub, 1) := by decide +kernel
theorem dX0_fit_17 : decode cX0_fit 17 = .ok (.istore_n 3, 1) := by decide +kernel
theorem dX0_fit_18 : decode cX0_fit 18 = .ok (.aload_n 0, 1) := by decide +kernel
theorem dX0_fit_19 : decode cX0_fit 19 = .ok (.getfield 20, 3) := by decide +kernel
theorem dX0_fit_22 : decode cX0_fit 22 = .ok (.iload_n 2, 1) := by decide +kernel
theorem dX0_fit_23 : decode cX0_fit 23 = .ok (.invokevirtual 41, 3) := by decide +kernel
theorem dX0_fit_26 : decode cX0_fit 26 = .ok (.aload_n 0, 1) := by decide +kernel
theorem dX0_fit_27 : decode cX0_fit 27 = .ok (.getfield 20, 3) := by decide +kernel
theorem dX0_fit_30 : decode cX0_fit 30 = .ok (.iload_n 1, 1) := by decide +kernel
theorem dX0_fit_31 : decode cX0_fit 31 = .ok (.invokevirtual 41, 3) := by decide +kernel
theorem dX0_fit_34 : decode cX0_fit 34 = .ok (.isub, 1) := by decide +kernel
theorem dX0_fit_35 : decode cX0_fit 35 = .ok (.istore 4, 2) := by decide +kernel
theorem dX0_fit_37 : decode cX0_fit 37 = .ok (.iload_n 3, 1) := by decide +kernel
theorem dX0_fit_38 : decode cX0_fit 38 = .ok (.ifCond .le 8, 3) := by decide +kernel
theorem dX0_fit_41 : decode cX0_fit 41 = .ok (.iload 4, 2) := by decide +kernel
theorem dX0_fit_43 : decode cX0_fit 43 = .ok (.ifCond .gt 5, 3) := by decide +kernel
theorem dX0_fit_46 : decode cX0_fit 46 = .ok (.iconst 0, 1) := by decide +kernel
theorem dX0_fit_47 : decode cX0_fit 47 = .ok (.ireturn, 1) := by decide +kernel
theorem dX0_fit_48 : decode cX0_fit 48 = .ok (.iload_n 3, 1) := by decide +kernel
theorem dX0_fit_49 : decode cX0_fit 49 = .ok (.iload 4, 2) := by decide +kernel
theorem dX0_fit_51 : decode cX0_fit 51 = .ok (.if_icmp .eq 20, 3) := by decide +kernel
theorem dX0_fit_54 : decode cX0_fit 54 = .ok (.iload_n 3, 1) := by decide +kernel
theorem dX0_fit_55 : decode cX0_fit 55 = .ok (.aload_n 0, 1) := by decide +kernel
theorem dX0_fit_56 : decode cX0_fit 56 = .ok (.getfield 27, 3) := by decide +kernel
theorem dX0_fit_59 : decode cX0_fit 59 = .ok (.if_icmp .lt 16, 3) := by decide +kernel
theorem dX0_fit_62 : decode cX0_fit 62 = .ok (.iload 4, 2) := by decide +kernel
theorem dX0_fit_64 : decode cX0_fit 64 = .ok (.aload_n 0, 1) := by decide +kernel
theorem dX0_fit_65 : decode cX0_fit 65 = .ok (.getfield 27, 3) := by decide +kernel
theorem dX0_fit_68 : decode cX0_fit 68 = .ok (.if_icmp .lt 7, 3) := by decide +kernel
theorem dX0_fit_71 : decode cX0_fit 71 = .ok (.iconst 1, 1) := by decide +kernel
theorem dX0_fit_72 : decode cX0_fit 72 = .ok (.goto 4, 3) := by decide +kernel
theorem dX0_fit_75 : decode cX0_fit 75 = .ok (.iconst 0, 1) := by decide +kernel
theorem dX0_fit_76 : decode cX0_fit 76 = .ok (.ireturn, 1) := by decide +kernel
theorem dX1_init_0 : decode cX1_init 0 = .ok (.aload_n 0, 1) := by decide +kernel
theorem dX1_init_1 : decode cX1_init 1 = .ok (.invokespecial 3, 3) := by decide +kernel
theorem dX1_init_4 : decode cX1_init 4 = .ok (.aload_n 0, 1) := by decide +kernel
theorem dX1_init_5 : decode cX1_init 5 = .ok (.iload_n 1, 1) := by decide +kernel
theorem dX1_init_6 : decode cX1_init 6 = .ok (.ifCond .ge 7, 3) := by decide +kernel
theorem dX1_init_9 : decode cX1_init 9 = .ok (.iconst 0, 1) := by decide +kernel
theorem dX1_init_10 : decode cX1_init 10 = .ok (.goto 4, 3) := by decide +kernel
theorem dX1_init_13 : decode cX1_init 13 = .ok (.iload_n 1, 1) := by decide +kernel
theorem dX1_init_14 : decode cX1_init 14 = .ok (.newarray .int, 2) := by decide +kernel
theorem dX1_init_16 : decode cX1_init 16 = .ok (.putfield 9, 3) := by decide +kernel
theorem dX1_init_19 : decode cX1_init 19 = .ok (.return_, 1) := by decide +kernel
theorem dX1_at_0 : decode cX1_at 0 = .ok (.iload_n 1, 1) := by decide +kernel
theorem dX1_at_1 : decode cX1_at 1 = .ok (.ifCond .lt 21, 3) := by decide +kernel
theorem dX1_at_4 : decode cX1_at 4 = .ok (.iload_n 1, 1) := by decide +kernel
theorem dX1_at_5 : decode cX1_at 5 = .ok (.aload_n 0, 1) := by decide +kernel
theorem dX1_at_6 : decode cX1_at 6 = .ok (.getfield 9, 3) := by decide +kernel
theorem dX1_at_9 : decode cX1_at 9 = .ok (.arraylength, 1) := by decide +kernel
theorem dX1_at_10 : decode cX1_at 10 = .ok (.if_icmp .ge 12, 3) := by decide +kernel
theorem dX1_at_13 : decode cX1_at 13 = .ok (.aload_n 0, 1) := by decide +kernel
theorem dX1_at_14 : decode cX1_at 14 = .ok (.getfield 9, 3) := by decide +kernel
theorem dX1_at_17 : decode cX1_at 17 = .ok (.iload_n 1, 1) := by decide +kernel
theorem dX1_at_18 : decode cX1_at 18 = .ok (.iaload, 1) := by decide +kernel
theorem dX1_at_19 : decode cX1_at 19 = .ok (.goto 4, 3) := by decide +kernel
theorem dX1_at_22 : decode cX1_at 22 = .ok (.iconst (-1), 1) := by decide +kernel
theorem dX1_at_23 : decode cX1_at 23 = .ok (.ireturn, 1) := by decide +kernel
theorem dX1_store_0 : decode cX1_store 0 = .ok (.iload_n 1, 1) := by decide +kernel
theorem dX1_store_1 : decode cX1_store 1 = .ok (.ifCond .lt 19, 3) := by decide +kernel
theorem dX1_store_4 : decode cX1_store 4 = .ok (.iload_n 1, 1) := by decide +kernel
theorem dX1_store_5 : decode cX1_store 5 = .ok (.aload_n 0, 1) := by decide +kernel
theorem dX1_store_6 : decode cX1_store 6 = .ok (.getfield 9, 3) := by decide +kernel
theorem dX1_store_9 : decode cX1_store 9 = .ok (.arraylength, 1) := by decide +kernel
theorem dX1_store_10 : decode cX1_store 10 = .ok (.if_icmp .ge 10, 3) := by decide +kernel
theorem dX1_store_13 : decode cX1_store 13 = .ok (.aload_n 0, 1) := by decide +kernel
theorem dX1_store_14 : decode cX1_store 14 = .ok (.getfield 9, 3) := by decide +kernel
theorem dX1_store_17 : decode cX1_store 17 = .ok (.iload_n 1, 1) := by decide +kernel
theorem dX1_store_18 : decode cX1_store 18 = .ok (.iload_n 2, 1) := by decide +kernel
theorem dX1_store_19 : decode cX1_store 19 = .ok (.iastore, 1) := by decide +kernel
theorem dX1_store_20 : decode cX1_store 20 = .ok (.return_, 1) := by decide +kernel
theorem dX2_init_0 : decode cX2_init 0 = .ok (.aload_n 0, 1) := by decide +kernel
theorem dX2_init_1 : decode cX2_init 1 = .ok (.invokespecial 3, 3) := by decide +kernel
theorem dX2_init_4 : decode cX2_init 4 = .ok (.aload_n 0, 1) := by decide +kernel
theorem dX2_init_5 : decode cX2_init 5 = .ok (.new 9, 3) := by decide +kernel
theorem dX2_init_8 : decode cX2_init 8 = .ok (.dup, 1) := by decide +kernel
theorem dX2_init_9 : decode cX2_init 9 = .ok (.bipush 24, 2) := by decide +kernel
theorem dX2_init_11 : decode cX2_init 11 = .ok (.invokespecial 11, 3) := by decide +kernel
theorem dX2_init_14 : decode cX2_init 14 = .ok (.putfield 14, 3) := by decide +kernel
theorem dX2_init_17 : decode cX2_init 17 = .ok (.aload_n 0, 1) := by decide +kernel
theorem dX2_init_18 : decode cX2_init 18 = .ok (.new 9, 3) := by decide +kernel
theorem dX2_init_21 : decode cX2_init 21 = .ok (.dup, 1) := by decide +kernel
theorem dX2_init_22 : decode cX2_init 22 = .ok (.bipush 24, 2) := by decide +kernel
theorem dX2_init_24 : decode cX2_init 24 = .ok (.invokespecial 11, 3) := by decide +kernel
theorem dX2_init_27 : decode cX2_init 27 = .ok (.putfield 20, 3) := by decide +kernel
theorem dX2_init_30 : decode cX2_init 30 = .ok (.aload_n 0, 1) := by decide +kernel
theorem dX2_init_31 : decode cX2_init 31 = .ok (.new 9, 3) := by decide +kernel
theorem dX2_init_34 : decode cX2_init 34 = .ok (.dup, 1) := by decide +kernel
theorem dX2_init_35 : decode cX2_init 35 = .ok (.bipush 24, 2) := by decide +kernel
theorem dX2_init_37 : decode cX2_init 37 = .ok (.invokespecial 11, 3) := by decide +kernel
theorem dX2_init_40 : decode cX2_init 40 = .ok (.putfield 23, 3) := by decide +kernel
theorem dX2_init_43 : decode cX2_init 43 = .ok (.aload_n 0, 1) := by decide +kernel
theorem dX2_init_44 : decode cX2_init 44 = .ok (.new 9, 3) := by decide +kernel
theorem dX2_init_47 : decode cX2_init 47 = .ok (.dup, 1) := by decide +kernel
theorem dX2_init_48 : decode cX2_init 48 = .ok (.bipush 24, 2) := by decide +kernel
theorem dX2_init_50 : decode cX2_init 50 = .ok (.invokespecial 11, 3) := by decide +kernel
theorem dX2_init_53 : decode cX2_init 53 = .ok (.putfield 26, 3) := by decide +kernel
theorem dX2_init_56 : decode cX2_init 56 = .ok (.aload_n 0, 1) := by decide +kernel
theorem dX2_init_57 : decode cX2_init 57 = .ok (.iconst 0, 1) := by decide +kernel
theorem dX2_init_58 : decode cX2_init 58 = .ok (.putfield 29, 3) := by decide +kernel
theorem dX2_init_61 : decode cX2_init 61 = .ok (.return_, 1) := by decide +kernel
theorem dX2_find_0 : decode cX2_find 0 = .ok (.aload_n 0, 1) := by decide +kernel
theorem dX2_find_1 : decode cX2_find 1 = .ok (.aload_n 1, 1) := by decide +kernel
theorem dX2_find_2 : decode cX2_find 2 = .ok (.invokevirtual 33, 3) := by decide +kernel
theorem dX2_find_5 : decode cX2_find 5 = .ok (.aload_n 0, 1) := by decide +kernel
theorem dX2_find_6 : decode cX2_find 6 = .ok (.aload_n 1, 1) := by decide +kernel
theorem dX2_find_7 : decode cX2_find 7 = .ok (.invokevirtual 37, 3) := by decide +kernel
theorem dX2_find_10 : decode cX2_find 10 = .ok (.aload_n 0, 1) := by decide +kernel
theorem dX2_find_11 : decode cX2_find 11 = .ok (.aload_n 1, 1) := by decide +kernel
theorem dX2_find_12 : decode cX2_find 12 = .ok (.invokevirtual 40, 3) := by decide +kernel
theorem dX2_find_15 : decode cX2_find 15 = .ok (.return_, 1) := by decide +kernel
theorem dX2_countUpTo_0 : decode cX2_countUpTo 0 = .ok (.iconst 0, 1) := by decide +kernel
theorem dX2_countUpTo_1 : decode cX2_countUpTo 1 = .ok (.istore_n 2, 1) := by decide +kernel
theorem dX2_countUpTo_2 : decode cX2_countUpTo 2 = .ok (.iload_n 2, 1) := by decide +kernel
theorem dX2_countUpTo_3 : decode cX2_countUpTo 3 = .ok (.aload_n 1, 1) := by decide +kernel
theorem dX2_countUpTo_4 : decode cX2_countUpTo 4 = .ok (.getfield 43, 3) := by decide +kernel
theorem dX2_countUpTo_7 : decode cX2_countUpTo 7 = .ok (.if_icmp .ge 61, 3) := by decide +kernel
theorem dX2_countUpTo_10 : decode cX2_countUpTo 10 = .ok (.iconst 0, 1) := by decide +kernel
theorem dX2_countUpTo_11 : decode cX2_countUpTo 11 = .ok (.istore_n 3, 1) := by decide +kernel
theorem dX2_countUpTo_12 : decode cX2_countUpTo 12 = .ok (.iconst 0, 1) := by decide +kernel
theorem dX2_countUpTo_13 : decode cX2_countUpTo 13 = .ok (.istore 4, 2) := by decide +kernel
theorem dX2_countUpTo_15 : decode cX2_countUpTo 15 = .ok (.iload 4, 2) := by decide +kernel
theorem dX2_countUpTo_17 : decode cX2_countUpTo 17 = .ok (.iload_n 2, 1) := by decide +kernel
theorem dX2_countUpTo_18 : decode cX2_countUpTo 18 = .ok (.if_icmp .ge 33, 3) := by decide +kernel
theorem dX2_countUpTo_21 : decode cX2_countUpTo 21 = .ok (.aload_n 1, 1) := by decide +kernel
theorem dX2_countUpTo_22 : decode cX2_countUpTo 22 = .ok (.iload 4, 2) := by decide +kernel
theorem dX2_countUpTo_24 : decode cX2_countUpTo 24 = .ok (.iload_n 2, 1) := by decide +kernel
theorem dX2_countUpTo_25 : decode cX2_countUpTo 25 = .ok (.invokevirtual 46, 3) := by decide +kernel
theorem dX2_countUpTo_28 : decode cX2_countUpTo 28 = .ok (.ifCond .eq 17, 3) := by decide +kernel
theorem dX2_countUpTo_31 : decode cX2_countUpTo 31 = .ok (.iload_n 3, 1) := by decide +kernel
theorem dX2_countUpTo_32 : decode cX2_countUpTo 32 = .ok (.aload_n 0, 1) := by decide +kernel
theorem dX2_countUpTo_33 : decode cX2_countUpTo 33 = .ok (.getfield 23, 3) := by decide +kernel
theorem dX2_countUpTo_36 : decode cX2_countUpTo 36 = .ok (.iload 4, 2) := by decide +kernel
theorem dX2_countUpTo_38 : decode cX2_countUpTo 38 = .ok (.invokevirtual 50, 3) := by decide +kernel
theorem dX2_countUpTo_41 : decode cX2_countUpTo 41 = .ok (.invokestatic 54, 3) := by decide +kernel
theorem dX2_countUpTo_44 : decode cX2_countUpTo 44 = .ok (.istore_n 3, 1) := by decide +kernel
theorem dX2_countUpTo_45 : decode cX2_countUpTo 45 = .ok (.iinc 4 1, 3) := by decide +kernel
theorem dX2_countUpTo_48 : decode cX2_countUpTo 48 = .ok (.goto (-33), 3) := by decide +kernel
theorem dX2_countUpTo_51 : decode cX2_countUpTo 51 = .ok (.aload_n 0, 1) := by decide +kernel
theorem dX2_countUpTo_52 : decode cX2_countUpTo 52 = .ok (.getfield 23, 3) := by decide +kernel
theorem dX2_countUpTo_55 : decode cX2_countUpTo 55 = .ok (.iload_n 2, 1) := by decide +kernel
theorem dX2_countUpTo_56 : decode cX2_countUpTo 56 = .ok (.iload_n 3, 1) := by decide +kernel
theorem dX2_countUpTo_57 : decode cX2_countUpTo 57 = .ok (.iconst 1, 1) := by decide +kernel
theorem dX2_countUpTo_58 : decode cX2_countUpTo 58 = .ok (.iadd, 1) := by decide +kernel
theorem dX2_countUpTo_59 : decode cX2_countUpTo 59 = .ok (.invokevirtual 60, 3) := by decide +kernel
theorem dX2_countUpTo_62 : decode cX2_countUpTo 62 = .ok (.iinc 2 1, 3) := by decide +kernel
theorem dX2_countUpTo_65 : decode cX2_countUpTo 65 = .ok (.goto (-63), 3) := by decide +kernel
theorem dX2_countUpTo_68 : decode cX2_countUpTo 68 = .ok (.return_, 1) := by decide +kernel
theorem dX2_countFrom_0 : decode cX2_countFrom 0 = .ok (.aload_n 1, 1) := by decide +kernel
theorem dX2_countFrom_1 : decode cX2_countFrom 1 = .ok (.getfield 43, 3) := by decide +kernel
theorem dX2_countFrom_4 : decode cX2_countFrom 4 = .ok (.iconst 1, 1) := by decide +kernel
theorem dX2_countFrom_5 : decode cX2_countFrom 5 = .ok (.isub, 1) := by decide +kernel
theorem dX2_countFrom_6 : decode cX2_countFrom 6 = .ok (.istore_n 2, 1) := by decide +kernel
theorem dX2_countFrom_7 : decode cX2_countFrom 7 = .ok (.iload_n 2, 1) := by decide +kernel
theorem dX2_countFrom_8 : decode cX2_countFrom 8 = .ok (.ifCond .lt 66, 3) := by decide +kernel
theorem dX2_countFrom_11 : decode cX2_countFrom 11 = .ok (.iconst 0, 1) := by decide +kernel
theorem dX2_countFrom_12 : decode cX2_countFrom 12 = .ok (.istore_n 3, 1) := by decide +kernel
theorem dX2_countFrom_13 : decode cX2_countFrom 13 = .ok (.iload_n 2, 1) := by decide +kernel
theorem dX2_countFrom_14 : decode cX2_countFrom 14 = .ok (.iconst 1, 1) := by decide +kernel
theorem dX2_countFrom_15 : decode cX2_countFrom 15 = .ok (.iadd, 1) := by decide +kernel
theorem dX2_countFrom_16 : decode cX2_countFrom 16 = .ok (.istore 4, 2) := by decide +kernel
theorem dX2_countFrom_18 : decode cX2_countFrom 18 = .ok (.iload 4, 2) := by decide +kernel
theorem dX2_countFrom_20 : decode cX2_countFrom 20 = .ok (.aload_n 1, 1) := by decide +kernel
theorem dX2_countFrom_21 : decode cX2_countFrom 21 = .ok (.getfield 43, 3) := by decide +kernel
theorem dX2_countFrom_24 : decode cX2_countFrom 24 = .ok (.if_icmp .ge 33, 3) := by decide +kernel
theorem dX2_countFrom_27 : decode cX2_countFrom 27 = .ok (.aload_n 1, 1) := by decide +kernel
theorem dX2_countFrom_28 : decode cX2_countFrom 28 = .ok (.iload_n 2, 1) := by decide +kernel
theorem dX2_countFrom_29 : decode cX2_countFrom 29 = .ok (.iload 4, 2) := by decide +kernel
theorem dX2_countFrom_31 : decode cX2_countFrom 31 = .ok (.invokevirtual 46, 3) := by decide +kernel
theorem dX2_countFrom_34 : decode cX2_countFrom 34 = .ok (.ifCond .eq 17, 3) := by decide +kernel
theorem dX2_countFrom_37 : decode cX2_countFrom 37 = .ok (.iload_n 3, 1) := by decide +kernel
theorem dX2_countFrom_38 : decode cX2_countFrom 38 = .ok (.aload_n 0, 1) := by decide +kernel
theorem dX2_countFrom_39 : decode cX2_countFrom 39 = .ok (.getfield 26, 3) := by decide +kernel
theorem dX2_countFrom_42 : decode cX2_countFrom 42 = .ok (.iload 4, 2) := by decide +kernel
theorem dX2_countFrom_44 : decode cX2_countFrom 44 = .ok (.invokevirtual 50, 3) := by decide +kernel
theorem dX2_countFrom_47 : decode cX2_countFrom 47 = .ok (.invokestatic 54, 3) := by decide +kernel
theorem dX2_countFrom_50 : decode cX2_countFrom 50 = .ok (.istore_n 3, 1) := by decide +kernel
theorem dX2_countFrom_51 : decode cX2_countFrom 51 = .ok (.iinc 4 1, 3) := by decide +kernel
theorem dX2_countFrom_54 : decode cX2_countFrom 54 = .ok (.goto (-36), 3) := by decide +kernel
theorem dX2_countFrom_57 : decode cX2_countFrom 57 = .ok (.aload_n 0, 1) := by decide +kernel
theorem dX2_countFrom_58 : decode cX2_countFrom 58 = .ok (.getfield 26, 3) := by decide +kernel
theorem dX2_countFrom_61 : decode cX2_countFrom 61 = .ok (.iload_n 2, 1) := by decide +kernel
theorem dX2_countFrom_62 : decode cX2_countFrom 62 = .ok (.iload_n 3, 1) := by decide +kernel
theorem dX2_countFrom_63 : decode cX2_countFrom 63 = .ok (.iconst 1, 1) := by decide +kernel
theorem dX2_countFrom_64 : decode cX2_countFrom 64 = .ok (.iadd, 1) := by decide +kernel
theorem dX2_countFrom_65 : decode cX2_countFrom 65 = .ok (.invokevirtual 60, 3) := by decide +kernel
theorem dX2_countFrom_68 : decode cX2_countFrom 68 = .ok (.iinc 2 (-1), 3) := by decide +kernel
theorem dX2_countFrom_71 : decode cX2_countFrom 71 = .ok (.goto (-64), 3) := by decide +kernel
theorem dX2_countFrom_74 : decode cX2_countFrom 74 = .ok (.return_, 1) := by decide +kernel
theorem dX2_mostOfAll_0 : decode cX2_mostOfAll 0 = .ok (.iconst 0, 1) := by decide +kernel
theorem dX2_mostOfAll_1 : decode cX2_mostOfAll 1 = .ok (.istore_n 2, 1) := by decide +kernel
theorem dX2_mostOfAll_2 : decode cX2_mostOfAll 2 = .ok (.iconst 0, 1) := by decide +kernel
theorem dX2_mostOfAll_3 : decode cX2_mostOfAll 3 = .ok (.istore_n 3, 1) := by decide +kernel
theorem dX2_mostOfAll_4 : decode cX2_mostOfAll 4 = .ok (.iload_n 3, 1) := by decide +kernel
theorem dX2_mostOfAll_5 : decode cX2_mostOfAll 5 = .ok (.aload_n 1, 1) := by decide +kernel
theorem dX2_mostOfAll_6 : decode cX2_mostOfAll 6 = .ok (.getfield 43, 3) := by decide +kernel
theorem dX2_mostOfAll_9 : decode cX2_mostOfAll 9 = .ok (.if_icmp .ge 22, 3) := by decide +kernel
theorem dX2_mostOfAll_12 : decode cX2_mostOfAll 12 = .ok (.iload_n 2, 1) := by decide +kernel
theorem dX2_mostOfAll_13 : decode cX2_mostOfAll 13 = .ok (.aload_n 0, 1) := by decide +kernel
theorem dX2_mostOfAll_14 : decode cX2_mostOfAll 14 = .ok (.getfield 26, 3) := by decide +kernel
theorem dX2_mostOfAll_17 : decode cX2_mostOfAll 17 = .ok (.iload_n 3, 1) := by decide +kernel
theorem dX2_mostOfAll_18 : decode cX2_mostOfAll 18 = .ok (.invokevirtual 50, 3) := by decide +kernel
theorem dX2_mostOfAll_21 : decode cX2_mostOfAll 21 = .ok (.invokestatic 54, 3) := by decide +kernel
theorem dX2_mostOfAll_24 : decode cX2_mostOfAll 24 = .ok (.istore_n 2, 1) := by decide +kernel
theorem dX2_mostOfAll_25 : decode cX2_mostOfAll 25 = .ok (.iinc 3 1, 3) := by decide +kernel
theorem dX2_mostOfAll_28 : decode cX2_mostOfAll 28 = .ok (.goto (-24), 3) := by decide +kernel
theorem dX2_mostOfAll_31 : decode cX2_mostOfAll 31 = .ok (.iload_n 2, 1) := by decide +kernel
theorem dX2_mostOfAll_32 : decode cX2_mostOfAll 32 = .ok (.ireturn, 1) := by decide +kernel
theorem dX2_pick_0 : decode cX2_pick 0 = .ok (.aload_n 0, 1) := by decide +kernel
theorem dX2_pick_1 : decode cX2_pick 1 = .ok (.aload_n 1, 1) := by decide +kernel
theorem dX2_pick_2 : decode cX2_pick 2 = .ok (.invokevirtual 64, 3) := by decide +kernel
theorem dX2_pick_5 : decode cX2_pick 5 = .ok (.istore_n 2, 1) := by decide +kernel
theorem dX2_pick_6 : decode cX2_pick 6 = .ok (.iconst (-1), 1) := by decide +kernel
theorem dX2_pick_7 : decode cX2_pick 7 = .ok (.istore_n 3, 1) := by decide +kernel
theorem dX2_pick_8 : decode cX2_pick 8 = .ok (.aload_n 0, 1) := by decide +kernel
theorem dX2_pick_9 : decode cX2_pick 9 = .ok (.iconst 0, 1) := by decide +kernel
theorem dX2_pick_10 : decode cX2_pick 10 = .ok (.putfield 29, 3) := by decide +kernel
theorem dX2_pick_13 : decode cX2_pick 13 = .ok (.iconst 0, 1) := by decide +kernel
theorem dX2_pick_14 : decode cX2_pick 14 = .ok (.istore 4, 2) := by decide +kernel
theorem dX2_pick_16 : decode cX2_pick 16 = .ok (.iload 4, 2) := by decide +kernel
theorem dX2_pick_18 : decode cX2_pick 18 = .ok (.aload_n 1, 1) := by decide +kernel
theorem dX2_pick_19 : decode cX2_pick 19 = .ok (.getfield 43, 3) := by decide +kernel
theorem dX2_pick_22 : decode cX2_pick 22 = .ok (.if_icmp .ge 102, 3) := by decide +kernel
theorem dX2_pick_25 : decode cX2_pick 25 = .ok (.aload_n 0, 1) := by decide +kernel
theorem dX2_pick_26 : decode cX2_pick 26 = .ok (.getfield 26, 3) := by decide +kernel
theorem dX2_pick_29 : decode cX2_pick 29 = .ok (.iload 4, 2) := by decide +kernel
theorem dX2_pick_31 : decode cX2_pick 31 = .ok (.invokevirtual 50, 3) := by decide +kernel
theorem dX2_pick_34 : decode cX2_pick 34 = .ok (.iload_n 2, 1) := by decide +kernel
theorem dX2_pick_35 : decode cX2_pick 35 = .ok (.aload_n 0, 1) := by decide +kernel
theorem dX2_pick_36 : decode cX2_pick 36 = .ok (.getfield 29, 3) := by decide +kernel
theorem dX2_pick_39 : decode cX2_pick 39 = .ok (.isub, 1) := by decide +kernel
theorem dX2_pick_40 : decode cX2_pick 40 = .ok (.if_icmp .ne 22, 3) := by decide +kernel
theorem dX2_pick_43 : decode cX2_pick 43 = .ok (.iload_n 3, 1) := by decide +kernel
theorem dX2_pick_44 : decode cX2_pick 44 = .ok (.iconst (-1), 1) := by decide +kernel
theorem dX2_pick_45 : decode cX2_pick 45 = .ok (.if_icmp .eq 13, 3) := by decide +kernel
theorem dX2_pick_48 : decode cX2_pick 48 = .ok (.aload_n 1, 1) := by decide +kernel
theorem dX2_pick_49 : decode cX2_pick 49 = .ok (.iload_n 3, 1) := by decide +kernel
theorem dX2_pick_50 : decode cX2_pick 50 = .ok (.iload 4, 2) := by decide +kernel
theorem dX2_pick_52 : decode cX2_pick 52 = .ok (.invokevirtual 46, 3) := by decide +kernel
theorem dX2_pick_55 : decode cX2_pick 55 = .ok (.ifCond .eq 7, 3) := by decide +kernel
theorem dX2_pick_58 : decode cX2_pick 58 = .ok (.iconst 1, 1) := by decide +kernel
theorem dX2_pick_59 : decode cX2_pick 59 = .ok (.goto 4, 3) := by decide +kernel
theorem dX2_pick_62 : decode cX2_pick 62 = .ok (.iconst 0, 1) := by decide +kernel
theorem dX2_pick_63 : decode cX2_pick 63 = .ok (.istore 5, 2) := by decide +kernel
theorem dX2_pick_65 : decode cX2_pick 65 = .ok (.aload_n 0, 1) := by decide +kernel
theorem dX2_pick_66 : decode cX2_pick 66 = .ok (.getfield 20, 3) := by decide +kernel
theorem dX2_pick_69 : decode cX2_pick 69 = .ok (.iload 4, 2) := by decide +kernel
theorem dX2_pick_71 : decode cX2_pick 71 = .ok (.iload 5, 2) := by decide +kernel
theorem dX2_pick_73 : decode cX2_pick 73 = .ok (.ifCond .eq 10, 3) := by decide +kernel
theorem dX2_pick_76 : decode cX2_pick 76 = .ok (.aload_n 0, 1) := by decide +kernel
theorem dX2_pick_77 : decode cX2_pick 77 = .ok (.getfield 29, 3) := by decide +kernel
theorem dX2_pick_80 : decode cX2_pick 80 = .ok (.goto 4, 3) := by decide +kernel
theorem dX2_pick_83 : decode cX2_pick 83 = .ok (.iconst (-1), 1) := by decide +kernel
theorem dX2_pick_84 : decode cX2_pick 84 = .ok (.invokevirtual 60, 3) := by decide +kernel
theorem dX2_pick_87 : decode cX2_pick 87 = .ok (.iload 5, 2) := by decide +kernel
theorem dX2_pick_89 : decode cX2_pick 89 = .ok (.ifCond .eq 29, 3) := by decide +kernel
theorem dX2_pick_92 : decode cX2_pick 92 = .ok (.aload_n 0, 1) := by decide +kernel
theorem dX2_pick_93 : decode cX2_pick 93 = .ok (.getfield 14, 3) := by decide +kernel
theorem dX2_pick_96 : decode cX2_pick 96 = .ok (.aload_n 0, 1) := by decide +kernel
theorem dX2_pick_97 : decode cX2_pick 97 = .ok (.getfield 29, 3) := by decide +kernel
theorem dX2_pick_100 : decode cX2_pick 100 = .ok (.iload 4, 2) := by decide +kernel
theorem dX2_pick_102 : decode cX2_pick 102 = .ok (.invokevirtual 60, 3) := by decide +kernel
theorem dX2_pick_105 : decode cX2_pick 105 = .ok (.aload_n 0, 1) := by decide +kernel
theorem dX2_pick_106 : decode cX2_pick 106 = .ok (.dup, 1) := by decide +kernel
theorem dX2_pick_107 : decode cX2_pick 107 = .ok (.getfield 29, 3) := by decide +kernel
theorem dX2_pick_110 : decode cX2_pick 110 = .ok (.iconst 1, 1) := by decide +kernel
theorem dX2_pick_111 : decode cX2_pick 111 = .ok (.iadd, 1) := by decide +kernel
theorem dX2_pick_112 : decode cX2_pick 112 = .ok (.putfield 29, 3) := by decide +kernel
theorem dX2_pick_115 : decode cX2_pick 115 = .ok (.iload 4, 2) := by decide +kernel
theorem dX2_pick_117 : decode cX2_pick 117 = .ok (.istore_n 3, 1) := by decide +kernel
theorem dX2_pick_118 : decode cX2_pick 118 = .ok (.iinc 4 1, 3) := by decide +kernel
theorem dX2_pick_121 : decode cX2_pick 121 = .ok (.goto (-105), 3) := by decide +kernel
theorem dX2_pick_124 : decode cX2_pick 124 = .ok (.return_, 1) := by decide +kernel
theorem dX3_init_0 : decode cX3_init 0 = .ok (.aload_n 0, 1) := by decide +kernel
theorem dX3_init_1 : decode cX3_init 1 = .ok (.invokespecial 3, 3) := by decide +kernel
theorem dX3_init_4 : decode cX3_init 4 = .ok (.aload_n 0, 1) := by decide +kernel
theorem dX3_init_5 : decode cX3_init 5 = .ok (.sipush 625, 3) := by decide +kernel
theorem dX3_init_8 : decode cX3_init 8 = .ok (.newarray .int, 2) := by decide +kernel
theorem dX3_init_10 : decode cX3_init 10 = .ok (.putfield 11, 3) := by decide +kernel
theorem dX3_init_13 : decode cX3_init 13 = .ok (.aload_n 0, 1) := by decide +kernel
theorem dX3_init_14 : decode cX3_init 14 = .ok (.sipush 625, 3) := by decide +kernel
theorem dX3_init_17 : decode cX3_init 17 = .ok (.newarray .int, 2) := by decide +kernel
theorem dX3_init_19 : decode cX3_init 19 = .ok (.putfield 15, 3) := by decide +kernel
theorem dX3_init_22 : decode cX3_init 22 = .ok (.aload_n 0, 1) := by decide +kernel
theorem dX3_init_23 : decode cX3_init 23 = .ok (.iconst 0, 1) := by decide +kernel
theorem dX3_init_24 : decode cX3_init 24 = .ok (.putfield 18, 3) := by decide +kernel
theorem dX3_init_27 : decode cX3_init 27 = .ok (.aload_n 0, 1) := by decide +kernel
theorem dX3_init_28 : decode cX3_init 28 = .ok (.iconst 0, 1) := by decide +kernel
theorem dX3_init_29 : decode cX3_init 29 = .ok (.putfield 22, 3) := by decide +kernel
theorem dX3_init_32 : decode cX3_init 32 = .ok (.aload_n 0, 1) := by decide +kernel
theorem dX3_init_33 : decode cX3_init 33 = .ok (.iconst 0, 1) := by decide +kernel
theorem dX3_init_34 : decode cX3_init 34 = .ok (.putfield 25, 3) := by decide +kernel
theorem dX3_init_37 : decode cX3_init 37 = .ok (.aload_n 0, 1) := by decide +kernel
theorem dX3_init_38 : decode cX3_init 38 = .ok (.iconst 0, 1) := by decide +kernel
theorem dX3_init_39 : decode cX3_init 39 = .ok (.putfield 28, 3) := by decide +kernel
theorem dX3_init_42 : decode cX3_init 42 = .ok (.return_, 1) := by decide +kernel
theorem dX3_layParts_0 : decode cX3_layParts 0 = .ok (.aload_n 0, 1) := by decide +kernel
theorem dX3_layParts_1 : decode cX3_layParts 1 = .ok (.iload_n 1, 1) := by decide +kernel
theorem dX3_layParts_2 : decode cX3_layParts 2 = .ok (.putfield 18, 3) := by decide +kernel
theorem dX3_layParts_5 : decode cX3_layParts 5 = .ok (.aload_n 0, 1) := by decide +kernel
theorem dX3_layParts_6 : decode cX3_layParts 6 = .ok (.iload_n 2, 1) := by decide +kernel
theorem dX3_layParts_7 : decode cX3_layParts 7 = .ok (.putfield 22, 3) := by decide +kernel
theorem dX3_layParts_10 : decode cX3_layParts 10 = .ok (.aload_n 0, 1) := by decide +kernel
theorem dX3_layParts_11 : decode cX3_layParts 11 = .ok (.iload_n 3, 1) := by decide +kernel
theorem dX3_layParts_12 : decode cX3_layParts 12 = .ok (.putfield 25, 3) := by decide +kernel
theorem dX3_layParts_15 : decode cX3_layParts 15 = .ok (.aload_n 0, 1) := by decide +kernel
theorem dX3_layParts_16 : decode cX3_layParts 16 = .ok (.iload 4, 2) := by decide +kernel
theorem dX3_layParts_18 : decode cX3_layParts 18 = .ok (.putfield 28, 3) := by decide +kernel
theorem dX3_layParts_21 : decode cX3_layParts 21 = .ok (.return_, 1) := by decide +kernel
theorem dX3_costAt_0 : decode cX3_costAt 0 = .ok (.iload_n 1, 1) := by decide +kernel
theorem dX3_costAt_1 : decode cX3_costAt 1 = .ok (.ifCond .lt 19, 3) := by decide +kernel
theorem dX3_costAt_4 : decode cX3_costAt 4 = .ok (.iload_n 1, 1) := by decide +kernel
theorem dX3_costAt_5 : decode cX3_costAt 5 = .ok (.bipush 25, 2) := by decide +kernel
theorem dX3_costAt_7 : decode cX3_costAt 7 = .ok (.if_icmp .ge 13, 3) := by decide +kernel
theorem dX3_costAt_10 : decode cX3_costAt 10 = .ok (.iload_n 2, 1) := by decide +kernel
theorem dX3_costAt_11 : decode cX3_costAt 11 = .ok (.ifCond .lt 9, 3) := by decide +kernel
theorem dX3_costAt_14 : decode cX3_costAt 14 = .ok (.iload_n 2, 1) := by decide +kernel
theorem dX3_costAt_15 : decode cX3_costAt 15 = .ok (.bipush 25, 2) := by decide +kernel
theorem dX3_costAt_17 : decode cX3_costAt 17 = .ok (.if_icmp .lt 6, 3) := by decide +kernel
theorem dX3_costAt_20 : decode cX3_costAt 20 = .ok (.ldc 31, 2) := by decide +kernel
theorem dX3_costAt_22 : decode cX3_costAt 22 = .ok (.ireturn, 1) := by decide +kernel
theorem dX3_costAt_23 : decode cX3_costAt 23 = .ok (.aload_n 0, 1) := by decide +kernel
theorem dX3_costAt_24 : decode cX3_costAt 24 = .ok (.getfield 11, 3) := by decide +kernel
theorem dX3_costAt_27 : decode cX3_costAt 27 = .ok (.iload_n 1, 1) := by decide +kernel
theorem dX3_costAt_28 : decode cX3_costAt 28 = .ok (.bipush 25, 2) := by decide +kernel
theorem dX3_costAt_30 : decode cX3_costAt 30 = .ok (.imul, 1) := by decide +kernel
theorem dX3_costAt_31 : decode cX3_costAt 31 = .ok (.iload_n 2, 1) := by decide +kernel
theorem dX3_costAt_32 : decode cX3_costAt 32 = .ok (.iadd, 1) := by decide +kernel
theorem dX3_costAt_33 : decode cX3_costAt 33 = .ok (.iaload, 1) := by decide +kernel
theorem dX3_costAt_34 : decode cX3_costAt 34 = .ok (.ireturn, 1) := by decide +kernel
theorem dX3_stepAt_0 : decode cX3_stepAt 0 = .ok (.iload_n 1, 1) := by decide +kernel
theorem dX3_stepAt_1 : decode cX3_stepAt 1 = .ok (.ifCond .lt 19, 3) := by decide +kernel
theorem dX3_stepAt_4 : decode cX3_stepAt 4 = .ok (.iload_n 1, 1) := by decide +kernel
theorem dX3_stepAt_5 : decode cX3_stepAt 5 = .ok (.bipush 25, 2) := by decide +kernel
theorem dX3_stepAt_7 : decode cX3_stepAt 7 = .ok (.if_icmp .ge 13, 3) := by decide +kernel
theorem dX3_stepAt_10 : decode cX3_stepAt 10 = .ok (.iload_n 2, 1) := by decide +kernel
theorem dX3_stepAt_11 : decode cX3_stepAt 11 = .ok (.ifCond .lt 9, 3) := by decide +kernel
theorem dX3_stepAt_14 : decode cX3_stepAt 14 = .ok (.iload_n 2, 1) := by decide +kernel
theorem dX3_stepAt_15 : decode cX3_stepAt 15 = .ok (.bipush 25, 2) := by decide +kernel
theorem dX3_stepAt_17 : decode cX3_stepAt 17 = .ok (.if_icmp .lt 5, 3) := by decide +kernel
theorem dX3_stepAt_20 : decode cX3_stepAt 20 = .ok (.iconst (-1), 1) := by decide +kernel
theorem dX3_stepAt_21 : decode cX3_stepAt 21 = .ok (.ireturn, 1) := by decide +kernel
theorem dX3_stepAt_22 : decode cX3_stepAt 22 = .ok (.aload_n 0, 1) := by decide +kernel
theorem dX3_stepAt_23 : decode cX3_stepAt 23 = .ok (.getfield 15, 3) := by decide +kernel
theorem dX3_stepAt_26 : decode cX3_stepAt 26 = .ok (.iload_n 1, 1) := by decide +kernel
theorem dX3_stepAt_27 : decode cX3_stepAt 27 = .ok (.bipush 25, 2) := by decide +kernel
theorem dX3_stepAt_29 : decode cX3_stepAt 29 = .ok (.imul, 1) := by decide +kernel
theorem dX3_stepAt_30 : decode cX3_stepAt 30 = .ok (.iload_n 2, 1) := by decide +kernel
theorem dX3_stepAt_31 : decode cX3_stepAt 31 = .ok (.iadd, 1) := by decide +kernel
theorem dX3_stepAt_32 : decode cX3_stepAt 32 = .ok (.iaload, 1) := by decide +kernel
theorem dX3_stepAt_33 : decode cX3_stepAt 33 = .ok (.ireturn, 1) := by decide +kernel
theorem dX3_store_0 : decode cX3_store 0 = .ok (.iload_n 1, 1) := by decide +kernel
theorem dX3_store_1 : decode cX3_store 1 = .ok (.ifCond .lt 44, 3) := by decide +kernel
theorem dX3_store_4 : decode cX3_store 4 = .ok (.iload_n 1, 1) := by decide +kernel
theorem dX3_store_5 : decode cX3_store 5 = .ok (.bipush 25, 2) := by decide +kernel
theorem dX3_store_7 : decode cX3_store 7 = .ok (.if_icmp .ge 38, 3) := by decide +kernel
theorem dX3_store_10 : decode cX3_store 10 = .ok (.iload_n 2, 1) := by decide +kernel
theorem dX3_store_11 : decode cX3_store 11 = .ok (.ifCond .lt 34, 3) := by decide +kernel
theorem dX3_store_14 : decode cX3_store 14 = .ok (.iload_n 2, 1) := by decide +kernel
theorem dX3_store_15 : decode cX3_store 15 = .ok (.bipush 25, 2) := by decide +kernel
theorem dX3_store_17 : decode cX3_store 17 = .ok (.if_icmp .ge 28, 3) := by decide +kernel
theorem dX3_store_20 : decode cX3_store 20 = .ok (.aload_n 0, 1) := by decide +kernel
theorem dX3_store_21 : decode cX3_store 21 = .ok (.getfield 11, 3) := by decide +kernel
theorem dX3_store_24 : decode cX3_store 24 = .ok (.iload_n 1, 1) := by decide +kernel
theorem dX3_store_25 : decode cX3_store 25 = .ok (.bipush 25, 2) := by decide +kernel
theorem dX3_store_27 : decode cX3_store 27 = .ok (.imul, 1) := by decide +kernel
theorem dX3_store_28 : decode cX3_store 28 = .ok (.iload_n 2, 1) := by decide +kernel
theorem dX3_store_29 : decode cX3_store 29 = .ok (.iadd, 1) := by decide +kernel
theorem dX3_store_30 : decode cX3_store 30 = .ok (.iload_n 3, 1) := by decide +kernel
theorem dX3_store_31 : decode cX3_store 31 = .ok (.iastore, 1) := by decide +kernel
theorem dX3_store_32 : decode cX3_store 32 = .ok (.aload_n 0, 1) := by decide +kernel
theorem dX3_store_33 : decode cX3_store 33 = .ok (.getfield 15, 3) := by decide +kernel
theorem dX3_store_36 : decode cX3_store 36 = .ok (.iload_n 1, 1) := by decide +kernel
theorem dX3_store_37 : decode cX3_store 37 = .ok (.bipush 25, 2) := by decide +kernel
theorem dX3_store_39 : decode cX3_store 39 = .ok (.imul, 1) := by decide +kernel
theorem dX3_store_40 : decode cX3_store 40 = .ok (.iload_n 2, 1) := by decide +kernel
theorem dX3_store_41 : decode cX3_store 41 = .ok (.iadd, 1) := by decide +kernel
theorem dX3_store_42 : decode cX3_store 42 = .ok (.iload 4, 2) := by decide +kernel
theorem dX3_store_44 : decode cX3_store 44 = .ok (.iastore, 1) := by decide +kernel
theorem dX3_store_45 : decode cX3_store 45 = .ok (.return_, 1) := by decide +kernel
theorem dX3_fill_0 : decode cX3_fill 0 = .ok (.iconst 0, 1) := by decide +kernel
theorem dX3_fill_1 : decode cX3_fill 1 = .ok (.istore_n 3, 1) := by decide +kernel
theorem dX3_fill_2 : decode cX3_fill 2 = .ok (.iload_n 3, 1) := by decide +kernel
theorem dX3_fill_3 : decode cX3_fill 3 = .ok (.aload_n 0, 1) := by decide +kernel
theorem dX3_fill_4 : decode cX3_fill 4 = .ok (.getfield 22, 3) := by decide +kernel
theorem dX3_fill_7 : decode cX3_fill 7 = .ok (.if_icmp .gt 80, 3) := by decide +kernel
theorem dX3_fill_10 : decode cX3_fill 10 = .ok (.iconst 0, 1) := by decide +kernel
theorem dX3_fill_11 : decode cX3_fill 11 = .ok (.istore 4, 2) := by decide +kernel
theorem dX3_fill_13 : decode cX3_fill 13 = .ok (.iload 4, 2) := by decide +kernel
theorem dX3_fill_15 : decode cX3_fill 15 = .ok (.aload_n 0, 1) := by decide +kernel
theorem dX3_fill_16 : decode cX3_fill 16 = .ok (.getfield 28, 3) := by decide +kernel
theorem dX3_fill_19 : decode cX3_fill 19 = .ok (.if_icmp .gt 62, 3) := by decide +kernel
theorem dX3_fill_22 : decode cX3_fill 22 = .ok (.iload_n 3, 1) := by decide +kernel
theorem dX3_fill_23 : decode cX3_fill 23 = .ok (.iload 4, 2) := by decide +kernel
theorem dX3_fill_25 : decode cX3_fill 25 = .ok (.isub, 1) := by decide +kernel
theorem dX3_fill_26 : decode cX3_fill 26 = .ok (.invokestatic 32, 3) := by decide +kernel
theorem dX3_fill_29 : decode cX3_fill 29 = .ok (.iload_n 2, 1) := by decide +kernel
theorem dX3_fill_30 : decode cX3_fill 30 = .ok (.if_icmp .le 16, 3) := by decide +kernel
theorem dX3_fill_33 : decode cX3_fill 33 = .ok (.aload_n 0, 1) := by decide +kernel
theorem dX3_fill_34 : decode cX3_fill 34 = .ok (.iload_n 3, 1) := by decide +kernel
theorem dX3_fill_35 : decode cX3_fill 35 = .ok (.iload 4, 2) := by decide +kernel
theorem dX3_fill_37 : decode cX3_fill 37 = .ok (.ldc 31, 2) := by decide +kernel
theorem dX3_fill_39 : decode cX3_fill 39 = .ok (.iconst (-1), 1) := by decide +kernel
theorem dX3_fill_40 : decode cX3_fill 40 = .ok (.invokevirtual 38, 3) := by decide +kernel
theorem dX3_fill_43 : decode cX3_fill 43 = .ok (.goto 32, 3) := by decide +kernel
theorem dX3_fill_46 : decode cX3_fill 46 = .ok (.iload_n 3, 1) := by decide +kernel
theorem dX3_fill_47 : decode cX3_fill 47 = .ok (.ifCond .ne 20, 3) := by decide +kernel
theorem dX3_fill_50 : decode cX3_fill 50 = .ok (.iload 4, 2) := by decide +kernel
theorem dX3_fill_52 : decode cX3_fill 52 = .ok (.ifCond .ne 15, 3) := by decide +kernel
theorem dX3_fill_55 : decode cX3_fill 55 = .ok (.aload_n 0, 1) := by decide +kernel
theorem dX3_fill_56 : decode cX3_fill 56 = .ok (.iload_n 3, 1) := by decide +kernel
theorem dX3_fill_57 : decode cX3_fill 57 = .ok (.iload 4, 2) := by decide +kernel
theorem dX3_fill_59 : decode cX3_fill 59 = .ok (.iconst 0, 1) := by decide +kernel
theorem dX3_fill_60 : decode cX3_fill 60 = .ok (.iconst (-1), 1) := by decide +kernel
theorem dX3_fill_61 : decode cX3_fill 61 = .ok (.invokevirtual 38, 3) := by decide +kernel
theorem dX3_fill_64 : decode cX3_fill 64 = .ok (.goto 11, 3) := by decide +kernel
theorem dX3_fill_67 : decode cX3_fill 67 = .ok (.aload_n 0, 1) := by decide +kernel
theorem dX3_fill_68 : decode cX3_fill 68 = .ok (.aload_n 1, 1) := by decide +kernel
theorem dX3_fill_69 : decode cX3_fill 69 = .ok (.iload_n 3, 1) := by decide +kernel
theorem dX3_fill_70 : decode cX3_fill 70 = .ok (.iload 4, 2) := by decide +kernel
theorem dX3_fill_72 : decode cX3_fill 72 = .ok (.invokevirtual 42, 3) := by decide +kernel
theorem dX3_fill_75 : decode cX3_fill 75 = .ok (.iinc 4 1, 3) := by decide +kernel
theorem dX3_fill_78 : decode cX3_fill 78 = .ok (.goto (-65), 3) := by decide +kernel
theorem dX3_fill_81 : decode cX3_fill 81 = .ok (.iinc 3 1, 3) := by decide +kernel
theorem dX3_fill_84 : decode cX3_fill 84 = .ok (.goto (-82), 3) := by decide +kernel
theorem dX3_fill_87 : decode cX3_fill 87 = .ok (.aload_n 0, 1) := by decide +kernel
theorem dX3_fill_88 : decode cX3_fill 88 = .ok (.aload_n 0, 1) := by decide +kernel
theorem dX3_fill_89 : decode cX3_fill 89 = .ok (.getfield 22, 3) := by decide +kernel
theorem dX3_fill_92 : decode cX3_fill 92 = .ok (.aload_n 0, 1) := by decide +kernel
theorem dX3_fill_93 : decode cX3_fill 93 = .ok (.getfield 28, 3) := by decide +kernel
theorem dX3_fill_96 : decode cX3_fill 96 = .ok (.invokevirtual 46, 3) := by decide +kernel
theorem dX3_fill_99 : decode cX3_fill 99 = .ok (.ireturn, 1) := by decide +kernel
theorem dX3_fillCell_0 : decode cX3_fillCell 0 = .ok (.aload_n 1, 1) := by decide +kernel
theorem dX3_fillCell_1 : decode cX3_fillCell 1 = .ok (.getfield 50, 3) := by decide +kernel
theorem dX3_fillCell_4 : decode cX3_fillCell 4 = .ok (.iconst 2, 1) := by decide +kernel
theorem dX3_fillCell_5 : decode cX3_fillCell 5 = .ok (.invokevirtual 56, 3) := by decide +kernel
theorem dX3_fillCell_8 : decode cX3_fillCell 8 = .ok (.istore 4, 2) := by decide +kernel
theorem dX3_fillCell_10 : decode cX3_fillCell 10 = .ok (.aload_n 1, 1) := by decide +kernel
theorem dX3_fillCell_11 : decode cX3_fillCell 11 = .ok (.getfield 61, 3) := by decide +kernel
theorem dX3_fillCell_14 : decode cX3_fillCell 14 = .ok (.aload_n 0, 1) := by decide +kernel
theorem dX3_fillCell_15 : decode cX3_fillCell 15 = .ok (.getfield 18, 3) := by decide +kernel
theorem dX3_fillCell_18 : decode cX3_fillCell 18 = .ok (.iload_n 2, 1) := by decide +kernel
theorem dX3_fillCell_19 : decode cX3_fillCell 19 = .ok (.iadd, 1) := by decide +kernel
theorem dX3_fillCell_20 : decode cX3_fillCell 20 = .ok (.iconst 1, 1) := by decide +kernel
theorem dX3_fillCell_21 : decode cX3_fillCell 21 = .ok (.isub, 1) := by decide +kernel
theorem dX3_fillCell_22 : decode cX3_fillCell 22 = .ok (.invokevirtual 65, 3) := by decide +kernel
theorem dX3_fillCell_25 : decode cX3_fillCell 25 = .ok (.aload_n 1, 1) := by decide +kernel
theorem dX3_fillCell_26 : decode cX3_fillCell 26 = .ok (.getfield 70, 3) := by decide +kernel
theorem dX3_fillCell_29 : decode cX3_fillCell 29 = .ok (.aload_n 0, 1) := by decide +kernel
theorem dX3_fillCell_30 : decode cX3_fillCell 30 = .ok (.getfield 25, 3) := by decide +kernel
theorem dX3_fillCell_33 : decode cX3_fillCell 33 = .ok (.iload_n 3, 1) := by decide +kernel
theorem dX3_fillCell_34 : decode cX3_fillCell 34 = .ok (.iadd, 1) := by decide +kernel
theorem dX3_fillCell_35 : decode cX3_fillCell 35 = .ok (.iconst 1, 1) := by decide +kernel
theorem dX3_fillCell_36 : decode cX3_fillCell 36 = .ok (.isub, 1) := by decide +kernel
theorem dX3_fillCell_37 : decode cX3_fillCell 37 = .ok (.invokevirtual 65, 3) := by decide +kernel
theorem dX3_fillCell_40 : decode cX3_fillCell 40 = .ok (.if_icmp .ne 7, 3) := by decide +kernel
theorem dX3_fillCell_43 : decode cX3_fillCell 43 = .ok (.iconst 1, 1) := by decide +kernel
theorem dX3_fillCell_44 : decode cX3_fillCell 44 = .ok (.goto 4, 3) := by decide +kernel
theorem dX3_fillCell_47 : decode cX3_fillCell 47 = .ok (.iconst 0, 1) := by decide +kernel
theorem dX3_fillCell_48 : decode cX3_fillCell 48 = .ok (.istore 5, 2) := by decide +kernel
theorem dX3_fillCell_50 : decode cX3_fillCell 50 = .ok (.aload_n 0, 1) := by decide +kernel
theorem dX3_fillCell_51 : decode cX3_fillCell 51 = .ok (.iload_n 2, 1) := by decide +kernel
theorem dX3_fillCell_52 : decode cX3_fillCell 52 = .ok (.iconst 1, 1) := by decide +kernel
theorem dX3_fillCell_53 : decode cX3_fillCell 53 = .ok (.isub, 1) := by decide +kernel
theorem dX3_fillCell_54 : decode cX3_fillCell 54 = .ok (.iload_n 3, 1) := by decide +kernel
theorem dX3_fillCell_55 : decode cX3_fillCell 55 = .ok (.iconst 1, 1) := by decide +kernel
theorem dX3_fillCell_56 : decode cX3_fillCell 56 = .ok (.isub, 1) := by decide +kernel
theorem dX3_fillCell_57 : decode cX3_fillCell 57 = .ok (.invokevirtual 46, 3) := by decide +kernel
theorem dX3_fillCell_60 : decode cX3_fillCell 60 = .ok (.iload 5, 2) := by decide +kernel
theorem dX3_fillCell_62 : decode cX3_fillCell 62 = .ok (.ifCond .eq 7, 3) := by decide +kernel
theorem dX3_fillCell_65 : decode cX3_fillCell 65 = .ok (.iconst 0, 1) := by decide +kernel
theorem dX3_fillCell_66 : decode cX3_fillCell 66 = .ok (.goto 11, 3) := by decide +kernel
theorem dX3_fillCell_69 : decode cX3_fillCell 69 = .ok (.aload_n 1, 1) := by decide +kernel
theorem dX3_fillCell_70 : decode cX3_fillCell 70 = .ok (.getfield 50, 3) := by decide +kernel
theorem dX3_fillCell_73 : decode cX3_fillCell 73 = .ok (.iconst 1, 1) := by decide +kernel
theorem dX3_fillCell_74 : decode cX3_fillCell 74 = .ok (.invokevirtual 56, 3) := by decide +kernel
theorem dX3_fillCell_77 : decode cX3_fillCell 77 = .ok (.iadd, 1) := by decide +kernel
theorem dX3_fillCell_78 : decode cX3_fillCell 78 = .ok (.istore 6, 2) := by decide +kernel
theorem dX3_fillCell_80 : decode cX3_fillCell 80 = .ok (.aload_n 0, 1) := by decide +kernel
theorem dX3_fillCell_81 : decode cX3_fillCell 81 = .ok (.iload_n 2, 1) := by decide +kernel
theorem dX3_fillCell_82 : decode cX3_fillCell 82 = .ok (.iconst 1, 1) := by decide +kernel
theorem dX3_fillCell_83 : decode cX3_fillCell 83 = .ok (.isub, 1) := by decide +kernel
theorem dX3_fillCell_84 : decode cX3_fillCell 84 = .ok (.iload_n 3, 1) := by decide +kernel
theorem dX3_fillCell_85 : decode cX3_fillCell 85 = .ok (.invokevirtual 46, 3) := by decide +kernel
theorem dX3_fillCell_88 : decode cX3_fillCell 88 = .ok (.iload 4, 2) := by decide +kernel
theorem dX3_fillCell_90 : decode cX3_fillCell 90 = .ok (.iadd, 1) := by decide +kernel
theorem dX3_fillCell_91 : decode cX3_fillCell 91 = .ok (.istore 7, 2) := by decide +kernel
theorem dX3_fillCell_93 : decode cX3_fillCell 93 = .ok (.aload_n 0, 1) := by decide +kernel
theorem dX3_fillCell_94 : decode cX3_fillCell 94 = .ok (.iload_n 2, 1) := by decide +kernel
theorem dX3_fillCell_95 : decode cX3_fillCell 95 = .ok (.iload_n 3, 1) := by decide +kernel
theorem dX3_fillCell_96 : decode cX3_fillCell 96 = .ok (.iconst 1, 1) := by decide +kernel
theorem dX3_fillCell_97 : decode cX3_fillCell 97 = .ok (.isub, 1) := by decide +kernel
theorem dX3_fillCell_98 : decode cX3_fillCell 98 = .ok (.invokevirtual 46, 3) := by decide +kernel
theorem dX3_fillCell_101 : decode cX3_fillCell 101 = .ok (.iload 4, 2) := by decide +kernel
theorem dX3_fillCell_103 : decode cX3_fillCell 103 = .ok (.iadd, 1) := by decide +kernel
theorem dX3_fillCell_104 : decode cX3_fillCell 104 = .ok (.istore 8, 2) := by decide +kernel
theorem dX3_fillCell_106 : decode cX3_fillCell 106 = .ok (.iload 6, 2) := by decide +kernel
theorem dX3_fillCell_108 : decode cX3_fillCell 108 = .ok (.iload 7, 2) := by decide +kernel
theorem dX3_fillCell_110 : decode cX3_fillCell 110 = .ok (.iload 8, 2) := by decide +kernel
theorem dX3_fillCell_112 : decode cX3_fillCell 112 = .ok (.invokestatic 73, 3) := by decide +kernel
theorem dX3_fillCell_115 : decode cX3_fillCell 115 = .ok (.invokestatic 73, 3) := by decide +kernel
theorem dX3_fillCell_118 : decode cX3_fillCell 118 = .ok (.istore 9, 2) := by decide +kernel
theorem dX3_fillCell_120 : decode cX3_fillCell 120 = .ok (.iload 6, 2) := by decide +kernel
theorem dX3_fillCell_122 : decode cX3_fillCell 122 = .ok (.iload 9, 2) := by decide +kernel
theorem dX3_fillCell_124 : decode cX3_fillCell 124 = .ok (.if_icmp .ne 15, 3) := by decide +kernel
theorem dX3_fillCell_127 : decode cX3_fillCell 127 = .ok (.aload_n 0, 1) := by decide +kernel
theorem dX3_fillCell_128 : decode cX3_fillCell 128 = .ok (.iload_n 2, 1) := by decide +kernel
theorem dX3_fillCell_129 : decode cX3_fillCell 129 = .ok (.iload_n 3, 1) := by decide +kernel
theorem dX3_fillCell_130 : decode cX3_fillCell 130 = .ok (.iload 9, 2) := by decide +kernel
theorem dX3_fillCell_132 : decode cX3_fillCell 132 = .ok (.iconst 0, 1) := by decide +kernel
theorem dX3_fillCell_133 : decode cX3_fillCell 133 = .ok (.invokevirtual 38, 3) := by decide +kernel
theorem dX3_fillCell_136 : decode cX3_fillCell 136 = .ok (.goto 23, 3) := by decide +kernel
theorem dX3_fillCell_139 : decode cX3_fillCell 139 = .ok (.aload_n 0, 1) := by decide +kernel
theorem dX3_fillCell_140 : decode cX3_fillCell 140 = .ok (.iload_n 2, 1) := by decide +kernel
theorem dX3_fillCell_141 : decode cX3_fillCell 141 = .ok (.iload_n 3, 1) := by decide +kernel
theorem dX3_fillCell_142 : decode cX3_fillCell 142 = .ok (.iload 9, 2) := by decide +kernel
theorem dX3_fillCell_144 : decode cX3_fillCell 144 = .ok (.iload 7, 2) := by decide +kernel
theorem dX3_fillCell_146 : decode cX3_fillCell 146 = .ok (.iload 9, 2) := by decide +kernel
theorem dX3_fillCell_148 : decode cX3_fillCell 148 = .ok (.if_icmp .ne 7, 3) := by decide +kernel
theorem dX3_fillCell_151 : decode cX3_fillCell 151 = .ok (.iconst 1, 1) := by decide +kernel
theorem dX3_fillCell_152 : decode cX3_fillCell 152 = .ok (.goto 4, 3) := by decide +kernel
theorem dX3_fillCell_155 : decode cX3_fillCell 155 = .ok (.iconst 2, 1) := by decide +kernel
theorem dX3_fillCell_156 : decode cX3_fillCell 156 = .ok (.invokevirtual 38, 3) := by decide +kernel
theorem dX3_fillCell_159 : decode cX3_fillCell 159 = .ok (.return_, 1) := by decide +kernel
theorem dX4_init_0 : decode cX4_init 0 = .ok (.aload_n 0, 1) := by decide +kernel
theorem dX4_init_1 : decode cX4_init 1 = .ok (.invokespecial 3, 3) := by decide +kernel
theorem dX4_init_4 : decode cX4_init 4 = .ok (.aload_n 0, 1) := by decide +kernel
theorem dX4_init_5 : decode cX4_init 5 = .ok (.new 9, 3) := by decide +kernel
theorem dX4_init_8 : decode cX4_init 8 = .ok (.dup, 1) := by decide +kernel
theorem dX4_init_9 : decode cX4_init 9 = .ok (.sipush 324, 3) := by decide +kernel
theorem dX4_init_12 : decode cX4_init 12 = .ok (.invokespecial 13, 3) := by decide +kernel
theorem dX4_init_15 : decode cX4_init 15 = .ok (.putfield 16, 3) := by decide +kernel
theorem dX4_init_18 : decode cX4_init 18 = .ok (.aload_n 0, 1) := by decide +kernel
theorem dX4_init_19 : decode cX4_init 19 = .ok (.iconst 0, 1) := by decide +kernel
theorem dX4_init_20 : decode cX4_init 20 = .ok (.putfield 22, 3) := by decide +kernel
theorem dX4_init_23 : decode cX4_init 23 = .ok (.return_, 1) := by decide +kernel
theorem dX4_size_0 : decode cX4_size 0 = .ok (.aload_n 0, 1) := by decide +kernel
theorem dX4_size_1 : decode cX4_size 1 = .ok (.getfield 22, 3) := by decide +kernel
theorem dX4_size_4 : decode cX4_size 4 = .ok (.ireturn, 1) := by decide +kernel
theorem dX4_save_0 : decode cX4_save 0 = .ok (.aload_n 0, 1) := by decide +kernel
theorem dX4_save_1 : decode cX4_save 1 = .ok (.getfield 22, 3) := by decide +kernel
theorem dX4_save_4 : decode cX4_save 4 = .ok (.bipush 6, 2) := by decide +kernel
theorem dX4_save_6 : decode cX4_save 6 = .ok (.if_icmp .lt 7, 3) := by decide +kernel
theorem dX4_save_9 : decode cX4_save 9 = .ok (.aload_n 0, 1) := by decide +kernel
theorem dX4_save_10 : decode cX4_save 10 = .ok (.invokevirtual 26, 3) := by decide +kernel
theorem dX4_save_13 : decode cX4_save 13 = .ok (.aload_n 1, 1) := by decide +kernel
theorem dX4_save_14 : decode cX4_save 14 = .ok (.aload_n 0, 1) := by decide +kernel
theorem dX4_save_15 : decode cX4_save 15 = .ok (.getfield 16, 3) := by decide +kernel
theorem dX4_save_18 : decode cX4_save 18 = .ok (.aload_n 0, 1) := by decide +kernel
theorem dX4_save_19 : decode cX4_save 19 = .ok (.getfield 22, 3) := by decide +kernel
theorem dX4_save_22 : decode cX4_save 22 = .ok (.bipush 54, 2) := by decide +kernel
theorem dX4_save_24 : decode cX4_save 24 = .ok (.imul, 1) := by decide +kernel
theorem dX4_save_25 : decode cX4_save 25 = .ok (.invokevirtual 29, 3) := by decide +kernel
theorem dX4_save_28 : decode cX4_save 28 = .ok (.aload_n 0, 1) := by decide +kernel
theorem dX4_save_29 : decode cX4_save 29 = .ok (.dup, 1) := by decide +kernel
theorem dX4_save_30 : decode cX4_save 30 = .ok (.getfield 22, 3) := by decide +kernel
theorem dX4_save_33 : decode cX4_save 33 = .ok (.iconst 1, 1) := by decide +kernel
theorem dX4_save_34 : decode cX4_save 34 = .ok (.iadd, 1) := by decide +kernel
theorem dX4_save_35 : decode cX4_save 35 = .ok (.putfield 22, 3) := by decide +kernel
theorem dX4_save_38 : decode cX4_save 38 = .ok (.return_, 1) := by decide +kernel
theorem dX4_dropOldest_0 : decode cX4_dropOldest 0 = .ok (.aload_n 0, 1) := by decide +kernel
theorem dX4_dropOldest_1 : decode cX4_dropOldest 1 = .ok (.dup, 1) := by decide +kernel
theorem dX4_dropOldest_2 : decode cX4_dropOldest 2 = .ok (.getfield 22, 3) := by decide +kernel
theorem dX4_dropOldest_5 : decode cX4_dropOldest 5 = .ok (.iconst 1, 1) := by decide +kernel
theorem dX4_dropOldest_6 : decode cX4_dropOldest 6 = .ok (.isub, 1) := by decide +kernel
theorem dX4_dropOldest_7 : decode cX4_dropOldest 7 = .ok (.putfield 22, 3) := by decide +kernel
theorem dX4_dropOldest_10 : decode cX4_dropOldest 10 = .ok (.iconst 0, 1) := by decide +kernel
theorem dX4_dropOldest_11 : decode cX4_dropOldest 11 = .ok (.istore_n 1, 1) := by decide +kernel
theorem dX4_dropOldest_12 : decode cX4_dropOldest 12 = .ok (.iload_n 1, 1) := by decide +kernel
theorem dX4_dropOldest_13 : decode cX4_dropOldest 13 = .ok (.aload_n 0, 1) := by decide +kernel
theorem dX4_dropOldest_14 : decode cX4_dropOldest 14 = .ok (.getfield 22, 3) := by decide +kernel
theorem dX4_dropOldest_17 : decode cX4_dropOldest 17 = .ok (.bipush 54, 2) := by decide +kernel
theorem dX4_dropOldest_19 : decode cX4_dropOldest 19 = .ok (.imul, 1) := by decide +kernel
theorem dX4_dropOldest_20 : decode cX4_dropOldest 20 = .ok (.if_icmp .ge 28, 3) := by decide +kernel
theorem dX4_dropOldest_23 : decode cX4_dropOldest 23 = .ok (.aload_n 0, 1) := by decide +kernel
theorem dX4_dropOldest_24 : decode cX4_dropOldest 24 = .ok (.getfield 16, 3) := by decide +kernel
theorem dX4_dropOldest_27 : decode cX4_dropOldest 27 = .ok (.iload_n 1, 1) := by decide +kernel
theorem dX4_dropOldest_28 : decode cX4_dropOldest 28 = .ok (.aload_n 0, 1) := by decide +kernel
theorem dX4_dropOldest_29 : decode cX4_dropOldest 29 = .ok (.getfield 16, 3) := by decide +kernel
theorem dX4_dropOldest_32 : decode cX4_dropOldest 32 = .ok (.iload_n 1, 1) := by decide +kernel
theorem dX4_dropOldest_33 : decode cX4_dropOldest 33 = .ok (.bipush 54, 2) := by decide +kernel
theorem dX4_dropOldest_35 : decode cX4_dropOldest 35 = .ok (.iadd, 1) := by decide +kernel
theorem dX4_dropOldest_36 : decode cX4_dropOldest 36 = .ok (.invokevirtual 33, 3) := by decide +kernel
theorem dX4_dropOldest_39 : decode cX4_dropOldest 39 = .ok (.invokevirtual 37, 3) := by decide +kernel
theorem dX4_dropOldest_42 : decode cX4_dropOldest 42 = .ok (.iinc 1 1, 3) := by decide +kernel
theorem dX4_dropOldest_45 : decode cX4_dropOldest 45 = .ok (.goto (-33), 3) := by decide +kernel
theorem dX4_dropOldest_48 : decode cX4_dropOldest 48 = .ok (.return_, 1) := by decide +kernel
theorem dX4_giveBack_0 : decode cX4_giveBack 0 = .ok (.aload_n 0, 1) := by decide +kernel
theorem dX4_giveBack_1 : decode cX4_giveBack 1 = .ok (.getfield 22, 3) := by decide +kernel
theorem dX4_giveBack_4 : decode cX4_giveBack 4 = .ok (.ifCond .le 28, 3) := by decide +kernel
theorem dX4_giveBack_7 : decode cX4_giveBack 7 = .ok (.aload_n 0, 1) := by decide +kernel
theorem dX4_giveBack_8 : decode cX4_giveBack 8 = .ok (.dup, 1) := by decide +kernel
theorem dX4_giveBack_9 : decode cX4_giveBack 9 = .ok (.getfield 22, 3) := by decide +kernel
theorem dX4_giveBack_12 : decode cX4_giveBack 12 = .ok (.iconst 1, 1) := by decide +kernel
theorem dX4_giveBack_13 : decode cX4_giveBack 13 = .ok (.isub, 1) := by decide +kernel
theorem dX4_giveBack_14 : decode cX4_giveBack 14 = .ok (.putfield 22, 3) := by decide +kernel
theorem dX4_giveBack_17 : decode cX4_giveBack 17 = .ok (.aload_n 1, 1) := by decide +kernel
theorem dX4_giveBack_18 : decode cX4_giveBack 18 = .ok (.aload_n 0, 1) := by decide +kernel
theorem dX4_giveBack_19 : decode cX4_giveBack 19 = .ok (.getfield 16, 3) := by decide +kernel
theorem dX4_giveBack_22 : decode cX4_giveBack 22 = .ok (.aload_n 0, 1) := by decide +kernel
theorem dX4_giveBack_23 : decode cX4_giveBack 23 = .ok (.getfield 22, 3) := by decide +kernel
theorem dX4_giveBack_26 : decode cX4_giveBack 26 = .ok (.bipush 54, 2) := by decide +kernel
theorem dX4_giveBack_28 : decode cX4_giveBack 28 = .ok (.imul, 1) := by decide +kernel
theorem dX4_giveBack_29 : decode cX4_giveBack 29 = .ok (.invokevirtual 41, 3) := by decide +kernel
theorem dX4_giveBack_32 : decode cX4_giveBack 32 = .ok (.return_, 1) := by decide +kernel
theorem dX5_init_0 : decode cX5_init 0 = .ok (.aload_n 0, 1) := by decide +kernel
theorem dX5_init_1 : decode cX5_init 1 = .ok (.invokespecial 3, 3) := by decide +kernel
theorem dX5_init_4 : decode cX5_init 4 = .ok (.aload_n 0, 1) := by decide +kernel
theorem dX5_init_5 : decode cX5_init 5 = .ok (.new 9, 3) := by decide +kernel
theorem dX5_init_8 : decode cX5_init 8 = .ok (.dup, 1) := by decide +kernel
theorem dX5_init_9 : decode cX5_init 9 = .ok (.invokespecial 11, 3) := by decide +kernel
theorem dX5_init_12 : decode cX5_init 12 = .ok (.putfield 12, 3) := by decide +kernel
theorem dX5_init_15 : decode cX5_init 15 = .ok (.aload_n 0, 1) := by decide +kernel
theorem dX5_init_16 : decode cX5_init 16 = .ok (.new 18, 3) := by decide +kernel
theorem dX5_init_19 : decode cX5_init 19 = .ok (.dup, 1) := by decide +kernel
theorem dX5_init_20 : decode cX5_init 20 = .ok (.invokespecial 20, 3) := by decide +kernel
theorem dX5_init_23 : decode cX5_init 23 = .ok (.putfield 21, 3) := by decide +kernel
theorem dX5_init_26 : decode cX5_init 26 = .ok (.aload_n 0, 1) := by decide +kernel
theorem dX5_init_27 : decode cX5_init 27 = .ok (.iconst 0, 1) := by decide +kernel
theorem dX5_init_28 : decode cX5_init 28 = .ok (.putfield 25, 3) := by decide +kernel
theorem dX5_init_31 : decode cX5_init 31 = .ok (.aload_n 0, 1) := by decide +kernel
theorem dX5_init_32 : decode cX5_init 32 = .ok (.iconst 0, 1) := by decide +kernel
theorem dX5_init_33 : decode cX5_init 33 = .ok (.putfield 29, 3) := by decide +kernel
theorem dX5_init_36 : decode cX5_init 36 = .ok (.aload_n 0, 1) := by decide +kernel
theorem dX5_init_37 : decode cX5_init 37 = .ok (.new 32, 3) := by decide +kernel
theorem dX5_init_40 : decode cX5_init 40 = .ok (.dup, 1) := by decide +kernel
theorem dX5_init_41 : decode cX5_init 41 = .ok (.invokespecial 34, 3) := by decide +kernel
theorem dX5_init_44 : decode cX5_init 44 = .ok (.putfield 35, 3) := by decide +kernel
theorem dX5_init_47 : decode cX5_init 47 = .ok (.aload_n 0, 1) := by decide +kernel
theorem dX5_init_48 : decode cX5_init 48 = .ok (.new 39, 3) := by decide +kernel
theorem dX5_init_51 : decode cX5_init 51 = .ok (.dup, 1) := by decide +kernel
theorem dX5_init_52 : decode cX5_init 52 = .ok (.bipush 125, 2) := by decide +kernel
theorem dX5_init_54 : decode cX5_init 54 = .ok (.invokespecial 41, 3) := by decide +kernel
theorem dX5_init_57 : decode cX5_init 57 = .ok (.putfield 44, 3) := by decide +kernel
theorem dX5_init_60 : decode cX5_init 60 = .ok (.aload_n 0, 1) := by decide +kernel
theorem dX5_init_61 : decode cX5_init 61 = .ok (.new 39, 3) := by decide +kernel
theorem dX5_init_64 : decode cX5_init 64 = .ok (.dup, 1) := by decide +kernel
theorem dX5_init_65 : decode cX5_init 65 = .ok (.bipush 24, 2) := by decide +kernel
theorem dX5_init_67 : decode cX5_init 67 = .ok (.invokespecial 41, 3) := by decide +kernel
theorem dX5_init_70 : decode cX5_init 70 = .ok (.putfield 48, 3) := by decide +kernel
theorem dX5_init_73 : decode cX5_init 73 = .ok (.aload_n 0, 1) := by decide +kernel
theorem dX5_init_74 : decode cX5_init 74 = .ok (.new 39, 3) := by decide +kernel
theorem dX5_init_77 : decode cX5_init 77 = .ok (.dup, 1) := by decide +kernel
theorem dX5_init_78 : decode cX5_init 78 = .ok (.bipush 24, 2) := by decide +kernel
theorem dX5_init_80 : decode cX5_init 80 = .ok (.invokespecial 41, 3) := by decide +kernel
theorem dX5_init_83 : decode cX5_init 83 = .ok (.putfield 51, 3) := by decide +kernel
theorem dX5_init_86 : decode cX5_init 86 = .ok (.return_, 1) := by decide +kernel
theorem dX5_build_0 : decode cX5_build 0 = .ok (.aload_n 0, 1) := by decide +kernel
theorem dX5_build_1 : decode cX5_build 1 = .ok (.getfield 12, 3) := by decide +kernel
theorem dX5_build_4 : decode cX5_build 4 = .ok (.aload_n 1, 1) := by decide +kernel
theorem dX5_build_5 : decode cX5_build 5 = .ok (.iconst 0, 1) := by decide +kernel
theorem dX5_build_6 : decode cX5_build 6 = .ok (.invokevirtual 54, 3) := by decide +kernel
theorem dX5_build_9 : decode cX5_build 9 = .ok (.aload_n 0, 1) := by decide +kernel
theorem dX5_build_10 : decode cX5_build 10 = .ok (.getfield 21, 3) := by decide +kernel
theorem dX5_build_13 : decode cX5_build 13 = .ok (.aload_n 0, 1) := by decide +kernel
theorem dX5_build_14 : decode cX5_build 14 = .ok (.getfield 12, 3) := by decide +kernel
theorem dX5_build_17 : decode cX5_build 17 = .ok (.invokevirtual 58, 3) := by decide +kernel
theorem dX5_build_20 : decode cX5_build 20 = .ok (.aload_n 0, 1) := by decide +kernel
theorem dX5_build_21 : decode cX5_build 21 = .ok (.invokevirtual 61, 3) := by decide +kernel
theorem dX5_build_24 : decode cX5_build 24 = .ok (.iconst 0, 1) := by decide +kernel
theorem dX5_build_25 : decode cX5_build 25 = .ok (.istore_n 2, 1) := by decide +kernel
theorem dX5_build_26 : decode cX5_build 26 = .ok (.iconst 0, 1) := by decide +kernel
theorem dX5_build_27 : decode cX5_build 27 = .ok (.istore_n 3, 1) := by decide +kernel
theorem dX5_build_28 : decode cX5_build 28 = .ok (.iconst 0, 1) := by decide +kernel
theorem dX5_build_29 : decode cX5_build 29 = .ok (.istore 4, 2) := by decide +kernel
theorem dX5_build_31 : decode cX5_build 31 = .ok (.iload 4, 2) := by decide +kernel
theorem dX5_build_33 : decode cX5_build 33 = .ok (.aload_n 0, 1) := by decide +kernel
theorem dX5_build_34 : decode cX5_build 34 = .ok (.getfield 21, 3) := by decide +kernel
theorem dX5_build_37 : decode cX5_build 37 = .ok (.getfield 64, 3) := by decide +kernel
theorem dX5_build_40 : decode cX5_build 40 = .ok (.if_icmp .ge 115, 3) := by decide +kernel
theorem dX5_build_43 : decode cX5_build 43 = .ok (.aload_n 0, 1) := by decide +kernel
theorem dX5_build_44 : decode cX5_build 44 = .ok (.getfield 12, 3) := by decide +kernel
theorem dX5_build_47 : decode cX5_build 47 = .ok (.getfield 67, 3) := by decide +kernel
theorem dX5_build_50 : decode cX5_build 50 = .ok (.aload_n 0, 1) := by decide +kernel
theorem dX5_build_51 : decode cX5_build 51 = .ok (.getfield 21, 3) := by decide +kernel
theorem dX5_build_54 : decode cX5_build 54 = .ok (.getfield 70, 3) := by decide +kernel
theorem dX5_build_57 : decode cX5_build 57 = .ok (.iload 4, 2) := by decide +kernel
theorem dX5_build_59 : decode cX5_build 59 = .ok (.invokevirtual 73, 3) := by decide +kernel
theorem dX5_build_62 : decode cX5_build 62 = .ok (.invokevirtual 73, 3) := by decide +kernel
theorem dX5_build_65 : decode cX5_build 65 = .ok (.istore 5, 2) := by decide +kernel
theorem dX5_build_67 : decode cX5_build 67 = .ok (.aload_n 0, 1) := by decide +kernel
theorem dX5_build_68 : decode cX5_build 68 = .ok (.getfield 12, 3) := by decide +kernel
theorem dX5_build_71 : decode cX5_build 71 = .ok (.getfield 77, 3) := by decide +kernel
theorem dX5_build_74 : decode cX5_build 74 = .ok (.aload_n 0, 1) := by decide +kernel
theorem dX5_build_75 : decode cX5_build 75 = .ok (.getfield 21, 3) := by decide +kernel
theorem dX5_build_78 : decode cX5_build 78 = .ok (.getfield 70, 3) := by decide +kernel
theorem dX5_build_81 : decode cX5_build 81 = .ok (.iload 4, 2) := by decide +kernel
theorem dX5_build_83 : decode cX5_build 83 = .ok (.invokevirtual 73, 3) := by decide +kernel
theorem dX5_build_86 : decode cX5_build 86 = .ok (.invokevirtual 73, 3) := by decide +kernel
theorem dX5_build_89 : decode cX5_build 89 = .ok (.istore 6, 2) := by decide +kernel
theorem dX5_build_91 : decode cX5_build 91 = .ok (.iload 4, 2) := by decide +kernel
theorem dX5_build_93 : decode cX5_build 93 = .ok (.ifCond .eq 15, 3) := by decide +kernel
theorem dX5_build_96 : decode cX5_build 96 = .ok (.iload 5, 2) := by decide +kernel
theorem dX5_build_98 : decode cX5_build 98 = .ok (.iload_n 2, 1) := by decide +kernel
theorem dX5_build_99 : decode cX5_build 99 = .ok (.if_icmp .gt 9, 3) := by decide +kernel
theorem dX5_build_102 : decode cX5_build 102 = .ok (.iload 6, 2) := by decide +kernel
theorem dX5_build_104 : decode cX5_build 104 = .ok (.iload_n 3, 1) := by decide +kernel
theorem dX5_build_105 : decode cX5_build 105 = .ok (.if_icmp .le 14, 3) := by decide +kernel
theorem dX5_build_108 : decode cX5_build 108 = .ok (.aload_n 0, 1) := by decide +kernel
theorem dX5_build_109 : decode cX5_build 109 = .ok (.aload_n 1, 1) := by decide +kernel
theorem dX5_build_110 : decode cX5_build 110 = .ok (.iload_n 2, 1) := by decide +kernel
theorem dX5_build_111 : decode cX5_build 111 = .ok (.iload 5, 2) := by decide +kernel
theorem dX5_build_113 : decode cX5_build 113 = .ok (.iload_n 3, 1) := by decide +kernel
theorem dX5_build_114 : decode cX5_build 114 = .ok (.iload 6, 2) := by decide +kernel
theorem dX5_build_116 : decode cX5_build 116 = .ok (.invokevirtual 80, 3) := by decide +kernel
theorem dX5_build_119 : decode cX5_build 119 = .ok (.aload_n 0, 1) := by decide +kernel
theorem dX5_build_120 : decode cX5_build 120 = .ok (.iload 5, 2) := by decide +kernel
theorem dX5_build_122 : decode cX5_build 122 = .ok (.iload 6, 2) := by decide +kernel
theorem dX5_build_124 : decode cX5_build 124 = .ok (.invokevirtual 84, 3) := by decide +kernel
theorem dX5_build_127 : decode cX5_build 127 = .ok (.iload 5, 2) := by decide +kernel
theorem dX5_build_129 : decode cX5_build 129 = .ok (.aload_n 0, 1) := by decide +kernel
theorem dX5_build_130 : decode cX5_build 130 = .ok (.getfield 12, 3) := by decide +kernel
theorem dX5_build_133 : decode cX5_build 133 = .ok (.getfield 88, 3) := by decide +kernel
theorem dX5_build_136 : decode cX5_build 136 = .ok (.iadd, 1) := by decide +kernel
theorem dX5_build_137 : decode cX5_build 137 = .ok (.istore_n 2, 1) := by decide +kernel
theorem dX5_build_138 : decode cX5_build 138 = .ok (.iload 6, 2) := by decide +kernel
theorem dX5_build_140 : decode cX5_build 140 = .ok (.aload_n 0, 1) := by decide +kernel
theorem dX5_build_141 : decode cX5_build 141 = .ok (.getfield 12, 3) := by decide +kernel
theorem dX5_build_144 : decode cX5_build 144 = .ok (.getfield 88, 3) := by decide +kernel
theorem dX5_build_147 : decode cX5_build 147 = .ok (.iadd, 1) := by decide +kernel
theorem dX5_build_148 : decode cX5_build 148 = .ok (.istore_n 3, 1) := by decide +kernel
theorem dX5_build_149 : decode cX5_build 149 = .ok (.iinc 4 1, 3) := by decide +kernel
theorem dX5_build_152 : decode cX5_build 152 = .ok (.goto (-121), 3) := by decide +kernel
theorem dX5_build_155 : decode cX5_build 155 = .ok (.aload_n 0, 1) := by decide +kernel
theorem dX5_build_156 : decode cX5_build 156 = .ok (.aload_n 1, 1) := by decide +kernel
theorem dX5_build_157 : decode cX5_build 157 = .ok (.iload_n 2, 1) := by decide +kernel
theorem dX5_build_158 : decode cX5_build 158 = .ok (.aload_n 1, 1) := by decide +kernel
theorem dX5_build_159 : decode cX5_build 159 = .ok (.getfield 91, 3) := by decide +kernel
theorem dX5_build_162 : decode cX5_build 162 = .ok (.invokevirtual 97, 3) := by decide +kernel
theorem dX5_build_165 : decode cX5_build 165 = .ok (.iload_n 3, 1) := by decide +kernel
theorem dX5_build_166 : decode cX5_build 166 = .ok (.aload_n 1, 1) := by decide +kernel
theorem dX5_build_167 : decode cX5_build 167 = .ok (.getfield 103, 3) := by decide +kernel
theorem dX5_build_170 : decode cX5_build 170 = .ok (.invokevirtual 97, 3) := by decide +kernel
theorem dX5_build_173 : decode cX5_build 173 = .ok (.invokevirtual 80, 3) := by decide +kernel
theorem dX5_build_176 : decode cX5_build 176 = .ok (.aload_n 0, 1) := by decide +kernel
theorem dX5_build_177 : decode cX5_build 177 = .ok (.getfield 29, 3) := by decide +kernel
theorem dX5_build_180 : decode cX5_build 180 = .ok (.ireturn, 1) := by decide +kernel
theorem dX5_forget_0 : decode cX5_forget 0 = .ok (.aload_n 0, 1) := by decide +kernel
theorem dX5_forget_1 : decode cX5_forget 1 = .ok (.iconst 0, 1) := by decide +kernel
theorem dX5_forget_2 : decode cX5_forget 2 = .ok (.putfield 25, 3) := by decide +kernel
theorem dX5_forget_5 : decode cX5_forget 5 = .ok (.aload_n 0, 1) := by decide +kernel
theorem dX5_forget_6 : decode cX5_forget 6 = .ok (.iconst 0, 1) := by decide +kernel
theorem dX5_forget_7 : decode cX5_forget 7 = .ok (.putfield 29, 3) := by decide +kernel
theorem dX5_forget_10 : decode cX5_forget 10 = .ok (.iconst 0, 1) := by decide +kernel
theorem dX5_forget_11 : decode cX5_forget 11 = .ok (.istore_n 1, 1) := by decide +kernel
theorem dX5_forget_12 : decode cX5_forget 12 = .ok (.iload_n 1, 1) := by decide +kernel
theorem dX5_forget_13 : decode cX5_forget 13 = .ok (.bipush 24, 2) := by decide +kernel
theorem dX5_forget_15 : decode cX5_forget 15 = .ok (.if_icmp .ge 27, 3) := by decide +kernel
theorem dX5_forget_18 : decode cX5_forget 18 = .ok (.aload_n 0, 1) := by decide +kernel
theorem dX5_forget_19 : decode cX5_forget 19 = .ok (.getfield 48, 3) := by decide +kernel
theorem dX5_forget_22 : decode cX5_forget 22 = .ok (.iload_n 1, 1) := by decide +kernel
theorem dX5_forget_23 : decode cX5_forget 23 = .ok (.iconst (-1), 1) := by decide +kernel
theorem dX5_forget_24 : decode cX5_forget 24 = .ok (.invokevirtual 106, 3) := by decide +kernel
theorem dX5_forget_27 : decode cX5_forget 27 = .ok (.aload_n 0, 1) := by decide +kernel
theorem dX5_forget_28 : decode cX5_forget 28 = .ok (.getfield 51, 3) := by decide +kernel
theorem dX5_forget_31 : decode cX5_forget 31 = .ok (.iload_n 1, 1) := by decide +kernel
theorem dX5_forget_32 : decode cX5_forget 32 = .ok (.iconst (-1), 1) := by decide +kernel
theorem dX5_forget_33 : decode cX5_forget 33 = .ok (.invokevirtual 106, 3) := by decide +kernel
theorem dX5_forget_36 : decode cX5_forget 36 = .ok (.iinc 1 1, 3) := by decide +kernel
theorem dX5_forget_39 : decode cX5_forget 39 = .ok (.goto (-27), 3) := by decide +kernel
theorem dX5_forget_42 : decode cX5_forget 42 = .ok (.return_, 1) := by decide +kernel
theorem dX5_pairPlaces_0 : decode cX5_pairPlaces 0 = .ok (.aload_n 0, 1) := by decide +kernel
theorem dX5_pairPlaces_1 : decode cX5_pairPlaces 1 = .ok (.getfield 48, 3) := by decide +kernel
theorem dX5_pairPlaces_4 : decode cX5_pairPlaces 4 = .ok (.iload_n 1, 1) := by decide +kernel
theorem dX5_pairPlaces_5 : decode cX5_pairPlaces 5 = .ok (.iload_n 2, 1) := by decide +kernel
theorem dX5_pairPlaces_6 : decode cX5_pairPlaces 6 = .ok (.invokevirtual 106, 3) := by decide +kernel
theorem dX5_pairPlaces_9 : decode cX5_pairPlaces 9 = .ok (.aload_n 0, 1) := by decide +kernel
theorem dX5_pairPlaces_10 : decode cX5_pairPlaces 10 = .ok (.getfield 51, 3) := by decide +kernel
theorem dX5_pairPlaces_13 : decode cX5_pairPlaces 13 = .ok (.iload_n 2, 1) := by decide +kernel
theorem dX5_pairPlaces_14 : decode cX5_pairPlaces 14 = .ok (.iload_n 1, 1) := by decide +kernel
theorem dX5_pairPlaces_15 : decode cX5_pairPlaces 15 = .ok (.invokevirtual 106, 3) := by decide +kernel
theorem dX5_pairPlaces_18 : decode cX5_pairPlaces 18 = .ok (.return_, 1) := by decide +kernel
theorem dX5_pairWord_0 : decode cX5_pairWord 0 = .ok (.iconst 0, 1) := by decide +kernel
theorem dX5_pairWord_1 : decode cX5_pairWord 1 = .ok (.istore_n 3, 1) := by decide +kernel
theorem dX5_pairWord_2 : decode cX5_pairWord 2 = .ok (.iload_n 3, 1) := by decide +kernel
theorem dX5_pairWord_3 : decode cX5_pairWord 3 = .ok (.aload_n 0, 1) := by decide +kernel
theorem dX5_pairWord_4 : decode cX5_pairWord 4 = .ok (.getfield 12, 3) := by decide +kernel
theorem dX5_pairWord_7 : decode cX5_pairWord 7 = .ok (.getfield 88, 3) := by decide +kernel
theorem dX5_pairWord_10 : decode cX5_pairWord 10 = .ok (.if_icmp .ge 19, 3) := by decide +kernel
theorem dX5_pairWord_13 : decode cX5_pairWord 13 = .ok (.aload_n 0, 1) := by decide +kernel
theorem dX5_pairWord_14 : decode cX5_pairWord 14 = .ok (.iload_n 1, 1) := by decide +kernel
theorem dX5_pairWord_15 : decode cX5_pairWord 15 = .ok (.iload_n 3, 1) := by decide +kernel
theorem dX5_pairWord_16 : decode cX5_pairWord 16 = .ok (.iadd, 1) := by decide +kernel
theorem dX5_pairWord_17 : decode cX5_pairWord 17 = .ok (.iload_n 2, 1) := by decide +kernel
theorem dX5_pairWord_18 : decode cX5_pairWord 18 = .ok (.iload_n 3, 1) := by decide +kernel
theorem dX5_pairWord_19 : decode cX5_pairWord 19 = .ok (.iadd, 1) := by decide +kernel
theorem dX5_pairWord_20 : decode cX5_pairWord 20 = .ok (.invokevirtual 109, 3) := by decide +kernel
theorem dX5_pairWord_23 : decode cX5_pairWord 23 = .ok (.iinc 3 1, 3) := by decide +kernel
theorem dX5_pairWord_26 : decode cX5_pairWord 26 = .ok (.goto (-24), 3) := by decide +kernel
theorem dX5_pairWord_29 : decode cX5_pairWord 29 = .ok (.return_, 1) := by decide +kernel
theorem dX5_closeGap_0 : decode cX5_closeGap 0 = .ok (.iload_n 3, 1) := by decide +kernel
theorem dX5_closeGap_1 : decode cX5_closeGap 1 = .ok (.iload_n 2, 1) := by decide +kernel
theorem dX5_closeGap_2 : decode cX5_closeGap 2 = .ok (.isub, 1) := by decide +kernel
theorem dX5_closeGap_3 : decode cX5_closeGap 3 = .ok (.istore 6, 2) := by decide +kernel
theorem dX5_closeGap_5 : decode cX5_closeGap 5 = .ok (.iload 5, 2) := by decide +kernel
theorem dX5_closeGap_7 : decode cX5_closeGap 7 = .ok (.iload 4, 2) := by decide +kernel
theorem dX5_closeGap_9 : decode cX5_closeGap 9 = .ok (.isub, 1) := by decide +kernel
theorem dX5_closeGap_10 : decode cX5_closeGap 10 = .ok (.istore 7, 2) := by decide +kernel
theorem dX5_closeGap_12 : decode cX5_closeGap 12 = .ok (.aload_n 0, 1) := by decide +kernel
theorem dX5_closeGap_13 : decode cX5_closeGap 13 = .ok (.getfield 35, 3) := by decide +kernel
theorem dX5_closeGap_16 : decode cX5_closeGap 16 = .ok (.iload_n 2, 1) := by decide +kernel
theorem dX5_closeGap_17 : decode cX5_closeGap 17 = .ok (.iload 6, 2) := by decide +kernel
theorem dX5_closeGap_19 : decode cX5_closeGap 19 = .ok (.iload 4, 2) := by decide +kernel
theorem dX5_closeGap_21 : decode cX5_closeGap 21 = .ok (.iload 7, 2) := by decide +kernel
theorem dX5_closeGap_23 : decode cX5_closeGap 23 = .ok (.invokevirtual 112, 3) := by decide +kernel
theorem dX5_closeGap_26 : decode cX5_closeGap 26 = .ok (.aload_n 1, 1) := by decide +kernel
theorem dX5_closeGap_27 : decode cX5_closeGap 27 = .ok (.getfield 116, 3) := by decide +kernel
theorem dX5_closeGap_30 : decode cX5_closeGap 30 = .ok (.iconst 3, 1) := by decide +kernel
theorem dX5_closeGap_31 : decode cX5_closeGap 31 = .ok (.invokevirtual 73, 3) := by decide +kernel
theorem dX5_closeGap_34 : decode cX5_closeGap 34 = .ok (.iload 6, 2) := by decide +kernel
theorem dX5_closeGap_36 : decode cX5_closeGap 36 = .ok (.iload 7, 2) := by decide +kernel
theorem dX5_closeGap_38 : decode cX5_closeGap 38 = .ok (.isub, 1) := by decide +kernel
theorem dX5_closeGap_39 : decode cX5_closeGap 39 = .ok (.invokestatic 119, 3) := by decide +kernel
theorem dX5_closeGap_42 : decode cX5_closeGap 42 = .ok (.invokestatic 124, 3) := by decide +kernel
theorem dX5_closeGap_45 : decode cX5_closeGap 45 = .ok (.istore 8, 2) := by decide +kernel
theorem dX5_closeGap_47 : decode cX5_closeGap 47 = .ok (.aload_n 0, 1) := by decide +kernel
theorem dX5_closeGap_48 : decode cX5_closeGap 48 = .ok (.getfield 35, 3) := by decide +kernel
theorem dX5_closeGap_51 : decode cX5_closeGap 51 = .ok (.aload_n 1, 1) := by decide +kernel
theorem dX5_closeGap_52 : decode cX5_closeGap 52 = .ok (.iload 8, 2) := by decide +kernel
theorem dX5_closeGap_54 : decode cX5_closeGap 54 = .ok (.invokevirtual 128, 3) := by decide +kernel
theorem dX5_closeGap_57 : decode cX5_closeGap 57 = .ok (.istore 9, 2) := by decide +kernel
theorem dX5_closeGap_59 : decode cX5_closeGap 59 = .ok (.aload_n 0, 1) := by decide +kernel
theorem dX5_closeGap_60 : decode cX5_closeGap 60 = .ok (.invokevirtual 132, 3) := by decide +kernel
theorem dX5_closeGap_63 : decode cX5_closeGap 63 = .ok (.aload_n 0, 1) := by decide +kernel
theorem dX5_closeGap_64 : decode cX5_closeGap 64 = .ok (.getfield 25, 3) := by decide +kernel
theorem dX5_closeGap_67 : decode cX5_closeGap 67 = .ok (.iconst 5, 1) := by decide +kernel
theorem dX5_closeGap_68 : decode cX5_closeGap 68 = .ok (.imul, 1) := by decide +kernel
theorem dX5_closeGap_69 : decode cX5_closeGap 69 = .ok (.istore 10, 2) := by decide +kernel
theorem dX5_closeGap_71 : decode cX5_closeGap 71 = .ok (.aload_n 0, 1) := by decide +kernel
theorem dX5_closeGap_72 : decode cX5_closeGap 72 = .ok (.getfield 44, 3) := by decide +kernel
theorem dX5_closeGap_75 : decode cX5_closeGap 75 = .ok (.iload 10, 2) := by decide +kernel
theorem dX5_closeGap_77 : decode cX5_closeGap 77 = .ok (.iload_n 2, 1) := by decide +kernel
theorem dX5_closeGap_78 : decode cX5_closeGap 78 = .ok (.invokevirtual 106, 3) := by decide +kernel
theorem dX5_closeGap_81 : decode cX5_closeGap 81 = .ok (.aload_n 0, 1) := by decide +kernel
theorem dX5_closeGap_82 : decode cX5_closeGap 82 = .ok (.getfield 44, 3) := by decide +kernel
theorem dX5_closeGap_85 : decode cX5_closeGap 85 = .ok (.iload 10, 2) := by decide +kernel
theorem dX5_closeGap_87 : decode cX5_closeGap 87 = .ok (.iconst 1, 1) := by decide +kernel
theorem dX5_closeGap_88 : decode cX5_closeGap 88 = .ok (.iadd, 1) := by decide +kernel
theorem dX5_closeGap_89 : decode cX5_closeGap 89 = .ok (.iload 6, 2) := by decide +kernel
theorem dX5_closeGap_91 : decode cX5_closeGap 91 = .ok (.invokevirtual 106, 3) := by decide +kernel
theorem dX5_closeGap_94 : decode cX5_closeGap 94 = .ok (.aload_n 0, 1) := by decide +kernel
theorem dX5_closeGap_95 : decode cX5_closeGap 95 = .ok (.getfield 44, 3) := by decide +kernel
theorem dX5_closeGap_98 : decode cX5_closeGap 98 = .ok (.iload 10, 2) := by decide +kernel
theorem dX5_closeGap_100 : decode cX5_closeGap 100 = .ok (.iconst 2, 1) := by decide +kernel
theorem dX5_closeGap_101 : decode cX5_closeGap 101 = .ok (.iadd, 1) := by decide +kernel
theorem dX5_closeGap_102 : decode cX5_closeGap 102 = .ok (.iload 4, 2) := by decide +kernel
theorem dX5_closeGap_104 : decode cX5_closeGap 104 = .ok (.invokevirtual 106, 3) := by decide +kernel
theorem dX5_closeGap_107 : decode cX5_closeGap 107 = .ok (.aload_n 0, 1) := by decide +kernel
theorem dX5_closeGap_108 : decode cX5_closeGap 108 = .ok (.getfield 44, 3) := by decide +kernel
theorem dX5_closeGap_111 : decode cX5_closeGap 111 = .ok (.iload 10, 2) := by decide +kernel
theorem dX5_closeGap_113 : decode cX5_closeGap 113 = .ok (.iconst 3, 1) := by decide +kernel
theorem dX5_closeGap_114 : decode cX5_closeGap 114 = .ok (.iadd, 1) := by decide +kernel
theorem dX5_closeGap_115 : decode cX5_closeGap 115 = .ok (.iload 7, 2) := by decide +kernel
theorem dX5_closeGap_117 : decode cX5_closeGap 117 = .ok (.invokevirtual 106, 3) := by decide +kernel
theorem dX5_closeGap_120 : decode cX5_closeGap 120 = .ok (.aload_n 0, 1) := by decide +kernel
theorem dX5_closeGap_121 : decode cX5_closeGap 121 = .ok (.getfield 44, 3) := by decide +kernel
theorem dX5_closeGap_124 : decode cX5_closeGap 124 = .ok (.iload 10, 2) := by decide +kernel
theorem dX5_closeGap_126 : decode cX5_closeGap 126 = .ok (.iconst 4, 1) := by decide +kernel
theorem dX5_closeGap_127 : decode cX5_closeGap 127 = .ok (.iadd, 1) := by decide +kernel
theorem dX5_closeGap_128 : decode cX5_closeGap 128 = .ok (.iload 9, 2) := by decide +kernel
theorem dX5_closeGap_130 : decode cX5_closeGap 130 = .ok (.invokevirtual 106, 3) := by decide +kernel
theorem dX5_closeGap_133 : decode cX5_closeGap 133 = .ok (.aload_n 0, 1) := by decide +kernel
theorem dX5_closeGap_134 : decode cX5_closeGap 134 = .ok (.dup, 1) := by decide +kernel
theorem dX5_closeGap_135 : decode cX5_closeGap 135 = .ok (.getfield 25, 3) := by decide +kernel
theorem dX5_closeGap_138 : decode cX5_closeGap 138 = .ok (.iconst 1, 1) := by decide +kernel
theorem dX5_closeGap_139 : decode cX5_closeGap 139 = .ok (.iadd, 1) := by decide +kernel
theorem dX5_closeGap_140 : decode cX5_closeGap 140 = .ok (.putfield 25, 3) := by decide +kernel
theorem dX5_closeGap_143 : decode cX5_closeGap 143 = .ok (.aload_n 0, 1) := by decide +kernel
theorem dX5_closeGap_144 : decode cX5_closeGap 144 = .ok (.dup, 1) := by decide +kernel
theorem dX5_closeGap_145 : decode cX5_closeGap 145 = .ok (.getfield 29, 3) := by decide +kernel
theorem dX5_closeGap_148 : decode cX5_closeGap 148 = .ok (.iload 9, 2) := by decide +kernel
theorem dX5_closeGap_150 : decode cX5_closeGap 150 = .ok (.iadd, 1) := by decide +kernel
theorem dX5_closeGap_151 : decode cX5_closeGap 151 = .ok (.putfield 29, 3) := by decide +kernel
theorem dX5_closeGap_154 : decode cX5_closeGap 154 = .ok (.return_, 1) := by decide +kernel
theorem dX5_pairGap_0 : decode cX5_pairGap 0 = .ok (.aload_n 0, 1) := by decide +kernel
theorem dX5_pairGap_1 : decode cX5_pairGap 1 = .ok (.getfield 35, 3) := by decide +kernel
theorem dX5_pairGap_4 : decode cX5_pairGap 4 = .ok (.getfield 135, 3) := by decide +kernel
theorem dX5_pairGap_7 : decode cX5_pairGap 7 = .ok (.istore_n 1, 1) := by decide +kernel
theorem dX5_pairGap_8 : decode cX5_pairGap 8 = .ok (.aload_n 0, 1) := by decide +kernel
theorem dX5_pairGap_9 : decode cX5_pairGap 9 = .ok (.getfield 35, 3) := by decide +kernel
theorem dX5_pairGap_12 : decode cX5_pairGap 12 = .ok (.getfield 138, 3) := by decide +kernel
theorem dX5_pairGap_15 : decode cX5_pairGap 15 = .ok (.istore_n 2, 1) := by decide +kernel
theorem dX5_pairGap_16 : decode cX5_pairGap 16 = .ok (.iload_n 1, 1) := by decide +kernel
theorem dX5_pairGap_17 : decode cX5_pairGap 17 = .ok (.iload_n 2, 1) := by decide +kernel
theorem dX5_pairGap_18 : decode cX5_pairGap 18 = .ok (.iadd, 1) := by decide +kernel
theorem dX5_pairGap_19 : decode cX5_pairGap 19 = .ok (.istore_n 3, 1) := by decide +kernel
theorem dX5_pairGap_20 : decode cX5_pairGap 20 = .ok (.iload_n 3, 1) := by decide +kernel
theorem dX5_pairGap_21 : decode cX5_pairGap 21 = .ok (.ifCond .le 83, 3) := by decide +kernel
theorem dX5_pairGap_24 : decode cX5_pairGap 24 = .ok (.iload_n 1, 1) := by decide +kernel
theorem dX5_pairGap_25 : decode cX5_pairGap 25 = .ok (.ifCond .le 79, 3) := by decide +kernel
theorem dX5_pairGap_28 : decode cX5_pairGap 28 = .ok (.iload_n 2, 1) := by decide +kernel
theorem dX5_pairGap_29 : decode cX5_pairGap 29 = .ok (.ifCond .le 75, 3) := by decide +kernel
theorem dX5_pairGap_32 : decode cX5_pairGap 32 = .ok (.aload_n 0, 1) := by decide +kernel
theorem dX5_pairGap_33 : decode cX5_pairGap 33 = .ok (.getfield 35, 3) := by decide +kernel
theorem dX5_pairGap_36 : decode cX5_pairGap 36 = .ok (.iload_n 1, 1) := by decide +kernel
theorem dX5_pairGap_37 : decode cX5_pairGap 37 = .ok (.iload_n 2, 1) := by decide +kernel
theorem dX5_pairGap_38 : decode cX5_pairGap 38 = .ok (.invokevirtual 141, 3) := by decide +kernel
theorem dX5_pairGap_41 : decode cX5_pairGap 41 = .ok (.istore 4, 2) := by decide +kernel
theorem dX5_pairGap_43 : decode cX5_pairGap 43 = .ok (.iload_n 1, 1) := by decide +kernel
theorem dX5_pairGap_44 : decode cX5_pairGap 44 = .ok (.iload 4, 2) := by decide +kernel
theorem dX5_pairGap_46 : decode cX5_pairGap 46 = .ok (.iconst 2, 1) := by decide +kernel
theorem dX5_pairGap_47 : decode cX5_pairGap 47 = .ok (.if_icmp .ne 7, 3) := by decide +kernel
theorem dX5_pairGap_50 : decode cX5_pairGap 50 = .ok (.iconst 0, 1) := by decide +kernel
theorem dX5_pairGap_51 : decode cX5_pairGap 51 = .ok (.goto 4, 3) := by decide +kernel
theorem dX5_pairGap_54 : decode cX5_pairGap 54 = .ok (.iconst 1, 1) := by decide +kernel
theorem dX5_pairGap_55 : decode cX5_pairGap 55 = .ok (.isub, 1) := by decide +kernel
theorem dX5_pairGap_56 : decode cX5_pairGap 56 = .ok (.istore_n 1, 1) := by decide +kernel
theorem dX5_pairGap_57 : decode cX5_pairGap 57 = .ok (.iload_n 2, 1) := by decide +kernel
theorem dX5_pairGap_58 : decode cX5_pairGap 58 = .ok (.iload 4, 2) := by decide +kernel
theorem dX5_pairGap_60 : decode cX5_pairGap 60 = .ok (.iconst 1, 1) := by decide +kernel
theorem dX5_pairGap_61 : decode cX5_pairGap 61 = .ok (.if_icmp .ne 7, 3) := by decide +kernel
theorem dX5_pairGap_64 : decode cX5_pairGap 64 = .ok (.iconst 0, 1) := by decide +kernel
theorem dX5_pairGap_65 : decode cX5_pairGap 65 = .ok (.goto 4, 3) := by decide +kernel
theorem dX5_pairGap_68 : decode cX5_pairGap 68 = .ok (.iconst 1, 1) := by decide +kernel
theorem dX5_pairGap_69 : decode cX5_pairGap 69 = .ok (.isub, 1) := by decide +kernel
theorem dX5_pairGap_70 : decode cX5_pairGap 70 = .ok (.istore_n 2, 1) := by decide +kernel
theorem dX5_pairGap_71 : decode cX5_pairGap 71 = .ok (.iload 4, 2) := by decide +kernel
theorem dX5_pairGap_73 : decode cX5_pairGap 73 = .ok (.ifCond .ne 25, 3) := by decide +kernel
theorem dX5_pairGap_76 : decode cX5_pairGap 76 = .ok (.aload_n 0, 1) := by decide +kernel
theorem dX5_pairGap_77 : decode cX5_pairGap 77 = .ok (.aload_n 0, 1) := by decide +kernel
theorem dX5_pairGap_78 : decode cX5_pairGap 78 = .ok (.getfield 35, 3) := by decide +kernel
theorem dX5_pairGap_81 : decode cX5_pairGap 81 = .ok (.getfield 144, 3) := by decide +kernel
theorem dX5_pairGap_84 : decode cX5_pairGap 84 = .ok (.iload_n 1, 1) := by decide +kernel
theorem dX5_pairGap_85 : decode cX5_pairGap 85 = .ok (.iadd, 1) := by decide +kernel
theorem dX5_pairGap_86 : decode cX5_pairGap 86 = .ok (.aload_n 0, 1) := by decide +kernel
theorem dX5_pairGap_87 : decode cX5_pairGap 87 = .ok (.getfield 35, 3) := by decide +kernel
theorem dX5_pairGap_90 : decode cX5_pairGap 90 = .ok (.getfield 147, 3) := by decide +kernel
theorem dX5_pairGap_93 : decode cX5_pairGap 93 = .ok (.iload_n 2, 1) := by decide +kernel
theorem dX5_pairGap_94 : decode cX5_pairGap 94 = .ok (.iadd, 1) := by decide +kernel
theorem dX5_pairGap_95 : decode cX5_pairGap 95 = .ok (.invokevirtual 109, 3) := by decide +kernel
theorem dX5_pairGap_98 : decode cX5_pairGap 98 = .ok (.iinc 3 (-1), 3) := by decide +kernel
theorem dX5_pairGap_101 : decode cX5_pairGap 101 = .ok (.goto (-81), 3) := by decide +kernel
theorem dX5_pairGap_104 : decode cX5_pairGap 104 = .ok (.return_, 1) := by decide +kernel
theorem dX5_freeCost_0 : decode cX5_freeCost 0 = .ok (.aload_n 0, 1) := by decide +kernel
theorem dX5_freeCost_1 : decode cX5_freeCost 1 = .ok (.getfield 35, 3) := by decide +kernel
theorem dX5_freeCost_4 : decode cX5_freeCost 4 = .ok (.iconst 0, 1) := by decide +kernel
theorem dX5_freeCost_5 : decode cX5_freeCost 5 = .ok (.aload_n 1, 1) := by decide +kernel
theorem dX5_freeCost_6 : decode cX5_freeCost 6 = .ok (.getfield 91, 3) := by decide +kernel
theorem dX5_freeCost_9 : decode cX5_freeCost 9 = .ok (.invokevirtual 97, 3) := by decide +kernel
theorem dX5_freeCost_12 : decode cX5_freeCost 12 = .ok (.iconst 0, 1) := by decide +kernel
theorem dX5_freeCost_13 : decode cX5_freeCost 13 = .ok (.aload_n 1, 1) := by decide +kernel
theorem dX5_freeCost_14 : decode cX5_freeCost 14 = .ok (.getfield 103, 3) := by decide +kernel
theorem dX5_freeCost_17 : decode cX5_freeCost 17 = .ok (.invokevirtual 97, 3) := by decide +kernel
theorem dX5_freeCost_20 : decode cX5_freeCost 20 = .ok (.invokevirtual 112, 3) := by decide +kernel
theorem dX5_freeCost_23 : decode cX5_freeCost 23 = .ok (.aload_n 0, 1) := by decide +kernel
theorem dX5_freeCost_24 : decode cX5_freeCost 24 = .ok (.getfield 35, 3) := by decide +kernel
theorem dX5_freeCost_27 : decode cX5_freeCost 27 = .ok (.aload_n 1, 1) := by decide +kernel
theorem dX5_freeCost_28 : decode cX5_freeCost 28 = .ok (.bipush 24, 2) := by decide +kernel
theorem dX5_freeCost_30 : decode cX5_freeCost 30 = .ok (.invokevirtual 128, 3) := by decide +kernel
theorem dX5_freeCost_33 : decode cX5_freeCost 33 = .ok (.ireturn, 1) := by decide +kernel
theorem dX5_partnersOf_0 : decode cX5_partnersOf 0 = .ok (.iload_n 1, 1) := by decide +kernel
theorem dX5_partnersOf_1 : decode cX5_partnersOf 1 = .ok (.ifCond .ne 10, 3) := by decide +kernel
theorem dX5_partnersOf_4 : decode cX5_partnersOf 4 = .ok (.aload_n 0, 1) := by decide +kernel
theorem dX5_partnersOf_5 : decode cX5_partnersOf 5 = .ok (.getfield 48, 3) := by decide +kernel
theorem dX5_partnersOf_8 : decode cX5_partnersOf 8 = .ok (.goto 7, 3) := by decide +kernel
theorem dX5_partnersOf_11 : decode cX5_partnersOf 11 = .ok (.aload_n 0, 1) := by decide +kernel
theorem dX5_partnersOf_12 : decode cX5_partnersOf 12 = .ok (.getfield 51, 3) := by decide +kernel
theorem dX5_partnersOf_15 : decode cX5_partnersOf 15 = .ok (.areturn, 1) := by decide +kernel
theorem dX5_anchorProperty_0 : decode cX5_anchorProperty 0 = .ok (.iload_n 2, 1) := by decide +kernel
theorem dX5_anchorProperty_1 : decode cX5_anchorProperty 1 = .ok (.tableswitch 63 0 2 #[27, 39, 51], 27) := by decide +kernel
theorem dX5_anchorProperty_28 : decode cX5_anchorProperty 28 = .ok (.aload_n 0, 1) := by decide +kernel
theorem dX5_anchorProperty_29 : decode cX5_anchorProperty 29 = .ok (.getfield 12, 3) := by decide +kernel
theorem dX5_anchorProperty_32 : decode cX5_anchorProperty 32 = .ok (.getfield 67, 3) := by decide +kernel
theorem dX5_anchorProperty_35 : decode cX5_anchorProperty 35 = .ok (.iload_n 1, 1) := by decide +kernel
theorem dX5_anchorProperty_36 : decode cX5_anchorProperty 36 = .ok (.invokevirtual 73, 3) := by decide +kernel
theorem dX5_anchorProperty_39 : decode cX5_anchorProperty 39 = .ok (.ireturn, 1) := by decide +kernel
theorem dX5_anchorProperty_40 : decode cX5_anchorProperty 40 = .ok (.aload_n 0, 1) := by decide +kernel
theorem dX5_anchorProperty_41 : decode cX5_anchorProperty 41 = .ok (.getfield 12, 3) := by decide +kernel
theorem dX5_anchorProperty_44 : decode cX5_anchorProperty 44 = .ok (.getfield 77, 3) := by decide +kernel
theorem dX5_anchorProperty_47 : decode cX5_anchorProperty 47 = .ok (.iload_n 1, 1) := by decide +kernel
theorem dX5_anchorProperty_48 : decode cX5_anchorProperty 48 = .ok (.invokevirtual 73, 3) := by decide +kernel
theorem dX5_anchorProperty_51 : decode cX5_anchorProperty 51 = .ok (.ireturn, 1) := by decide +kernel
theorem dX5_anchorProperty_52 : decode cX5_anchorProperty 52 = .ok (.aload_n 0, 1) := by decide +kernel
theorem dX5_anchorProperty_53 : decode cX5_anchorProperty 53 = .ok (.getfield 21, 3) := by decide +kernel
theorem dX5_anchorProperty_56 : decode cX5_anchorProperty 56 = .ok (.getfield 150, 3) := by decide +kernel
theorem dX5_anchorProperty_59 : decode cX5_anchorProperty 59 = .ok (.iload_n 1, 1) := by decide +kernel
theorem dX5_anchorProperty_60 : decode cX5_anchorProperty 60 = .ok (.invokevirtual 73, 3) := by decide +kernel
theorem dX5_anchorProperty_63 : decode cX5_anchorProperty 63 = .ok (.ireturn, 1) := by decide +kernel
theorem dX5_anchorProperty_64 : decode cX5_anchorProperty 64 = .ok (.aload_n 0, 1) := by decide +kernel
theorem dX5_anchorProperty_65 : decode cX5_anchorProperty 65 = .ok (.getfield 21, 3) := by decide +kernel
theorem dX5_anchorProperty_68 : decode cX5_anchorProperty 68 = .ok (.getfield 153, 3) := by decide +kernel
theorem dX5_anchorProperty_71 : decode cX5_anchorProperty 71 = .ok (.iload_n 1, 1) := by decide +kernel
theorem dX5_anchorProperty_72 : decode cX5_anchorProperty 72 = .ok (.invokevirtual 73, 3) := by decide +kernel
theorem dX5_anchorProperty_75 : decode cX5_anchorProperty 75 = .ok (.ireturn, 1) := by decide +kernel
theorem dX5_gapProperty_0 : decode cX5_gapProperty 0 = .ok (.iload_n 1, 1) := by decide +kernel
theorem dX5_gapProperty_1 : decode cX5_gapProperty 1 = .ok (.aload_n 0, 1) := by decide +kernel
theorem dX5_gapProperty_2 : decode cX5_gapProperty 2 = .ok (.getfield 25, 3) := by decide +kernel
theorem dX5_gapProperty_5 : decode cX5_gapProperty 5 = .ok (.if_icmp .ge 18, 3) := by decide +kernel
theorem dX5_gapProperty_8 : decode cX5_gapProperty 8 = .ok (.aload_n 0, 1) := by decide +kernel
theorem dX5_gapProperty_9 : decode cX5_gapProperty 9 = .ok (.getfield 44, 3) := by decide +kernel
theorem dX5_gapProperty_12 : decode cX5_gapProperty 12 = .ok (.iload_n 1, 1) := by decide +kernel
theorem dX5_gapProperty_13 : decode cX5_gapProperty 13 = .ok (.iconst 5, 1) := by decide +kernel
theorem dX5_gapProperty_14 : decode cX5_gapProperty 14 = .ok (.imul, 1) := by decide +kernel
theorem dX5_gapProperty_15 : decode cX5_gapProperty 15 = .ok (.iload_n 2, 1) := by decide +kernel
theorem dX5_gapProperty_16 : decode cX5_gapProperty 16 = .ok (.iadd, 1) := by decide +kernel
theorem dX5_gapProperty_17 : decode cX5_gapProperty 17 = .ok (.invokevirtual 73, 3) := by decide +kernel
theorem dX5_gapProperty_20 : decode cX5_gapProperty 20 = .ok (.goto 4, 3) := by decide +kernel
theorem dX5_gapProperty_23 : decode cX5_gapProperty 23 = .ok (.iconst (-1), 1) := by decide +kernel
theorem dX5_gapProperty_24 : decode cX5_gapProperty 24 = .ok (.ireturn, 1) := by decide +kernel
theorem dX5_likePairs_0 : decode cX5_likePairs 0 = .ok (.iconst 0, 1) := by decide +kernel
theorem dX5_likePairs_1 : decode cX5_likePairs 1 = .ok (.istore_n 2, 1) := by decide +kernel
theorem dX5_likePairs_2 : decode cX5_likePairs 2 = .ok (.iconst 0, 1) := by decide +kernel
theorem dX5_likePairs_3 : decode cX5_likePairs 3 = .ok (.istore_n 3, 1) := by decide +kernel
theorem dX5_likePairs_4 : decode cX5_likePairs 4 = .ok (.iload_n 3, 1) := by decide +kernel
theorem dX5_likePairs_5 : decode cX5_likePairs 5 = .ok (.aload_n 1, 1) := by decide +kernel
theorem dX5_likePairs_6 : decode cX5_likePairs 6 = .ok (.getfield 91, 3) := by decide +kernel
theorem dX5_likePairs_9 : decode cX5_likePairs 9 = .ok (.invokevirtual 97, 3) := by decide +kernel
theorem dX5_likePairs_12 : decode cX5_likePairs 12 = .ok (.if_icmp .ge 48, 3) := by decide +kernel
theorem dX5_likePairs_15 : decode cX5_likePairs 15 = .ok (.aload_n 0, 1) := by decide +kernel
theorem dX5_likePairs_16 : decode cX5_likePairs 16 = .ok (.getfield 48, 3) := by decide +kernel
theorem dX5_likePairs_19 : decode cX5_likePairs 19 = .ok (.iload_n 3, 1) := by decide +kernel
theorem dX5_likePairs_20 : decode cX5_likePairs 20 = .ok (.invokevirtual 73, 3) := by decide +kernel
theorem dX5_likePairs_23 : decode cX5_likePairs 23 = .ok (.istore 4, 2) := by decide +kernel
theorem dX5_likePairs_25 : decode cX5_likePairs 25 = .ok (.iload 4, 2) := by decide +kernel
theorem dX5_likePairs_27 : decode cX5_likePairs 27 = .ok (.iconst (-1), 1) := by decide +kernel
theorem dX5_likePairs_28 : decode cX5_likePairs 28 = .ok (.if_icmp .eq 26, 3) := by decide +kernel
theorem dX5_likePairs_31 : decode cX5_likePairs 31 = .ok (.aload_n 1, 1) := by decide +kernel
theorem dX5_likePairs_32 : decode cX5_likePairs 32 = .ok (.getfield 91, 3) := by decide +kernel
theorem dX5_likePairs_35 : decode cX5_likePairs 35 = .ok (.iload_n 3, 1) := by decide +kernel
theorem dX5_likePairs_36 : decode cX5_likePairs 36 = .ok (.invokevirtual 156, 3) := by decide +kernel
theorem dX5_likePairs_39 : decode cX5_likePairs 39 = .ok (.aload_n 1, 1) := by decide +kernel
theorem dX5_likePairs_40 : decode cX5_likePairs 40 = .ok (.getfield 103, 3) := by decide +kernel
theorem dX5_likePairs_43 : decode cX5_likePairs 43 = .ok (.iload 4, 2) := by decide +kernel
theorem dX5_likePairs_45 : decode cX5_likePairs 45 = .ok (.invokevirtual 156, 3) := by decide +kernel
theorem dX5_likePairs_48 : decode cX5_likePairs 48 = .ok (.if_icmp .ne 6, 3) := by decide +kernel
theorem dX5_likePairs_51 : decode cX5_likePairs 51 = .ok (.iinc 2 1, 3) := by decide +kernel
theorem dX5_likePairs_54 : decode cX5_likePairs 54 = .ok (.iinc 3 1, 3) := by decide +kernel
theorem dX5_likePairs_57 : decode cX5_likePairs 57 = .ok (.goto (-53), 3) := by decide +kernel
theorem dX5_likePairs_60 : decode cX5_likePairs 60 = .ok (.iload_n 2, 1) := by decide +kernel
theorem dX5_likePairs_61 : decode cX5_likePairs 61 = .ok (.ireturn, 1) := by decide +kernel
theorem dX5_leftOut_0 : decode cX5_leftOut 0 = .ok (.iconst 0, 1) := by decide +kernel
theorem dX5_leftOut_1 : decode cX5_leftOut 1 = .ok (.istore_n 3, 1) := by decide +kernel
theorem dX5_leftOut_2 : decode cX5_leftOut 2 = .ok (.iconst 0, 1) := by decide +kernel
theorem dX5_leftOut_3 : decode cX5_leftOut 3 = .ok (.istore 4, 2) := by decide +kernel
theorem dX5_leftOut_5 : decode cX5_leftOut 5 = .ok (.iload 4, 2) := by decide +kernel
theorem dX5_leftOut_7 : decode cX5_leftOut 7 = .ok (.iload_n 2, 1) := by decide +kernel
theorem dX5_leftOut_8 : decode cX5_leftOut 8 = .ok (.if_icmp .ge 26, 3) := by decide +kernel
theorem dX5_leftOut_11 : decode cX5_leftOut 11 = .ok (.aload_n 0, 1) := by decide +kernel
theorem dX5_leftOut_12 : decode cX5_leftOut 12 = .ok (.iload_n 1, 1) := by decide +kernel
theorem dX5_leftOut_13 : decode cX5_leftOut 13 = .ok (.invokevirtual 159, 3) := by decide +kernel
theorem dX5_leftOut_16 : decode cX5_leftOut 16 = .ok (.iload 4, 2) := by decide +kernel
theorem dX5_leftOut_18 : decode cX5_leftOut 18 = .ok (.invokevirtual 73, 3) := by decide +kernel
theorem dX5_leftOut_21 : decode cX5_leftOut 21 = .ok (.iconst (-1), 1) := by decide +kernel
theorem dX5_leftOut_22 : decode cX5_leftOut 22 = .ok (.if_icmp .ne 6, 3) := by decide +kernel
theorem dX5_leftOut_25 : decode cX5_leftOut 25 = .ok (.iinc 3 1, 3) := by decide +kernel
theorem dX5_leftOut_28 : decode cX5_leftOut 28 = .ok (.iinc 4 1, 3) := by decide +kernel
theorem dX5_leftOut_31 : decode cX5_leftOut 31 = .ok (.goto (-26), 3) := by decide +kernel
theorem dX5_leftOut_34 : decode cX5_leftOut 34 = .ok (.iload_n 3, 1) := by decide +kernel
theorem dX5_leftOut_35 : decode cX5_leftOut 35 = .ok (.ireturn, 1) := by decide +kernel
theorem dX6_init_0 : decode cX6_init 0 = .ok (.aload_n 0, 1) := by decide +kernel
theorem dX6_init_1 : decode cX6_init 1 = .ok (.invokespecial 3, 3) := by decide +kernel
theorem dX6_init_4 : decode cX6_init 4 = .ok (.aload_n 0, 1) := by decide +kernel
theorem dX6_init_5 : decode cX6_init 5 = .ok (.bipush 24, 2) := by decide +kernel
theorem dX6_init_7 : decode cX6_init 7 = .ok (.newarray .int, 2) := by decide +kernel
theorem dX6_init_9 : decode cX6_init 9 = .ok (.putfield 9, 3) := by decide +kernel
theorem dX6_init_12 : decode cX6_init 12 = .ok (.aload_n 0, 1) := by decide +kernel
theorem dX6_init_13 : decode cX6_init 13 = .ok (.iconst 0, 1) := by decide +kernel
theorem dX6_init_14 : decode cX6_init 14 = .ok (.putfield 15, 3) := by decide +kernel
theorem dX6_init_17 : decode cX6_init 17 = .ok (.return_, 1) := by decide +kernel
theorem dX6_size_0 : decode cX6_size 0 = .ok (.aload_n 0, 1) := by decide +kernel
theorem dX6_size_1 : decode cX6_size 1 = .ok (.getfield 15, 3) := by decide +kernel
theorem dX6_size_4 : decode cX6_size 4 = .ok (.ireturn, 1) := by decide +kernel
theorem dX6_has_0 : decode cX6_has 0 = .ok (.iload_n 1, 1) := by decide +kernel
theorem dX6_has_1 : decode cX6_has 1 = .ok (.ifCond .lt 15, 3) := by decide +kernel
theorem dX6_has_4 : decode cX6_has 4 = .ok (.iload_n 1, 1) := by decide +kernel
theorem dX6_has_5 : decode cX6_has 5 = .ok (.aload_n 0, 1) := by decide +kernel
theorem dX6_has_6 : decode cX6_has 6 = .ok (.getfield 15, 3) := by decide +kernel
theorem dX6_has_9 : decode cX6_has 9 = .ok (.if_icmp .ge 7, 3) := by decide +kernel
theorem dX6_has_12 : decode cX6_has 12 = .ok (.iconst 1, 1) := by decide +kernel
theorem dX6_has_13 : decode cX6_has 13 = .ok (.goto 4, 3) := by decide +kernel
theorem dX6_has_16 : decode cX6_has 16 = .ok (.iconst 0, 1) := by decide +kernel
theorem dX6_has_17 : decode cX6_has 17 = .ok (.ireturn, 1) := by decide +kernel
theorem dX6_signAt_0 : decode cX6_signAt 0 = .ok (.iload_n 1, 1) := by decide +kernel
theorem dX6_signAt_1 : decode cX6_signAt 1 = .ok (.ifCond .lt 21, 3) := by decide +kernel
theorem dX6_signAt_4 : decode cX6_signAt 4 = .ok (.iload_n 1, 1) := by decide +kernel
theorem dX6_signAt_5 : decode cX6_signAt 5 = .ok (.aload_n 0, 1) := by decide +kernel
theorem dX6_signAt_6 : decode cX6_signAt 6 = .ok (.getfield 9, 3) := by decide +kernel
theorem dX6_signAt_9 : decode cX6_signAt 9 = .ok (.arraylength, 1) := by decide +kernel
theorem dX6_signAt_10 : decode cX6_signAt 10 = .ok (.if_icmp .ge 12, 3) := by decide +kernel
theorem dX6_signAt_13 : decode cX6_signAt 13 = .ok (.aload_n 0, 1) := by decide +kernel
theorem dX6_signAt_14 : decode cX6_signAt 14 = .ok (.getfield 9, 3) := by decide +kernel
theorem dX6_signAt_17 : decode cX6_signAt 17 = .ok (.iload_n 1, 1) := by decide +kernel
theorem dX6_signAt_18 : decode cX6_signAt 18 = .ok (.iaload, 1) := by decide +kernel
theorem dX6_signAt_19 : decode cX6_signAt 19 = .ok (.goto 4, 3) := by decide +kernel
theorem dX6_signAt_22 : decode cX6_signAt 22 = .ok (.iconst (-1), 1) := by decide +kernel
theorem dX6_signAt_23 : decode cX6_signAt 23 = .ok (.ireturn, 1) := by decide +kernel
theorem dX6_write_0 : decode cX6_write 0 = .ok (.iload_n 1, 1) := by decide +kernel
theorem dX6_write_1 : decode cX6_write 1 = .ok (.ifCond .lt 19, 3) := by decide +kernel
theorem dX6_write_4 : decode cX6_write 4 = .ok (.iload_n 1, 1) := by decide +kernel
theorem dX6_write_5 : decode cX6_write 5 = .ok (.aload_n 0, 1) := by decide +kernel
theorem dX6_write_6 : decode cX6_write 6 = .ok (.getfield 9, 3) := by decide +kernel
theorem dX6_write_9 : decode cX6_write 9 = .ok (.arraylength, 1) := by decide +kernel
theorem dX6_write_10 : decode cX6_write 10 = .ok (.if_icmp .ge 10, 3) := by decide +kernel
theorem dX6_write_13 : decode cX6_write 13 = .ok (.aload_n 0, 1) := by decide +kernel
theorem dX6_write_14 : decode cX6_write 14 = .ok (.getfield 9, 3) := by decide +kernel
theorem dX6_write_17 : decode cX6_write 17 = .ok (.iload_n 1, 1) := by decide +kernel
theorem dX6_write_18 : decode cX6_write 18 = .ok (.iload_n 2, 1) := by decide +kernel
theorem dX6_write_19 : decode cX6_write 19 = .ok (.iastore, 1) := by decide +kernel
theorem dX6_write_20 : decode cX6_write 20 = .ok (.return_, 1) := by decide +kernel
theorem dX6_clear_0 : decode cX6_clear 0 = .ok (.aload_n 0, 1) := by decide +kernel
theorem dX6_clear_1 : decode cX6_clear 1 = .ok (.iconst 0, 1) := by decide +kernel
theorem dX6_clear_2 : decode cX6_clear 2 = .ok (.putfield 15, 3) := by decide +kernel
theorem dX6_clear_5 : decode cX6_clear 5 = .ok (.return_, 1) := by decide +kernel
theorem dX6_extend_0 : decode cX6_extend 0 = .ok (.aload_n 0, 1) := by decide +kernel
theorem dX6_extend_1 : decode cX6_extend 1 = .ok (.getfield 15, 3) := by decide +kernel
theorem dX6_extend_4 : decode cX6_extend 4 = .ok (.bipush 24, 2) := by decide +kernel
theorem dX6_extend_6 : decode cX6_extend 6 = .ok (.if_icmp .ge 22, 3) := by decide +kernel
theorem dX6_extend_9 : decode cX6_extend 9 = .ok (.aload_n 0, 1) := by decide +kernel
theorem dX6_extend_10 : decode cX6_extend 10 = .ok (.aload_n 0, 1) := by decide +kernel
theorem dX6_extend_11 : decode cX6_extend 11 = .ok (.getfield 15, 3) := by decide +kernel
theorem dX6_extend_14 : decode cX6_extend 14 = .ok (.iload_n 1, 1) := by decide +kernel
theorem dX6_extend_15 : decode cX6_extend 15 = .ok (.invokevirtual 19, 3) := by decide +kernel
theorem dX6_extend_18 : decode cX6_extend 18 = .ok (.aload_n 0, 1) := by decide +kernel
theorem dX6_extend_19 : decode cX6_extend 19 = .ok (.dup, 1) := by decide +kernel
theorem dX6_extend_20 : decode cX6_extend 20 = .ok (.getfield 15, 3) := by decide +kernel
theorem dX6_extend_23 : decode cX6_extend 23 = .ok (.iconst 1, 1) := by decide +kernel
theorem dX6_extend_24 : decode cX6_extend 24 = .ok (.iadd, 1) := by decide +kernel
theorem dX6_extend_25 : decode cX6_extend 25 = .ok (.putfield 15, 3) := by decide +kernel
theorem dX6_extend_28 : decode cX6_extend 28 = .ok (.return_, 1) := by decide +kernel
theorem dX6_insert_0 : decode cX6_insert 0 = .ok (.iload_n 1, 1) := by decide +kernel
theorem dX6_insert_1 : decode cX6_insert 1 = .ok (.ifCond .lt 20, 3) := by decide +kernel
theorem dX6_insert_4 : decode cX6_insert 4 = .ok (.iload_n 1, 1) := by decide +kernel
theorem dX6_insert_5 : decode cX6_insert 5 = .ok (.aload_n 0, 1) := by decide +kernel
theorem dX6_insert_6 : decode cX6_insert 6 = .ok (.getfield 15, 3) := by decide +kernel
theorem dX6_insert_9 : decode cX6_insert 9 = .ok (.if_icmp .gt 12, 3) := by decide +kernel
theorem dX6_insert_12 : decode cX6_insert 12 = .ok (.aload_n 0, 1) := by decide +kernel
theorem dX6_insert_13 : decode cX6_insert 13 = .ok (.getfield 15, 3) := by decide +kernel
theorem dX6_insert_16 : decode cX6_insert 16 = .ok (.bipush 24, 2) := by decide +kernel
theorem dX6_insert_18 : decode cX6_insert 18 = .ok (.if_icmp .lt 4, 3) := by decide +kernel
theorem dX6_insert_21 : decode cX6_insert 21 = .ok (.return_, 1) := by decide +kernel
theorem dX6_insert_22 : decode cX6_insert 22 = .ok (.aload_n 0, 1) := by decide +kernel
theorem dX6_insert_23 : decode cX6_insert 23 = .ok (.getfield 15, 3) := by decide +kernel
theorem dX6_insert_26 : decode cX6_insert 26 = .ok (.istore_n 3, 1) := by decide +kernel
theorem dX6_insert_27 : decode cX6_insert 27 = .ok (.iload_n 3, 1) := by decide +kernel
theorem dX6_insert_28 : decode cX6_insert 28 = .ok (.iload_n 1, 1) := by decide +kernel
theorem dX6_insert_29 : decode cX6_insert 29 = .ok (.if_icmp .le 21, 3) := by decide +kernel
theorem dX6_insert_32 : decode cX6_insert 32 = .ok (.aload_n 0, 1) := by decide +kernel
theorem dX6_insert_33 : decode cX6_insert 33 = .ok (.iload_n 3, 1) := by decide +kernel
theorem dX6_insert_34 : decode cX6_insert 34 = .ok (.aload_n 0, 1) := by decide +kernel
theorem dX6_insert_35 : decode cX6_insert 35 = .ok (.iload_n 3, 1) := by decide +kernel
theorem dX6_insert_36 : decode cX6_insert 36 = .ok (.iconst 1, 1) := by decide +kernel
theorem dX6_insert_37 : decode cX6_insert 37 = .ok (.isub, 1) := by decide +kernel
theorem dX6_insert_38 : decode cX6_insert 38 = .ok (.invokevirtual 23, 3) := by decide +kernel
theorem dX6_insert_41 : decode cX6_insert 41 = .ok (.invokevirtual 19, 3) := by decide +kernel
theorem dX6_insert_44 : decode cX6_insert 44 = .ok (.iinc 3 (-1), 3) := by decide +kernel
theorem dX6_insert_47 : decode cX6_insert 47 = .ok (.goto (-20), 3) := by decide +kernel
theorem dX6_insert_50 : decode cX6_insert 50 = .ok (.aload_n 0, 1) := by decide +kernel
theorem dX6_insert_51 : decode cX6_insert 51 = .ok (.iload_n 1, 1) := by decide +kernel
theorem dX6_insert_52 : decode cX6_insert 52 = .ok (.iload_n 2, 1) := by decide +kernel
theorem dX6_insert_53 : decode cX6_insert 53 = .ok (.invokevirtual 19, 3) := by decide +kernel
theorem dX6_insert_56 : decode cX6_insert 56 = .ok (.aload_n 0, 1) := by decide +kernel
theorem dX6_insert_57 : decode cX6_insert 57 = .ok (.dup, 1) := by decide +kernel
theorem dX6_insert_58 : decode cX6_insert 58 = .ok (.getfield 15, 3) := by decide +kernel
theorem dX6_insert_61 : decode cX6_insert 61 = .ok (.iconst 1, 1) := by decide +kernel
theorem dX6_insert_62 : decode cX6_insert 62 = .ok (.iadd, 1) := by decide +kernel
theorem dX6_insert_63 : decode cX6_insert 63 = .ok (.putfield 15, 3) := by decide +kernel
theorem dX6_insert_66 : decode cX6_insert 66 = .ok (.return_, 1) := by decide +kernel
theorem dX6_remove_0 : decode cX6_remove 0 = .ok (.aload_n 0, 1) := by decide +kernel
theorem dX6_remove_1 : decode cX6_remove 1 = .ok (.iload_n 1, 1) := by decide +kernel
theorem dX6_remove_2 : decode cX6_remove 2 = .ok (.invokevirtual 27, 3) := by decide +kernel
theorem dX6_remove_5 : decode cX6_remove 5 = .ok (.ifCond .eq 18, 3) := by decide +kernel
theorem dX6_remove_8 : decode cX6_remove 8 = .ok (.iload_n 2, 1) := by decide +kernel
theorem dX6_remove_9 : decode cX6_remove 9 = .ok (.iconst 1, 1) := by decide +kernel
theorem dX6_remove_10 : decode cX6_remove 10 = .ok (.if_icmp .lt 13, 3) := by decide +kernel
theorem dX6_remove_13 : decode cX6_remove 13 = .ok (.iload_n 2, 1) := by decide +kernel
theorem dX6_remove_14 : decode cX6_remove 14 = .ok (.aload_n 0, 1) := by decide +kernel
theorem dX6_remove_15 : decode cX6_remove 15 = .ok (.getfield 15, 3) := by decide +kernel
theorem dX6_remove_18 : decode cX6_remove 18 = .ok (.iload_n 1, 1) := by decide +kernel
theorem dX6_remove_19 : decode cX6_remove 19 = .ok (.isub, 1) := by decide +kernel
theorem dX6_remove_20 : decode cX6_remove 20 = .ok (.if_icmp .le 4, 3) := by decide +kernel
theorem dX6_remove_23 : decode cX6_remove 23 = .ok (.return_, 1) := by decide +kernel
theorem dX6_remove_24 : decode cX6_remove 24 = .ok (.aload_n 0, 1) := by decide +kernel
theorem dX6_remove_25 : decode cX6_remove 25 = .ok (.dup, 1) := by decide +kernel
theorem dX6_remove_26 : decode cX6_remove 26 = .ok (.getfield 15, 3) := by decide +kernel
theorem dX6_remove_29 : decode cX6_remove 29 = .ok (.iload_n 2, 1) := by decide +kernel
theorem dX6_remove_30 : decode cX6_remove 30 = .ok (.isub, 1) := by decide +kernel
theorem dX6_remove_31 : decode cX6_remove 31 = .ok (.putfield 15, 3) := by decide +kernel
theorem dX6_remove_34 : decode cX6_remove 34 = .ok (.iload_n 1, 1) := by decide +kernel
theorem dX6_remove_35 : decode cX6_remove 35 = .ok (.istore_n 3, 1) := by decide +kernel
theorem dX6_remove_36 : decode cX6_remove 36 = .ok (.iload_n 3, 1) := by decide +kernel
theorem dX6_remove_37 : decode cX6_remove 37 = .ok (.aload_n 0, 1) := by decide +kernel
theorem dX6_remove_38 : decode cX6_remove 38 = .ok (.getfield 15, 3) := by decide +kernel
theorem dX6_remove_41 : decode cX6_remove 41 = .ok (.if_icmp .ge 21, 3) := by decide +kernel
theorem dX6_remove_44 : decode cX6_remove 44 = .ok (.aload_n 0, 1) := by decide +kernel
theorem dX6_remove_45 : decode cX6_remove 45 = .ok (.iload_n 3, 1) := by decide +kernel
theorem dX6_remove_46 : decode cX6_remove 46 = .ok (.aload_n 0, 1) := by decide +kernel
theorem dX6_remove_47 : decode cX6_remove 47 = .ok (.iload_n 3, 1) := by decide +kernel
theorem dX6_remove_48 : decode cX6_remove 48 = .ok (.iload_n 2, 1) := by decide +kernel
theorem dX6_remove_49 : decode cX6_remove 49 = .ok (.iadd, 1) := by decide +kernel
theorem dX6_remove_50 : decode cX6_remove 50 = .ok (.invokevirtual 23, 3) := by decide +kernel
theorem dX6_remove_53 : decode cX6_remove 53 = .ok (.invokevirtual 19, 3) := by decide +kernel
theorem dX6_remove_56 : decode cX6_remove 56 = .ok (.iinc 3 1, 3) := by decide +kernel
theorem dX6_remove_59 : decode cX6_remove 59 = .ok (.goto (-23), 3) := by decide +kernel
theorem dX6_remove_62 : decode cX6_remove 62 = .ok (.return_, 1) := by decide +kernel
theorem dX6_reverse_0 : decode cX6_reverse 0 = .ok (.iconst 0, 1) := by decide +kernel
theorem dX6_reverse_1 : decode cX6_reverse 1 = .ok (.istore_n 3, 1) := by decide +kernel
theorem dX6_reverse_2 : decode cX6_reverse 2 = .ok (.iload_n 1, 1) := by decide +kernel
theorem dX6_reverse_3 : decode cX6_reverse 3 = .ok (.istore 4, 2) := by decide +kernel
theorem dX6_reverse_5 : decode cX6_reverse 5 = .ok (.iload_n 2, 1) := by decide +kernel
theorem dX6_reverse_6 : decode cX6_reverse 6 = .ok (.istore 5, 2) := by decide +kernel
theorem dX6_reverse_8 : decode cX6_reverse 8 = .ok (.iload 4, 2) := by decide +kernel
theorem dX6_reverse_10 : decode cX6_reverse 10 = .ok (.iload 5, 2) := by decide +kernel
theorem dX6_reverse_12 : decode cX6_reverse 12 = .ok (.if_icmp .ge 59, 3) := by decide +kernel
theorem dX6_reverse_15 : decode cX6_reverse 15 = .ok (.aload_n 0, 1) := by decide +kernel
theorem dX6_reverse_16 : decode cX6_reverse 16 = .ok (.iload 4, 2) := by decide +kernel
theorem dX6_reverse_18 : decode cX6_reverse 18 = .ok (.invokevirtual 23, 3) := by decide +kernel
theorem dX6_reverse_21 : decode cX6_reverse 21 = .ok (.istore 6, 2) := by decide +kernel
theorem dX6_reverse_23 : decode cX6_reverse 23 = .ok (.aload_n 0, 1) := by decide +kernel
theorem dX6_reverse_24 : decode cX6_reverse 24 = .ok (.iload 5, 2) := by decide +kernel
theorem dX6_reverse_26 : decode cX6_reverse 26 = .ok (.invokevirtual 23, 3) := by decide +kernel
theorem dX6_reverse_29 : decode cX6_reverse 29 = .ok (.istore 7, 2) := by decide +kernel
theorem dX6_reverse_31 : decode cX6_reverse 31 = .ok (.iload_n 3, 1) := by decide +kernel
theorem dX6_reverse_32 : decode cX6_reverse 32 = .ok (.iload 6, 2) := by decide +kernel
theorem dX6_reverse_34 : decode cX6_reverse 34 = .ok (.iload 7, 2) := by decide +kernel
theorem dX6_reverse_36 : decode cX6_reverse 36 = .ok (.if_icmp .ne 7, 3) := by decide +kernel
theorem dX6_reverse_39 : decode cX6_reverse 39 = .ok (.iconst 0, 1) := by decide +kernel
theorem dX6_reverse_40 : decode cX6_reverse 40 = .ok (.goto 4, 3) := by decide +kernel
theorem dX6_reverse_43 : decode cX6_reverse 43 = .ok (.iconst 2, 1) := by decide +kernel
theorem dX6_reverse_44 : decode cX6_reverse 44 = .ok (.iadd, 1) := by decide +kernel
theorem dX6_reverse_45 : decode cX6_reverse 45 = .ok (.istore_n 3, 1) := by decide +kernel
theorem dX6_reverse_46 : decode cX6_reverse 46 = .ok (.aload_n 0, 1) := by decide +kernel
theorem dX6_reverse_47 : decode cX6_reverse 47 = .ok (.iload 4, 2) := by decide +kernel
theorem dX6_reverse_49 : decode cX6_reverse 49 = .ok (.iload 7, 2) := by decide +kernel
theorem dX6_reverse_51 : decode cX6_reverse 51 = .ok (.invokevirtual 19, 3) := by decide +kernel
theorem dX6_reverse_54 : decode cX6_reverse 54 = .ok (.aload_n 0, 1) := by decide +kernel
theorem dX6_reverse_55 : decode cX6_reverse 55 = .ok (.iload 5, 2) := by decide +kernel
theorem dX6_reverse_57 : decode cX6_reverse 57 = .ok (.iload 6, 2) := by decide +kernel
theorem dX6_reverse_59 : decode cX6_reverse 59 = .ok (.invokevirtual 19, 3) := by decide +kernel
theorem dX6_reverse_62 : decode cX6_reverse 62 = .ok (.iinc 4 1, 3) := by decide +kernel
theorem dX6_reverse_65 : decode cX6_reverse 65 = .ok (.iinc 5 (-1), 3) := by decide +kernel
theorem dX6_reverse_68 : decode cX6_reverse 68 = .ok (.goto (-60), 3) := by decide +kernel
theorem dX6_reverse_71 : decode cX6_reverse 71 = .ok (.iload_n 3, 1) := by decide +kernel
theorem dX6_reverse_72 : decode cX6_reverse 72 = .ok (.ireturn, 1) := by decide +kernel
theorem dX6_takeRow_0 : decode cX6_takeRow 0 = .ok (.aload_n 0, 1) := by decide +kernel
theorem dX6_takeRow_1 : decode cX6_takeRow 1 = .ok (.aload_n 1, 1) := by decide +kernel
theorem dX6_takeRow_2 : decode cX6_takeRow 2 = .ok (.getfield 15, 3) := by decide +kernel
theorem dX6_takeRow_5 : decode cX6_takeRow 5 = .ok (.putfield 15, 3) := by decide +kernel
theorem dX6_takeRow_8 : decode cX6_takeRow 8 = .ok (.iconst 0, 1) := by decide +kernel
theorem dX6_takeRow_9 : decode cX6_takeRow 9 = .ok (.istore_n 2, 1) := by decide +kernel
theorem dX6_takeRow_10 : decode cX6_takeRow 10 = .ok (.iload_n 2, 1) := by decide +kernel
theorem dX6_takeRow_11 : decode cX6_takeRow 11 = .ok (.bipush 24, 2) := by decide +kernel
theorem dX6_takeRow_13 : decode cX6_takeRow 13 = .ok (.if_icmp .ge 19, 3) := by decide +kernel
theorem dX6_takeRow_16 : decode cX6_takeRow 16 = .ok (.aload_n 0, 1) := by decide +kernel
theorem dX6_takeRow_17 : decode cX6_takeRow 17 = .ok (.iload_n 2, 1) := by decide +kernel
theorem dX6_takeRow_18 : decode cX6_takeRow 18 = .ok (.aload_n 1, 1) := by decide +kernel
theorem dX6_takeRow_19 : decode cX6_takeRow 19 = .ok (.iload_n 2, 1) := by decide +kernel
theorem dX6_takeRow_20 : decode cX6_takeRow 20 = .ok (.invokevirtual 23, 3) := by decide +kernel
theorem dX6_takeRow_23 : decode cX6_takeRow 23 = .ok (.invokevirtual 19, 3) := by decide +kernel
theorem dX6_takeRow_26 : decode cX6_takeRow 26 = .ok (.iinc 2 1, 3) := by decide +kernel
theorem dX6_takeRow_29 : decode cX6_takeRow 29 = .ok (.goto (-19), 3) := by decide +kernel
theorem dX6_takeRow_32 : decode cX6_takeRow 32 = .ok (.return_, 1) := by decide +kernel
theorem dX6_wordAt_0 : decode cX6_wordAt 0 = .ok (.iconst 0, 1) := by decide +kernel
theorem dX6_wordAt_1 : decode cX6_wordAt 1 = .ok (.istore 4, 2) := by decide +kernel
theorem dX6_wordAt_3 : decode cX6_wordAt 3 = .ok (.iconst 0, 1) := by decide +kernel
theorem dX6_wordAt_4 : decode cX6_wordAt 4 = .ok (.istore 5, 2) := by decide +kernel
theorem dX6_wordAt_6 : decode cX6_wordAt 6 = .ok (.iload 5, 2) := by decide +kernel
theorem dX6_wordAt_8 : decode cX6_wordAt 8 = .ok (.iload_n 2, 1) := by decide +kernel
theorem dX6_wordAt_9 : decode cX6_wordAt 9 = .ok (.if_icmp .ge 43, 3) := by decide +kernel
theorem dX6_wordAt_12 : decode cX6_wordAt 12 = .ok (.iload_n 3, 1) := by decide +kernel
theorem dX6_wordAt_13 : decode cX6_wordAt 13 = .ok (.ifCond .eq 14, 3) := by decide +kernel
theorem dX6_wordAt_16 : decode cX6_wordAt 16 = .ok (.iload_n 1, 1) := by decide +kernel
theorem dX6_wordAt_17 : decode cX6_wordAt 17 = .ok (.iload_n 2, 1) := by decide +kernel
theorem dX6_wordAt_18 : decode cX6_wordAt 18 = .ok (.iadd, 1) := by decide +kernel
theorem dX6_wordAt_19 : decode cX6_wordAt 19 = .ok (.iconst 1, 1) := by decide +kernel
theorem dX6_wordAt_20 : decode cX6_wordAt 20 = .ok (.isub, 1) := by decide +kernel
theorem dX6_wordAt_21 : decode cX6_wordAt 21 = .ok (.iload 5, 2) := by decide +kernel
theorem dX6_wordAt_23 : decode cX6_wordAt 23 = .ok (.isub, 1) := by decide +kernel
theorem dX6_wordAt_24 : decode cX6_wordAt 24 = .ok (.goto 7, 3) := by decide +kernel
theorem dX6_wordAt_27 : decode cX6_wordAt 27 = .ok (.iload_n 1, 1) := by decide +kernel
theorem dX6_wordAt_28 : decode cX6_wordAt 28 = .ok (.iload 5, 2) := by decide +kernel
theorem dX6_wordAt_30 : decode cX6_wordAt 30 = .ok (.iadd, 1) := by decide +kernel
theorem dX6_wordAt_31 : decode cX6_wordAt 31 = .ok (.istore 6, 2) := by decide +kernel
theorem dX6_wordAt_33 : decode cX6_wordAt 33 = .ok (.iload 4, 2) := by decide +kernel
theorem dX6_wordAt_35 : decode cX6_wordAt 35 = .ok (.iconst 4, 1) := by decide +kernel
theorem dX6_wordAt_36 : decode cX6_wordAt 36 = .ok (.imul, 1) := by decide +kernel
theorem dX6_wordAt_37 : decode cX6_wordAt 37 = .ok (.aload_n 0, 1) := by decide +kernel
theorem dX6_wordAt_38 : decode cX6_wordAt 38 = .ok (.iload 6, 2) := by decide +kernel
theorem dX6_wordAt_40 : decode cX6_wordAt 40 = .ok (.invokevirtual 23, 3) := by decide +kernel
theorem dX6_wordAt_43 : decode cX6_wordAt 43 = .ok (.iadd, 1) := by decide +kernel
theorem dX6_wordAt_44 : decode cX6_wordAt 44 = .ok (.istore 4, 2) := by decide +kernel
theorem dX6_wordAt_46 : decode cX6_wordAt 46 = .ok (.iinc 5 1, 3) := by decide +kernel
theorem dX6_wordAt_49 : decode cX6_wordAt 49 = .ok (.goto (-43), 3) := by decide +kernel
theorem dX6_wordAt_52 : decode cX6_wordAt 52 = .ok (.iload 4, 2) := by decide +kernel
theorem dX6_wordAt_54 : decode cX6_wordAt 54 = .ok (.ireturn, 1) := by decide +kernel
theorem dX6_listWords_0 : decode cX6_listWords 0 = .ok (.iconst 0, 1) := by decide +kernel
theorem dX6_listWords_1 : decode cX6_listWords 1 = .ok (.aload_n 0, 1) := by decide +kernel
theorem dX6_listWords_2 : decode cX6_listWords 2 = .ok (.getfield 15, 3) := by decide +kernel
theorem dX6_listWords_5 : decode cX6_listWords 5 = .ok (.iload_n 2, 1) := by decide +kernel
theorem dX6_listWords_6 : decode cX6_listWords 6 = .ok (.isub, 1) := by decide +kernel
theorem dX6_listWords_7 : decode cX6_listWords 7 = .ok (.iconst 1, 1) := by decide +kernel
theorem dX6_listWords_8 : decode cX6_listWords 8 = .ok (.iadd, 1) := by decide +kernel
theorem dX6_listWords_9 : decode cX6_listWords 9 = .ok (.invokestatic 31, 3) := by decide +kernel
theorem dX6_listWords_12 : decode cX6_listWords 12 = .ok (.istore 4, 2) := by decide +kernel
theorem dX6_listWords_14 : decode cX6_listWords 14 = .ok (.iconst 0, 1) := by decide +kernel
theorem dX6_listWords_15 : decode cX6_listWords 15 = .ok (.istore 5, 2) := by decide +kernel
theorem dX6_listWords_17 : decode cX6_listWords 17 = .ok (.iload 5, 2) := by decide +kernel
theorem dX6_listWords_19 : decode cX6_listWords 19 = .ok (.iload 4, 2) := by decide +kernel
theorem dX6_listWords_21 : decode cX6_listWords 21 = .ok (.if_icmp .ge 23, 3) := by decide +kernel
theorem dX6_listWords_24 : decode cX6_listWords 24 = .ok (.aload_n 1, 1) := by decide +kernel
theorem dX6_listWords_25 : decode cX6_listWords 25 = .ok (.iload 5, 2) := by decide +kernel
theorem dX6_listWords_27 : decode cX6_listWords 27 = .ok (.aload_n 0, 1) := by decide +kernel
theorem dX6_listWords_28 : decode cX6_listWords 28 = .ok (.iload 5, 2) := by decide +kernel
theorem dX6_listWords_30 : decode cX6_listWords 30 = .ok (.iload_n 2, 1) := by decide +kernel
theorem dX6_listWords_31 : decode cX6_listWords 31 = .ok (.iload_n 3, 1) := by decide +kernel
theorem dX6_listWords_32 : decode cX6_listWords 32 = .ok (.invokevirtual 37, 3) := by decide +kernel
theorem dX6_listWords_35 : decode cX6_listWords 35 = .ok (.invokevirtual 41, 3) := by decide +kernel
theorem dX6_listWords_38 : decode cX6_listWords 38 = .ok (.iinc 5 1, 3) := by decide +kernel
theorem dX6_listWords_41 : decode cX6_listWords 41 = .ok (.goto (-24), 3) := by decide +kernel
theorem dX6_listWords_44 : decode cX6_listWords 44 = .ok (.iload 4, 2) := by decide +kernel
theorem dX6_listWords_46 : decode cX6_listWords 46 = .ok (.ireturn, 1) := by decide +kernel
theorem dX6_alikeFrom_0 : decode cX6_alikeFrom 0 = .ok (.iconst 0, 1) := by decide +kernel
theorem dX6_alikeFrom_1 : decode cX6_alikeFrom 1 = .ok (.istore_n 3, 1) := by decide +kernel
theorem dX6_alikeFrom_2 : decode cX6_alikeFrom 2 = .ok (.iconst 0, 1) := by decide +kernel
theorem dX6_alikeFrom_3 : decode cX6_alikeFrom 3 = .ok (.istore 4, 2) := by decide +kernel
theorem dX6_alikeFrom_5 : decode cX6_alikeFrom 5 = .ok (.iload 4, 2) := by decide +kernel
theorem dX6_alikeFrom_7 : decode cX6_alikeFrom 7 = .ok (.aload_n 0, 1) := by decide +kernel
theorem dX6_alikeFrom_8 : decode cX6_alikeFrom 8 = .ok (.getfield 15, 3) := by decide +kernel
theorem dX6_alikeFrom_11 : decode cX6_alikeFrom 11 = .ok (.iload_n 2, 1) := by decide +kernel
theorem dX6_alikeFrom_12 : decode cX6_alikeFrom 12 = .ok (.isub, 1) := by decide +kernel
theorem dX6_alikeFrom_13 : decode cX6_alikeFrom 13 = .ok (.if_icmp .ge 31, 3) := by decide +kernel
theorem dX6_alikeFrom_16 : decode cX6_alikeFrom 16 = .ok (.aload_n 0, 1) := by decide +kernel
theorem dX6_alikeFrom_17 : decode cX6_alikeFrom 17 = .ok (.iload_n 1, 1) := by decide +kernel
theorem dX6_alikeFrom_18 : decode cX6_alikeFrom 18 = .ok (.iload 4, 2) := by decide +kernel
theorem dX6_alikeFrom_20 : decode cX6_alikeFrom 20 = .ok (.iadd, 1) := by decide +kernel
theorem dX6_alikeFrom_21 : decode cX6_alikeFrom 21 = .ok (.invokevirtual 23, 3) := by decide +kernel
theorem dX6_alikeFrom_24 : decode cX6_alikeFrom 24 = .ok (.aload_n 0, 1) := by decide +kernel
theorem dX6_alikeFrom_25 : decode cX6_alikeFrom 25 = .ok (.iload_n 2, 1) := by decide +kernel
theorem dX6_alikeFrom_26 : decode cX6_alikeFrom 26 = .ok (.iload 4, 2) := by decide +kernel
theorem dX6_alikeFrom_28 : decode cX6_alikeFrom 28 = .ok (.iadd, 1) := by decide +kernel
theorem dX6_alikeFrom_29 : decode cX6_alikeFrom 29 = .ok (.invokevirtual 23, 3) := by decide +kernel
theorem dX6_alikeFrom_32 : decode cX6_alikeFrom 32 = .ok (.if_icmp .ne 12, 3) := by decide +kernel
theorem dX6_alikeFrom_35 : decode cX6_alikeFrom 35 = .ok (.iinc 3 1, 3) := by decide +kernel
theorem dX6_alikeFrom_38 : decode cX6_alikeFrom 38 = .ok (.iinc 4 1, 3) := by decide +kernel
theorem dX6_alikeFrom_41 : decode cX6_alikeFrom 41 = .ok (.goto (-36), 3) := by decide +kernel
theorem dX6_alikeFrom_44 : decode cX6_alikeFrom 44 = .ok (.iload_n 3, 1) := by decide +kernel
theorem dX6_alikeFrom_45 : decode cX6_alikeFrom 45 = .ok (.ireturn, 1) := by decide +kernel
theorem dX6_againLength_0 : decode cX6_againLength 0 = .ok (.iconst 0, 1) := by decide +kernel
theorem dX6_againLength_1 : decode cX6_againLength 1 = .ok (.istore_n 2, 1) := by decide +kernel
theorem dX6_againLength_2 : decode cX6_againLength 2 = .ok (.iload_n 1, 1) := by decide +kernel
theorem dX6_againLength_3 : decode cX6_againLength 3 = .ok (.iconst 1, 1) := by decide +kernel
theorem dX6_againLength_4 : decode cX6_againLength 4 = .ok (.iadd, 1) := by decide +kernel
theorem dX6_againLength_5 : decode cX6_againLength 5 = .ok (.istore_n 3, 1) := by decide +kernel
theorem dX6_againLength_6 : decode cX6_againLength 6 = .ok (.iload_n 3, 1) := by decide +kernel
theorem dX6_againLength_7 : decode cX6_againLength 7 = .ok (.aload_n 0, 1) := by decide +kernel
theorem dX6_againLength_8 : decode cX6_againLength 8 = .ok (.getfield 15, 3) := by decide +kernel
theorem dX6_againLength_11 : decode cX6_againLength 11 = .ok (.if_icmp .ge 20, 3) := by decide +kernel
theorem dX6_againLength_14 : decode cX6_againLength 14 = .ok (.iload_n 2, 1) := by decide +kernel
theorem dX6_againLength_15 : decode cX6_againLength 15 = .ok (.aload_n 0, 1) := by decide +kernel
theorem dX6_againLength_16 : decode cX6_againLength 16 = .ok (.iload_n 1, 1) := by decide +kernel
theorem dX6_againLength_17 : decode cX6_againLength 17 = .ok (.iload_n 3, 1) := by decide +kernel
theorem dX6_againLength_18 : decode cX6_againLength 18 = .ok (.invokevirtual 46, 3) := by decide +kernel
theorem dX6_againLength_21 : decode cX6_againLength 21 = .ok (.invokestatic 31, 3) := by decide +kernel
theorem dX6_againLength_24 : decode cX6_againLength 24 = .ok (.istore_n 2, 1) := by decide +kernel
theorem dX6_againLength_25 : decode cX6_againLength 25 = .ok (.iinc 3 1, 3) := by decide +kernel
theorem dX6_againLength_28 : decode cX6_againLength 28 = .ok (.goto (-22), 3) := by decide +kernel
theorem dX6_againLength_31 : decode cX6_againLength 31 = .ok (.iload_n 2, 1) := by decide +kernel
theorem dX6_againLength_32 : decode cX6_againLength 32 = .ok (.ireturn, 1) := by decide +kernel
theorem dX6_stretchProperty_0 : decode cX6_stretchProperty 0 = .ok (.iconst 0, 1) := by decide +kernel
theorem dX6_stretchProperty_1 : decode cX6_stretchProperty 1 = .ok (.istore_n 2, 1) := by decide +kernel
theorem dX6_stretchProperty_2 : decode cX6_stretchProperty 2 = .ok (.iconst (-1), 1) := by decide +kernel
theorem dX6_stretchProperty_3 : decode cX6_stretchProperty 3 = .ok (.istore_n 3, 1) := by decide +kernel
theorem dX6_stretchProperty_4 : decode cX6_stretchProperty 4 = .ok (.iconst 0, 1) := by decide +kernel
theorem dX6_stretchProperty_5 : decode cX6_stretchProperty 5 = .ok (.istore 4, 2) := by decide +kernel
theorem dX6_stretchProperty_7 : decode cX6_stretchProperty 7 = .ok (.iload 4, 2) := by decide +kernel
theorem dX6_stretchProperty_9 : decode cX6_stretchProperty 9 = .ok (.aload_n 0, 1) := by decide +kernel
theorem dX6_stretchProperty_10 : decode cX6_stretchProperty 10 = .ok (.getfield 15, 3) := by decide +kernel
theorem dX6_stretchProperty_13 : decode cX6_stretchProperty 13 = .ok (.if_icmp .ge 29, 3) := by decide +kernel
theorem dX6_stretchProperty_16 : decode cX6_stretchProperty 16 = .ok (.aload_n 0, 1) := by decide +kernel
theorem dX6_stretchProperty_17 : decode cX6_stretchProperty 17 = .ok (.iload 4, 2) := by decide +kernel
theorem dX6_stretchProperty_19 : decode cX6_stretchProperty 19 = .ok (.invokevirtual 49, 3) := by decide +kernel
theorem dX6_stretchProperty_22 : decode cX6_stretchProperty 22 = .ok (.istore 5, 2) := by decide +kernel
theorem dX6_stretchProperty_24 : decode cX6_stretchProperty 24 = .ok (.iload 5, 2) := by decide +kernel
theorem dX6_stretchProperty_26 : decode cX6_stretchProperty 26 = .ok (.iload_n 2, 1) := by decide +kernel
theorem dX6_stretchProperty_27 : decode cX6_stretchProperty 27 = .ok (.if_icmp .le 9, 3) := by decide +kernel
theorem dX6_stretchProperty_30 : decode cX6_stretchProperty 30 = .ok (.iload 5, 2) := by decide +kernel
theorem dX6_stretchProperty_32 : decode cX6_stretchProperty 32 = .ok (.istore_n 2, 1) := by decide +kernel
theorem dX6_stretchProperty_33 : decode cX6_stretchProperty 33 = .ok (.iload 4, 2) := by decide +kernel
theorem dX6_stretchProperty_35 : decode cX6_stretchProperty 35 = .ok (.istore_n 3, 1) := by decide +kernel
theorem dX6_stretchProperty_36 : decode cX6_stretchProperty 36 = .ok (.iinc 4 1, 3) := by decide +kernel
theorem dX6_stretchProperty_39 : decode cX6_stretchProperty 39 = .ok (.goto (-32), 3) := by decide +kernel
theorem dX6_stretchProperty_42 : decode cX6_stretchProperty 42 = .ok (.iload_n 1, 1) := by decide +kernel
theorem dX6_stretchProperty_43 : decode cX6_stretchProperty 43 = .ok (.lookupswitch 29 #[(0, 25), (1, 27)], 25) := by decide +kernel
theorem dX6_stretchProperty_68 : decode cX6_stretchProperty 68 = .ok (.iload_n 2, 1) := by decide +kernel
theorem dX6_stretchProperty_69 : decode cX6_stretchProperty 69 = .ok (.ireturn, 1) := by decide +kernel
theorem dX6_stretchProperty_70 : decode cX6_stretchProperty 70 = .ok (.iload_n 3, 1) := by decide +kernel
theorem dX6_stretchProperty_71 : decode cX6_stretchProperty 71 = .ok (.ireturn, 1) := by decide +kernel
theorem dX6_stretchProperty_72 : decode cX6_stretchProperty 72 = .ok (.iload_n 3, 1) := by decide +kernel
theorem dX6_stretchProperty_73 : decode cX6_stretchProperty 73 = .ok (.iconst (-1), 1) := by decide +kernel
theorem dX6_stretchProperty_74 : decode cX6_stretchProperty 74 = .ok (.if_icmp .ne 7, 3) := by decide +kernel
theorem dX6_stretchProperty_77 : decode cX6_stretchProperty 77 = .ok (.iconst (-1), 1) := by decide +kernel
theorem dX6_stretchProperty_78 : decode cX6_stretchProperty 78 = .ok (.goto 9, 3) := by decide +kernel
theorem dX6_stretchProperty_81 : decode cX6_stretchProperty 81 = .ok (.aload_n 0, 1) := by decide +kernel
theorem dX6_stretchProperty_82 : decode cX6_stretchProperty 82 = .ok (.iload_n 3, 1) := by decide +kernel
theorem dX6_stretchProperty_83 : decode cX6_stretchProperty 83 = .ok (.iload_n 2, 1) := by decide +kernel
theorem dX6_stretchProperty_84 : decode cX6_stretchProperty 84 = .ok (.invokevirtual 52, 3) := by decide +kernel
theorem dX6_stretchProperty_87 : decode cX6_stretchProperty 87 = .ok (.ireturn, 1) := by decide +kernel
theorem dX6_placesOfStretch_0 : decode cX6_placesOfStretch 0 = .ok (.iconst 0, 1) := by decide +kernel
theorem dX6_placesOfStretch_1 : decode cX6_placesOfStretch 1 = .ok (.istore_n 3, 1) := by decide +kernel
theorem dX6_placesOfStretch_2 : decode cX6_placesOfStretch 2 = .ok (.iload_n 1, 1) := by decide +kernel
theorem dX6_placesOfStretch_3 : decode cX6_placesOfStretch 3 = .ok (.istore 4, 2) := by decide +kernel
theorem dX6_placesOfStretch_5 : decode cX6_placesOfStretch 5 = .ok (.iload 4, 2) := by decide +kernel
theorem dX6_placesOfStretch_7 : decode cX6_placesOfStretch 7 = .ok (.aload_n 0, 1) := by decide +kernel
theorem dX6_placesOfStretch_8 : decode cX6_placesOfStretch 8 = .ok (.getfield 15, 3) := by decide +kernel
theorem dX6_placesOfStretch_11 : decode cX6_placesOfStretch 11 = .ok (.if_icmp .ge 23, 3) := by decide +kernel
theorem dX6_placesOfStretch_14 : decode cX6_placesOfStretch 14 = .ok (.aload_n 0, 1) := by decide +kernel
theorem dX6_placesOfStretch_15 : decode cX6_placesOfStretch 15 = .ok (.iload_n 1, 1) := by decide +kernel
theorem dX6_placesOfStretch_16 : decode cX6_placesOfStretch 16 = .ok (.iload 4, 2) := by decide +kernel
theorem dX6_placesOfStretch_18 : decode cX6_placesOfStretch 18 = .ok (.invokevirtual 46, 3) := by decide +kernel
theorem dX6_placesOfStretch_21 : decode cX6_placesOfStretch 21 = .ok (.iload_n 2, 1) := by decide +kernel
theorem dX6_placesOfStretch_22 : decode cX6_placesOfStretch 22 = .ok (.if_icmp .lt 6, 3) := by decide +kernel
theorem dX6_placesOfStretch_25 : decode cX6_placesOfStretch 25 = .ok (.iinc 3 1, 3) := by decide +kernel
theorem dX6_placesOfStretch_28 : decode cX6_placesOfStretch 28 = .ok (.iinc 4 1, 3) := by decide +kernel
theorem dX6_placesOfStretch_31 : decode cX6_placesOfStretch 31 = .ok (.goto (-26), 3) := by decide +kernel
theorem dX6_placesOfStretch_34 : decode cX6_placesOfStretch 34 = .ok (.iload_n 3, 1) := by decide +kernel
theorem dX6_placesOfStretch_35 : decode cX6_placesOfStretch 35 = .ok (.ireturn, 1) := by decide +kernel
theorem dX7_init_0 : decode cX7_init 0 = .ok (.aload_n 0, 1) := by decide +kernel
theorem dX7_init_1 : decode cX7_init 1 = .ok (.invokespecial 3, 3) := by decide +kernel
theorem dX7_init_4 : decode cX7_init 4 = .ok (.aload_n 0, 1) := by decide +kernel
theorem dX7_init_5 : decode cX7_init 5 = .ok (.new 9, 3) := by decide +kernel
theorem dX7_init_8 : decode cX7_init 8 = .ok (.dup, 1) := by decide +kernel
theorem dX7_init_9 : decode cX7_init 9 = .ok (.invokespecial 11, 3) := by decide +kernel
theorem dX7_init_12 : decode cX7_init 12 = .ok (.putfield 12, 3) := by decide +kernel
theorem dX7_init_15 : decode cX7_init 15 = .ok (.aload_n 0, 1) := by decide +kernel
theorem dX7_init_16 : decode cX7_init 16 = .ok (.new 9, 3) := by decide +kernel
theorem dX7_init_19 : decode cX7_init 19 = .ok (.dup, 1) := by decide +kernel
theorem dX7_init_20 : decode cX7_init 20 = .ok (.invokespecial 11, 3) := by decide +kernel
theorem dX7_init_23 : decode cX7_init 23 = .ok (.putfield 18, 3) := by decide +kernel
theorem dX7_init_26 : decode cX7_init 26 = .ok (.aload_n 0, 1) := by decide +kernel
theorem dX7_init_27 : decode cX7_init 27 = .ok (.new 21, 3) := by decide +kernel
theorem dX7_init_30 : decode cX7_init 30 = .ok (.dup, 1) := by decide +kernel
theorem dX7_init_31 : decode cX7_init 31 = .ok (.iconst 4, 1) := by decide +kernel
theorem dX7_init_32 : decode cX7_init 32 = .ok (.invokespecial 23, 3) := by decide +kernel
theorem dX7_init_35 : decode cX7_init 35 = .ok (.putfield 26, 3) := by decide +kernel
theorem dX7_init_38 : decode cX7_init 38 = .ok (.aload_n 0, 1) := by decide +kernel
theorem dX7_init_39 : decode cX7_init 39 = .ok (.getfield 26, 3) := by decide +kernel
theorem dX7_init_42 : decode cX7_init 42 = .ok (.iconst 0, 1) := by decide +kernel
theorem dX7_init_43 : decode cX7_init 43 = .ok (.iconst 3, 1) := by decide +kernel
theorem dX7_init_44 : decode cX7_init 44 = .ok (.invokevirtual 30, 3) := by decide +kernel
theorem dX7_init_47 : decode cX7_init 47 = .ok (.aload_n 0, 1) := by decide +kernel
theorem dX7_init_48 : decode cX7_init 48 = .ok (.getfield 26, 3) := by decide +kernel
theorem dX7_init_51 : decode cX7_init 51 = .ok (.iconst 1, 1) := by decide +kernel
theorem dX7_init_52 : decode cX7_init 52 = .ok (.iconst 2, 1) := by decide +kernel
theorem dX7_init_53 : decode cX7_init 53 = .ok (.invokevirtual 30, 3) := by decide +kernel
theorem dX7_init_56 : decode cX7_init 56 = .ok (.aload_n 0, 1) := by decide +kernel
theorem dX7_init_57 : decode cX7_init 57 = .ok (.getfield 26, 3) := by decide +kernel
theorem dX7_init_60 : decode cX7_init 60 = .ok (.iconst 2, 1) := by decide +kernel
theorem dX7_init_61 : decode cX7_init 61 = .ok (.iconst 3, 1) := by decide +kernel
theorem dX7_init_62 : decode cX7_init 62 = .ok (.invokevirtual 30, 3) := by decide +kernel
theorem dX7_init_65 : decode cX7_init 65 = .ok (.aload_n 0, 1) := by decide +kernel
theorem dX7_init_66 : decode cX7_init 66 = .ok (.getfield 26, 3) := by decide +kernel
theorem dX7_init_69 : decode cX7_init 69 = .ok (.iconst 3, 1) := by decide +kernel
theorem dX7_init_70 : decode cX7_init 70 = .ok (.iconst 4, 1) := by decide +kernel
theorem dX7_init_71 : decode cX7_init 71 = .ok (.invokevirtual 30, 3) := by decide +kernel
theorem dX7_init_74 : decode cX7_init 74 = .ok (.return_, 1) := by decide +kernel
theorem dX7_rowOf_0 : decode cX7_rowOf 0 = .ok (.iload_n 1, 1) := by decide +kernel
theorem dX7_rowOf_1 : decode cX7_rowOf 1 = .ok (.ifCond .ne 10, 3) := by decide +kernel
theorem dX7_rowOf_4 : decode cX7_rowOf 4 = .ok (.aload_n 0, 1) := by decide +kernel
theorem dX7_rowOf_5 : decode cX7_rowOf 5 = .ok (.getfield 12, 3) := by decide +kernel
theorem dX7_rowOf_8 : decode cX7_rowOf 8 = .ok (.goto 7, 3) := by decide +kernel
theorem dX7_rowOf_11 : decode cX7_rowOf 11 = .ok (.aload_n 0, 1) := by decide +kernel
theorem dX7_rowOf_12 : decode cX7_rowOf 12 = .ok (.getfield 18, 3) := by decide +kernel
theorem dX7_rowOf_15 : decode cX7_rowOf 15 = .ok (.areturn, 1) := by decide +kernel
theorem dX7_signs_0 : decode cX7_signs 0 = .ok (.aload_n 0, 1) := by decide +kernel
theorem dX7_signs_1 : decode cX7_signs 1 = .ok (.getfield 12, 3) := by decide +kernel
theorem dX7_signs_4 : decode cX7_signs 4 = .ok (.invokevirtual 34, 3) := by decide +kernel
theorem dX7_signs_7 : decode cX7_signs 7 = .ok (.aload_n 0, 1) := by decide +kernel
theorem dX7_signs_8 : decode cX7_signs 8 = .ok (.getfield 18, 3) := by decide +kernel
theorem dX7_signs_11 : decode cX7_signs 11 = .ok (.invokevirtual 34, 3) := by decide +kernel
theorem dX7_signs_14 : decode cX7_signs 14 = .ok (.iadd, 1) := by decide +kernel
theorem dX7_signs_15 : decode cX7_signs 15 = .ok (.ireturn, 1) := by decide +kernel
theorem dX7_exchangeRows_0 : decode cX7_exchangeRows 0 = .ok (.aload_n 0, 1) := by decide +kernel
theorem dX7_exchangeRows_1 : decode cX7_exchangeRows 1 = .ok (.getfield 12, 3) := by decide +kernel
theorem dX7_exchangeRows_4 : decode cX7_exchangeRows 4 = .ok (.getfield 38, 3) := by decide +kernel
theorem dX7_exchangeRows_7 : decode cX7_exchangeRows 7 = .ok (.istore_n 1, 1) := by decide +kernel
theorem dX7_exchangeRows_8 : decode cX7_exchangeRows 8 = .ok (.aload_n 0, 1) := by decide +kernel
theorem dX7_exchangeRows_9 : decode cX7_exchangeRows 9 = .ok (.getfield 12, 3) := by decide +kernel
theorem dX7_exchangeRows_12 : decode cX7_exchangeRows 12 = .ok (.aload_n 0, 1) := by decide +kernel
theorem dX7_exchangeRows_13 : decode cX7_exchangeRows 13 = .ok (.getfield 18, 3) := by decide +kernel
theorem dX7_exchangeRows_16 : decode cX7_exchangeRows 16 = .ok (.getfield 38, 3) := by decide +kernel
theorem dX7_exchangeRows_19 : decode cX7_exchangeRows 19 = .ok (.putfield 38, 3) := by decide +kernel
theorem dX7_exchangeRows_22 : decode cX7_exchangeRows 22 = .ok (.aload_n 0, 1) := by decide +kernel
theorem dX7_exchangeRows_23 : decode cX7_exchangeRows 23 = .ok (.getfield 18, 3) := by decide +kernel
theorem dX7_exchangeRows_26 : decode cX7_exchangeRows 26 = .ok (.iload_n 1, 1) := by decide +kernel
theorem dX7_exchangeRows_27 : decode cX7_exchangeRows 27 = .ok (.putfield 38, 3) := by decide +kernel
theorem dX7_exchangeRows_30 : decode cX7_exchangeRows 30 = .ok (.iconst 0, 1) := by decide +kernel
theorem dX7_exchangeRows_31 : decode cX7_exchangeRows 31 = .ok (.istore_n 2, 1) := by decide +kernel
theorem dX7_exchangeRows_32 : decode cX7_exchangeRows 32 = .ok (.iload_n 2, 1) := by decide +kernel
theorem dX7_exchangeRows_33 : decode cX7_exchangeRows 33 = .ok (.bipush 24, 2) := by decide +kernel
theorem dX7_exchangeRows_35 : decode cX7_exchangeRows 35 = .ok (.if_icmp .ge 43, 3) := by decide +kernel
theorem dX7_exchangeRows_38 : decode cX7_exchangeRows 38 = .ok (.aload_n 0, 1) := by decide +kernel
theorem dX7_exchangeRows_39 : decode cX7_exchangeRows 39 = .ok (.getfield 12, 3) := by decide +kernel
theorem dX7_exchangeRows_42 : decode cX7_exchangeRows 42 = .ok (.iload_n 2, 1) := by decide +kernel
theorem dX7_exchangeRows_43 : decode cX7_exchangeRows 43 = .ok (.invokevirtual 42, 3) := by decide +kernel
theorem dX7_exchangeRows_46 : decode cX7_exchangeRows 46 = .ok (.istore_n 3, 1) := by decide +kernel
theorem dX7_exchangeRows_47 : decode cX7_exchangeRows 47 = .ok (.aload_n 0, 1) := by decide +kernel
theorem dX7_exchangeRows_48 : decode cX7_exchangeRows 48 = .ok (.getfield 12, 3) := by decide +kernel
theorem dX7_exchangeRows_51 : decode cX7_exchangeRows 51 = .ok (.iload_n 2, 1) := by decide +kernel
theorem dX7_exchangeRows_52 : decode cX7_exchangeRows 52 = .ok (.aload_n 0, 1) := by decide +kernel
theorem dX7_exchangeRows_53 : decode cX7_exchangeRows 53 = .ok (.getfield 18, 3) := by decide +kernel
theorem dX7_exchangeRows_56 : decode cX7_exchangeRows 56 = .ok (.iload_n 2, 1) := by decide +kernel
theorem dX7_exchangeRows_57 : decode cX7_exchangeRows 57 = .ok (.invokevirtual 42, 3) := by decide +kernel
theorem dX7_exchangeRows_60 : decode cX7_exchangeRows 60 = .ok (.invokevirtual 46, 3) := by decide +kernel
theorem dX7_exchangeRows_63 : decode cX7_exchangeRows 63 = .ok (.aload_n 0, 1) := by decide +kernel
theorem dX7_exchangeRows_64 : decode cX7_exchangeRows 64 = .ok (.getfield 18, 3) := by decide +kernel
theorem dX7_exchangeRows_67 : decode cX7_exchangeRows 67 = .ok (.iload_n 2, 1) := by decide +kernel
theorem dX7_exchangeRows_68 : decode cX7_exchangeRows 68 = .ok (.iload_n 3, 1) := by decide +kernel
theorem dX7_exchangeRows_69 : decode cX7_exchangeRows 69 = .ok (.invokevirtual 46, 3) := by decide +kernel
theorem dX7_exchangeRows_72 : decode cX7_exchangeRows 72 = .ok (.iinc 2 1, 3) := by decide +kernel
theorem dX7_exchangeRows_75 : decode cX7_exchangeRows 75 = .ok (.goto (-43), 3) := by decide +kernel
theorem dX7_exchangeRows_78 : decode cX7_exchangeRows 78 = .ok (.return_, 1) := by decide +kernel
theorem dX7_takeRows_0 : decode cX7_takeRows 0 = .ok (.aload_n 0, 1) := by decide +kernel
theorem dX7_takeRows_1 : decode cX7_takeRows 1 = .ok (.getfield 12, 3) := by decide +kernel
theorem dX7_takeRows_4 : decode cX7_takeRows 4 = .ok (.aload_n 1, 1) := by decide +kernel
theorem dX7_takeRows_5 : decode cX7_takeRows 5 = .ok (.getfield 12, 3) := by decide +kernel
theorem dX7_takeRows_8 : decode cX7_takeRows 8 = .ok (.invokevirtual 49, 3) := by decide +kernel
theorem dX7_takeRows_11 : decode cX7_takeRows 11 = .ok (.aload_n 0, 1) := by decide +kernel
theorem dX7_takeRows_12 : decode cX7_takeRows 12 = .ok (.getfield 18, 3) := by decide +kernel
theorem dX7_takeRows_15 : decode cX7_takeRows 15 = .ok (.aload_n 1, 1) := by decide +kernel
theorem dX7_takeRows_16 : decode cX7_takeRows 16 = .ok (.getfield 18, 3) := by decide +kernel
theorem dX7_takeRows_19 : decode cX7_takeRows 19 = .ok (.invokevirtual 49, 3) := by decide +kernel
theorem dX7_takeRows_22 : decode cX7_takeRows 22 = .ok (.return_, 1) := by decide +kernel
theorem dX7_takeAll_0 : decode cX7_takeAll 0 = .ok (.aload_n 0, 1) := by decide +kernel
theorem dX7_takeAll_1 : decode cX7_takeAll 1 = .ok (.aload_n 1, 1) := by decide +kernel
theorem dX7_takeAll_2 : decode cX7_takeAll 2 = .ok (.invokevirtual 53, 3) := by decide +kernel
theorem dX7_takeAll_5 : decode cX7_takeAll 5 = .ok (.iconst 0, 1) := by decide +kernel
theorem dX7_takeAll_6 : decode cX7_takeAll 6 = .ok (.istore_n 2, 1) := by decide +kernel
theorem dX7_takeAll_7 : decode cX7_takeAll 7 = .ok (.iload_n 2, 1) := by decide +kernel
theorem dX7_takeAll_8 : decode cX7_takeAll 8 = .ok (.iconst 4, 1) := by decide +kernel
theorem dX7_takeAll_9 : decode cX7_takeAll 9 = .ok (.if_icmp .ge 25, 3) := by decide +kernel
theorem dX7_takeAll_12 : decode cX7_takeAll 12 = .ok (.aload_n 0, 1) := by decide +kernel
theorem dX7_takeAll_13 : decode cX7_takeAll 13 = .ok (.getfield 26, 3) := by decide +kernel
theorem dX7_takeAll_16 : decode cX7_takeAll 16 = .ok (.iload_n 2, 1) := by decide +kernel
theorem dX7_takeAll_17 : decode cX7_takeAll 17 = .ok (.aload_n 1, 1) := by decide +kernel
theorem dX7_takeAll_18 : decode cX7_takeAll 18 = .ok (.getfield 26, 3) := by decide +kernel
theorem dX7_takeAll_21 : decode cX7_takeAll 21 = .ok (.iload_n 2, 1) := by decide +kernel
theorem dX7_takeAll_22 : decode cX7_takeAll 22 = .ok (.invokevirtual 57, 3) := by decide +kernel
theorem dX7_takeAll_25 : decode cX7_takeAll 25 = .ok (.invokevirtual 30, 3) := by decide +kernel
theorem dX7_takeAll_28 : decode cX7_takeAll 28 = .ok (.iinc 2 1, 3) := by decide +kernel
theorem dX7_takeAll_31 : decode cX7_takeAll 31 = .ok (.goto (-24), 3) := by decide +kernel
theorem dX7_takeAll_34 : decode cX7_takeAll 34 = .ok (.return_, 1) := by decide +kernel
theorem dX7_writeTo_0 : decode cX7_writeTo 0 = .ok (.aload_n 1, 1) := by decide +kernel
theorem dX7_writeTo_1 : decode cX7_writeTo 1 = .ok (.iload_n 2, 1) := by decide +kernel
theorem dX7_writeTo_2 : decode cX7_writeTo 2 = .ok (.aload_n 0, 1) := by decide +kernel
theorem dX7_writeTo_3 : decode cX7_writeTo 3 = .ok (.getfield 12, 3) := by decide +kernel
theorem dX7_writeTo_6 : decode cX7_writeTo 6 = .ok (.getfield 38, 3) := by decide +kernel
theorem dX7_writeTo_9 : decode cX7_writeTo 9 = .ok (.invokevirtual 30, 3) := by decide +kernel
theorem dX7_writeTo_12 : decode cX7_writeTo 12 = .ok (.aload_n 1, 1) := by decide +kernel
theorem dX7_writeTo_13 : decode cX7_writeTo 13 = .ok (.iload_n 2, 1) := by decide +kernel
theorem dX7_writeTo_14 : decode cX7_writeTo 14 = .ok (.iconst 1, 1) := by decide +kernel
theorem dX7_writeTo_15 : decode cX7_writeTo 15 = .ok (.iadd, 1) := by decide +kernel
theorem dX7_writeTo_16 : decode cX7_writeTo 16 = .ok (.aload_n 0, 1) := by decide +kernel
theorem dX7_writeTo_17 : decode cX7_writeTo 17 = .ok (.getfield 18, 3) := by decide +kernel
theorem dX7_writeTo_20 : decode cX7_writeTo 20 = .ok (.getfield 38, 3) := by decide +kernel
theorem dX7_writeTo_23 : decode cX7_writeTo 23 = .ok (.invokevirtual 30, 3) := by decide +kernel
theorem dX7_writeTo_26 : decode cX7_writeTo 26 = .ok (.iconst 0, 1) := by decide +kernel
theorem dX7_writeTo_27 : decode cX7_writeTo 27 = .ok (.istore_n 3, 1) := by decide +kernel
theorem dX7_writeTo_28 : decode cX7_writeTo 28 = .ok (.iload_n 3, 1) := by decide +kernel
theorem dX7_writeTo_29 : decode cX7_writeTo 29 = .ok (.bipush 24, 2) := by decide +kernel
theorem dX7_writeTo_31 : decode cX7_writeTo 31 = .ok (.if_icmp .ge 46, 3) := by decide +kernel
theorem dX7_writeTo_34 : decode cX7_writeTo 34 = .ok (.aload_n 1, 1) := by decide +kernel
theorem dX7_writeTo_35 : decode cX7_writeTo 35 = .ok (.iload_n 2, 1) := by decide +kernel
theorem dX7_writeTo_36 : decode cX7_writeTo 36 = .ok (.iconst 2, 1) := by decide +kernel
theorem dX7_writeTo_37 : decode cX7_writeTo 37 = .ok (.iadd, 1) := by decide +kernel
theorem dX7_writeTo_38 : decode cX7_writeTo 38 = .ok (.iload_n 3, 1) := by decide +kernel
theorem dX7_writeTo_39 : decode cX7_writeTo 39 = .ok (.iadd, 1) := by decide +kernel
theorem dX7_writeTo_40 : decode cX7_writeTo 40 = .ok (.aload_n 0, 1) := by decide +kernel
theorem dX7_writeTo_41 : decode cX7_writeTo 41 = .ok (.getfield 12, 3) := by decide +kernel
theorem dX7_writeTo_44 : decode cX7_writeTo 44 = .ok (.iload_n 3, 1) := by decide +kernel
theorem dX7_writeTo_45 : decode cX7_writeTo 45 = .ok (.invokevirtual 42, 3) := by decide +kernel
theorem dX7_writeTo_48 : decode cX7_writeTo 48 = .ok (.invokevirtual 30, 3) := by decide +kernel
theorem dX7_writeTo_51 : decode cX7_writeTo 51 = .ok (.aload_n 1, 1) := by decide +kernel
theorem dX7_writeTo_52 : decode cX7_writeTo 52 = .ok (.iload_n 2, 1) := by decide +kernel
theorem dX7_writeTo_53 : decode cX7_writeTo 53 = .ok (.iconst 2, 1) := by decide +kernel
theorem dX7_writeTo_54 : decode cX7_writeTo 54 = .ok (.iadd, 1) := by decide +kernel
theorem dX7_writeTo_55 : decode cX7_writeTo 55 = .ok (.bipush 24, 2) := by decide +kernel
theorem dX7_writeTo_57 : decode cX7_writeTo 57 = .ok (.iadd, 1) := by decide +kernel
theorem dX7_writeTo_58 : decode cX7_writeTo 58 = .ok (.iload_n 3, 1) := by decide +kernel
theorem dX7_writeTo_59 : decode cX7_writeTo 59 = .ok (.iadd, 1) := by decide +kernel
theorem dX7_writeTo_60 : decode cX7_writeTo 60 = .ok (.aload_n 0, 1) := by decide +kernel
theorem dX7_writeTo_61 : decode cX7_writeTo 61 = .ok (.getfield 18, 3) := by decide +kernel
theorem dX7_writeTo_64 : decode cX7_writeTo 64 = .ok (.iload_n 3, 1) := by decide +kernel
theorem dX7_writeTo_65 : decode cX7_writeTo 65 = .ok (.invokevirtual 42, 3) := by decide +kernel
theorem dX7_writeTo_68 : decode cX7_writeTo 68 = .ok (.invokevirtual 30, 3) := by decide +kernel
theorem dX7_writeTo_71 : decode cX7_writeTo 71 = .ok (.iinc 3 1, 3) := by decide +kernel
theorem dX7_writeTo_74 : decode cX7_writeTo 74 = .ok (.goto (-46), 3) := by decide +kernel
theorem dX7_writeTo_77 : decode cX7_writeTo 77 = .ok (.iconst 0, 1) := by decide +kernel
theorem dX7_writeTo_78 : decode cX7_writeTo 78 = .ok (.istore_n 3, 1) := by decide +kernel
theorem dX7_writeTo_79 : decode cX7_writeTo 79 = .ok (.iload_n 3, 1) := by decide +kernel
theorem dX7_writeTo_80 : decode cX7_writeTo 80 = .ok (.iconst 4, 1) := by decide +kernel
theorem dX7_writeTo_81 : decode cX7_writeTo 81 = .ok (.if_icmp .ge 29, 3) := by decide +kernel
theorem dX7_writeTo_84 : decode cX7_writeTo 84 = .ok (.aload_n 1, 1) := by decide +kernel
theorem dX7_writeTo_85 : decode cX7_writeTo 85 = .ok (.iload_n 2, 1) := by decide +kernel
theorem dX7_writeTo_86 : decode cX7_writeTo 86 = .ok (.iconst 2, 1) := by decide +kernel
theorem dX7_writeTo_87 : decode cX7_writeTo 87 = .ok (.iadd, 1) := by decide +kernel
theorem dX7_writeTo_88 : decode cX7_writeTo 88 = .ok (.bipush 48, 2) := by decide +kernel
theorem dX7_writeTo_90 : decode cX7_writeTo 90 = .ok (.iadd, 1) := by decide +kernel
theorem dX7_writeTo_91 : decode cX7_writeTo 91 = .ok (.iload_n 3, 1) := by decide +kernel
theorem dX7_writeTo_92 : decode cX7_writeTo 92 = .ok (.iadd, 1) := by decide +kernel
theorem dX7_writeTo_93 : decode cX7_writeTo 93 = .ok (.aload_n 0, 1) := by decide +kernel
theorem dX7_writeTo_94 : decode cX7_writeTo 94 = .ok (.getfield 26, 3) := by decide +kernel
theorem dX7_writeTo_97 : decode cX7_writeTo 97 = .ok (.iload_n 3, 1) := by decide +kernel
theorem dX7_writeTo_98 : decode cX7_writeTo 98 = .ok (.invokevirtual 57, 3) := by decide +kernel
theorem dX7_writeTo_101 : decode cX7_writeTo 101 = .ok (.invokevirtual 30, 3) := by decide +kernel
theorem dX7_writeTo_104 : decode cX7_writeTo 104 = .ok (.iinc 3 1, 3) := by decide +kernel
theorem dX7_writeTo_107 : decode cX7_writeTo 107 = .ok (.goto (-28), 3) := by decide +kernel
theorem dX7_writeTo_110 : decode cX7_writeTo 110 = .ok (.return_, 1) := by decide +kernel
theorem dX7_readFrom_0 : decode cX7_readFrom 0 = .ok (.aload_n 0, 1) := by decide +kernel
theorem dX7_readFrom_1 : decode cX7_readFrom 1 = .ok (.getfield 12, 3) := by decide +kernel
theorem dX7_readFrom_4 : decode cX7_readFrom 4 = .ok (.aload_n 1, 1) := by decide +kernel
theorem dX7_readFrom_5 : decode cX7_readFrom 5 = .ok (.iload_n 2, 1) := by decide +kernel
theorem dX7_readFrom_6 : decode cX7_readFrom 6 = .ok (.invokevirtual 57, 3) := by decide +kernel
theorem dX7_readFrom_9 : decode cX7_readFrom 9 = .ok (.putfield 38, 3) := by decide +kernel
theorem dX7_readFrom_12 : decode cX7_readFrom 12 = .ok (.aload_n 0, 1) := by decide +kernel
theorem dX7_readFrom_13 : decode cX7_readFrom 13 = .ok (.getfield 18, 3) := by decide +kernel
theorem dX7_readFrom_16 : decode cX7_readFrom 16 = .ok (.aload_n 1, 1) := by decide +kernel
theorem dX7_readFrom_17 : decode cX7_readFrom 17 = .ok (.iload_n 2, 1) := by decide +kernel
theorem dX7_readFrom_18 : decode cX7_readFrom 18 = .ok (.iconst 1, 1) := by decide +kernel
theorem dX7_readFrom_19 : decode cX7_readFrom 19 = .ok (.iadd, 1) := by decide +kernel
theorem dX7_readFrom_20 : decode cX7_readFrom 20 = .ok (.invokevirtual 57, 3) := by decide +kernel
theorem dX7_readFrom_23 : decode cX7_readFrom 23 = .ok (.putfield 38, 3) := by decide +kernel
theorem dX7_readFrom_26 : decode cX7_readFrom 26 = .ok (.iconst 0, 1) := by decide +kernel
theorem dX7_readFrom_27 : decode cX7_readFrom 27 = .ok (.istore_n 3, 1) := by decide +kernel
theorem dX7_readFrom_28 : decode cX7_readFrom 28 = .ok (.iload_n 3, 1) := by decide +kernel
theorem dX7_readFrom_29 : decode cX7_readFrom 29 = .ok (.bipush 24, 2) := by decide +kernel
theorem dX7_readFrom_31 : decode cX7_readFrom 31 = .ok (.if_icmp .ge 46, 3) := by decide +kernel
theorem dX7_readFrom_34 : decode cX7_readFrom 34 = .ok (.aload_n 0, 1) := by decide +kernel
theorem dX7_readFrom_35 : decode cX7_readFrom 35 = .ok (.getfield 12, 3) := by decide +kernel
theorem dX7_readFrom_38 : decode cX7_readFrom 38 = .ok (.iload_n 3, 1) := by decide +kernel
theorem dX7_readFrom_39 : decode cX7_readFrom 39 = .ok (.aload_n 1, 1) := by decide +kernel
theorem dX7_readFrom_40 : decode cX7_readFrom 40 = .ok (.iload_n 2, 1) := by decide +kernel
theorem dX7_readFrom_41 : decode cX7_readFrom 41 = .ok (.iconst 2, 1) := by decide +kernel
theorem dX7_readFrom_42 : decode cX7_readFrom 42 = .ok (.iadd, 1) := by decide +kernel
theorem dX7_readFrom_43 : decode cX7_readFrom 43 = .ok (.iload_n 3, 1) := by decide +kernel
theorem dX7_readFrom_44 : decode cX7_readFrom 44 = .ok (.iadd, 1) := by decide +kernel
theorem dX7_readFrom_45 : decode cX7_readFrom 45 = .ok (.invokevirtual 57, 3) := by decide +kernel
theorem dX7_readFrom_48 : decode cX7_readFrom 48 = .ok (.invokevirtual 46, 3) := by decide +kernel
theorem dX7_readFrom_51 : decode cX7_readFrom 51 = .ok (.aload_n 0, 1) := by decide +kernel
theorem dX7_readFrom_52 : decode cX7_readFrom 52 = .ok (.getfield 18, 3) := by decide +kernel
theorem dX7_readFrom_55 : decode cX7_readFrom 55 = .ok (.iload_n 3, 1) := by decide +kernel
theorem dX7_readFrom_56 : decode cX7_readFrom 56 = .ok (.aload_n 1, 1) := by decide +kernel
theorem dX7_readFrom_57 : decode cX7_readFrom 57 = .ok (.iload_n 2, 1) := by decide +kernel
theorem dX7_readFrom_58 : decode cX7_readFrom 58 = .ok (.iconst 2, 1) := by decide +kernel
theorem dX7_readFrom_59 : decode cX7_readFrom 59 = .ok (.iadd, 1) := by decide +kernel
theorem dX7_readFrom_60 : decode cX7_readFrom 60 = .ok (.bipush 24, 2) := by decide +kernel
theorem dX7_readFrom_62 : decode cX7_readFrom 62 = .ok (.iadd, 1) := by decide +kernel
theorem dX7_readFrom_63 : decode cX7_readFrom 63 = .ok (.iload_n 3, 1) := by decide +kernel
theorem dX7_readFrom_64 : decode cX7_readFrom 64 = .ok (.iadd, 1) := by decide +kernel
theorem dX7_readFrom_65 : decode cX7_readFrom 65 = .ok (.invokevirtual 57, 3) := by decide +kernel
theorem dX7_readFrom_68 : decode cX7_readFrom 68 = .ok (.invokevirtual 46, 3) := by decide +kernel
theorem dX7_readFrom_71 : decode cX7_readFrom 71 = .ok (.iinc 3 1, 3) := by decide +kernel
theorem dX7_readFrom_74 : decode cX7_readFrom 74 = .ok (.goto (-46), 3) := by decide +kernel
theorem dX7_readFrom_77 : decode cX7_readFrom 77 = .ok (.iconst 0, 1) := by decide +kernel
theorem dX7_readFrom_78 : decode cX7_readFrom 78 = .ok (.istore_n 3, 1) := by decide +kernel
theorem dX7_readFrom_79 : decode cX7_readFrom 79 = .ok (.iload_n 3, 1) := by decide +kernel
theorem dX7_readFrom_80 : decode cX7_readFrom 80 = .ok (.iconst 4, 1) := by decide +kernel
theorem dX7_readFrom_81 : decode cX7_readFrom 81 = .ok (.if_icmp .ge 29, 3) := by decide +kernel
theorem dX7_readFrom_84 : decode cX7_readFrom 84 = .ok (.aload_n 0, 1) := by decide +kernel
theorem dX7_readFrom_85 : decode cX7_readFrom 85 = .ok (.getfield 26, 3) := by decide +kernel
theorem dX7_readFrom_88 : decode cX7_readFrom 88 = .ok (.iload_n 3, 1) := by decide +kernel
theorem dX7_readFrom_89 : decode cX7_readFrom 89 = .ok (.aload_n 1, 1) := by decide +kernel
theorem dX7_readFrom_90 : decode cX7_readFrom 90 = .ok (.iload_n 2, 1) := by decide +kernel
theorem dX7_readFrom_91 : decode cX7_readFrom 91 = .ok (.iconst 2, 1) := by decide +kernel
theorem dX7_readFrom_92 : decode cX7_readFrom 92 = .ok (.iadd, 1) := by decide +kernel
theorem dX7_readFrom_93 : decode cX7_readFrom 93 = .ok (.bipush 48, 2) := by decide +kernel
theorem dX7_readFrom_95 : decode cX7_readFrom 95 = .ok (.iadd, 1) := by decide +kernel
theorem dX7_readFrom_96 : decode cX7_readFrom 96 = .ok (.iload_n 3, 1) := by decide +kernel
theorem dX7_readFrom_97 : decode cX7_readFrom 97 = .ok (.iadd, 1) := by decide +kernel
theorem dX7_readFrom_98 : decode cX7_readFrom 98 = .ok (.invokevirtual 57, 3) := by decide +kernel
theorem dX7_readFrom_101 : decode cX7_readFrom 101 = .ok (.invokevirtual 30, 3) := by decide +kernel
theorem dX7_readFrom_104 : decode cX7_readFrom 104 = .ok (.iinc 3 1, 3) := by decide +kernel
theorem dX7_readFrom_107 : decode cX7_readFrom 107 = .ok (.goto (-28), 3) := by decide +kernel
theorem dX7_readFrom_110 : decode cX7_readFrom 110 = .ok (.return_, 1) := by decide +kernel
theorem dX8_init_0 : decode cX8_init 0 = .ok (.aload_n 0, 1) := by decide +kernel
theorem dX8_init_1 : decode cX8_init 1 = .ok (.invokespecial 3, 3) := by decide +kernel
theorem dX8_init_4 : decode cX8_init 4 = .ok (.aload_n 0, 1) := by decide +kernel
theorem dX8_init_5 : decode cX8_init 5 = .ok (.new 9, 3) := by decide +kernel
theorem dX8_init_8 : decode cX8_init 8 = .ok (.dup, 1) := by decide +kernel
theorem dX8_init_9 : decode cX8_init 9 = .ok (.bipush 60, 2) := by decide +kernel
theorem dX8_init_11 : decode cX8_init 11 = .ok (.invokespecial 11, 3) := by decide +kernel
theorem dX8_init_14 : decode cX8_init 14 = .ok (.putfield 14, 3) := by decide +kernel
theorem dX8_init_17 : decode cX8_init 17 = .ok (.aload_n 0, 1) := by decide +kernel
theorem dX8_init_18 : decode cX8_init 18 = .ok (.iconst 0, 1) := by decide +kernel
theorem dX8_init_19 : decode cX8_init 19 = .ok (.putfield 20, 3) := by decide +kernel
theorem dX8_init_22 : decode cX8_init 22 = .ok (.return_, 1) := by decide +kernel
theorem dX8_size_0 : decode cX8_size 0 = .ok (.aload_n 0, 1) := by decide +kernel
theorem dX8_size_1 : decode cX8_size 1 = .ok (.getfield 20, 3) := by decide +kernel
theorem dX8_size_4 : decode cX8_size 4 = .ok (.ireturn, 1) := by decide +kernel
theorem dX8_codeAt_0 : decode cX8_codeAt 0 = .ok (.aload_n 0, 1) := by decide +kernel
theorem dX8_codeAt_1 : decode cX8_codeAt 1 = .ok (.getfield 14, 3) := by decide +kernel
theorem dX8_codeAt_4 : decode cX8_codeAt 4 = .ok (.iload_n 1, 1) := by decide +kernel
theorem dX8_codeAt_5 : decode cX8_codeAt 5 = .ok (.invokevirtual 24, 3) := by decide +kernel
theorem dX8_codeAt_8 : decode cX8_codeAt 8 = .ok (.ireturn, 1) := by decide +kernel
theorem dX8_add_0 : decode cX8_add 0 = .ok (.aload_n 0, 1) := by decide +kernel
theorem dX8_add_1 : decode cX8_add 1 = .ok (.getfield 20, 3) := by decide +kernel
theorem dX8_add_4 : decode cX8_add 4 = .ok (.bipush 60, 2) := by decide +kernel
theorem dX8_add_6 : decode cX8_add 6 = .ok (.if_icmp .ge 25, 3) := by decide +kernel
theorem dX8_add_9 : decode cX8_add 9 = .ok (.aload_n 0, 1) := by decide +kernel
theorem dX8_add_10 : decode cX8_add 10 = .ok (.getfield 14, 3) := by decide +kernel
theorem dX8_add_13 : decode cX8_add 13 = .ok (.aload_n 0, 1) := by decide +kernel
theorem dX8_add_14 : decode cX8_add 14 = .ok (.getfield 20, 3) := by decide +kernel
theorem dX8_add_17 : decode cX8_add 17 = .ok (.iload_n 1, 1) := by decide +kernel
theorem dX8_add_18 : decode cX8_add 18 = .ok (.invokevirtual 28, 3) := by decide +kernel
theorem dX8_add_21 : decode cX8_add 21 = .ok (.aload_n 0, 1) := by decide +kernel
theorem dX8_add_22 : decode cX8_add 22 = .ok (.dup, 1) := by decide +kernel
theorem dX8_add_23 : decode cX8_add 23 = .ok (.getfield 20, 3) := by decide +kernel
theorem dX8_add_26 : decode cX8_add 26 = .ok (.iconst 1, 1) := by decide +kernel
theorem dX8_add_27 : decode cX8_add 27 = .ok (.iadd, 1) := by decide +kernel
theorem dX8_add_28 : decode cX8_add 28 = .ok (.putfield 20, 3) := by decide +kernel
theorem dX8_add_31 : decode cX8_add 31 = .ok (.return_, 1) := by decide +kernel
theorem dX8_clear_0 : decode cX8_clear 0 = .ok (.aload_n 0, 1) := by decide +kernel
theorem dX8_clear_1 : decode cX8_clear 1 = .ok (.iconst 0, 1) := by decide +kernel
theorem dX8_clear_2 : decode cX8_clear 2 = .ok (.putfield 20, 3) := by decide +kernel
theorem dX8_clear_5 : decode cX8_clear 5 = .ok (.return_, 1) := by decide +kernel
theorem dX8_isLetter_0 : decode cX8_isLetter 0 = .ok (.iload_n 0, 1) := by decide +kernel
theorem dX8_isLetter_1 : decode cX8_isLetter 1 = .ok (.bipush 97, 2) := by decide +kernel
theorem dX8_isLetter_3 : decode cX8_isLetter 3 = .ok (.if_icmp .lt 13, 3) := by decide +kernel
theorem dX8_isLetter_6 : decode cX8_isLetter 6 = .ok (.iload_n 0, 1) := by decide +kernel
theorem dX8_isLetter_7 : decode cX8_isLetter 7 = .ok (.bipush 100, 2) := by decide +kernel
theorem dX8_isLetter_9 : decode cX8_isLetter 9 = .ok (.if_icmp .gt 7, 3) := by decide +kernel
theorem dX8_isLetter_12 : decode cX8_isLetter 12 = .ok (.iconst 1, 1) := by decide +kernel
theorem dX8_isLetter_13 : decode cX8_isLetter 13 = .ok (.goto 4, 3) := by decide +kernel
theorem dX8_isLetter_16 : decode cX8_isLetter 16 = .ok (.iconst 0, 1) := by decide +kernel
theorem dX8_isLetter_17 : decode cX8_isLetter 17 = .ok (.ireturn, 1) := by decide +kernel
theorem dX8_isNumber_0 : decode cX8_isNumber 0 = .ok (.iload_n 0, 1) := by decide +kernel
theorem dX8_isNumber_1 : decode cX8_isNumber 1 = .ok (.bipush 50, 2) := by decide +kernel
theorem dX8_isNumber_3 : decode cX8_isNumber 3 = .ok (.if_icmp .lt 13, 3) := by decide +kernel
theorem dX8_isNumber_6 : decode cX8_isNumber 6 = .ok (.iload_n 0, 1) := by decide +kernel
theorem dX8_isNumber_7 : decode cX8_isNumber 7 = .ok (.bipush 57, 2) := by decide +kernel
theorem dX8_isNumber_9 : decode cX8_isNumber 9 = .ok (.if_icmp .gt 7, 3) := by decide +kernel
theorem dX8_isNumber_12 : decode cX8_isNumber 12 = .ok (.iconst 1, 1) := by decide +kernel
theorem dX8_isNumber_13 : decode cX8_isNumber 13 = .ok (.goto 4, 3) := by decide +kernel
theorem dX8_isNumber_16 : decode cX8_isNumber 16 = .ok (.iconst 0, 1) := by decide +kernel
theorem dX8_isNumber_17 : decode cX8_isNumber 17 = .ok (.ireturn, 1) := by decide +kernel
theorem dX8_faultPlace_0 : decode cX8_faultPlace 0 = .ok (.iconst 0, 1) := by decide +kernel
theorem dX8_faultPlace_1 : decode cX8_faultPlace 1 = .ok (.istore_n 1, 1) := by decide +kernel
theorem dX8_faultPlace_2 : decode cX8_faultPlace 2 = .ok (.iconst 1, 1) := by decide +kernel
theorem dX8_faultPlace_3 : decode cX8_faultPlace 3 = .ok (.istore_n 2, 1) := by decide +kernel
theorem dX8_faultPlace_4 : decode cX8_faultPlace 4 = .ok (.iconst 0, 1) := by decide +kernel
theorem dX8_faultPlace_5 : decode cX8_faultPlace 5 = .ok (.istore_n 3, 1) := by decide +kernel
theorem dX8_faultPlace_6 : decode cX8_faultPlace 6 = .ok (.iconst 0, 1) := by decide +kernel
theorem dX8_faultPlace_7 : decode cX8_faultPlace 7 = .ok (.istore 4, 2) := by decide +kernel
theorem dX8_faultPlace_9 : decode cX8_faultPlace 9 = .ok (.iload 4, 2) := by decide +kernel
theorem dX8_faultPlace_11 : decode cX8_faultPlace 11 = .ok (.aload_n 0, 1) := by decide +kernel
theorem dX8_faultPlace_12 : decode cX8_faultPlace 12 = .ok (.getfield 20, 3) := by decide +kernel
theorem dX8_faultPlace_15 : decode cX8_faultPlace 15 = .ok (.if_icmp .ge 106, 3) := by decide +kernel
theorem dX8_faultPlace_18 : decode cX8_faultPlace 18 = .ok (.aload_n 0, 1) := by decide +kernel
theorem dX8_faultPlace_19 : decode cX8_faultPlace 19 = .ok (.getfield 14, 3) := by decide +kernel
theorem dX8_faultPlace_22 : decode cX8_faultPlace 22 = .ok (.iload 4, 2) := by decide +kernel
theorem dX8_faultPlace_24 : decode cX8_faultPlace 24 = .ok (.invokevirtual 24, 3) := by decide +kernel
theorem dX8_faultPlace_27 : decode cX8_faultPlace 27 = .ok (.istore 5, 2) := by decide +kernel
theorem dX8_faultPlace_29 : decode cX8_faultPlace 29 = .ok (.iload 5, 2) := by decide +kernel
theorem dX8_faultPlace_31 : decode cX8_faultPlace 31 = .ok (.invokestatic 32, 3) := by decide +kernel
theorem dX8_faultPlace_34 : decode cX8_faultPlace 34 = .ok (.ifCond .eq 17, 3) := by decide +kernel
theorem dX8_faultPlace_37 : decode cX8_faultPlace 37 = .ok (.iload_n 1, 1) := by decide +kernel
theorem dX8_faultPlace_38 : decode cX8_faultPlace 38 = .ok (.bipush 24, 2) := by decide +kernel
theorem dX8_faultPlace_40 : decode cX8_faultPlace 40 = .ok (.if_icmp .ge 11, 3) := by decide +kernel
theorem dX8_faultPlace_43 : decode cX8_faultPlace 43 = .ok (.iinc 1 1, 3) := by decide +kernel
theorem dX8_faultPlace_46 : decode cX8_faultPlace 46 = .ok (.iconst 1, 1) := by decide +kernel
theorem dX8_faultPlace_47 : decode cX8_faultPlace 47 = .ok (.istore_n 3, 1) := by decide +kernel
theorem dX8_faultPlace_48 : decode cX8_faultPlace 48 = .ok (.goto 67, 3) := by decide +kernel
theorem dX8_faultPlace_51 : decode cX8_faultPlace 51 = .ok (.iload 5, 2) := by decide +kernel
theorem dX8_faultPlace_53 : decode cX8_faultPlace 53 = .ok (.invokestatic 36, 3) := by decide +kernel
theorem dX8_faultPlace_56 : decode cX8_faultPlace 56 = .ok (.ifCond .eq 36, 3) := by decide +kernel
theorem dX8_faultPlace_59 : decode cX8_faultPlace 59 = .ok (.iload_n 3, 1) := by decide +kernel
theorem dX8_faultPlace_60 : decode cX8_faultPlace 60 = .ok (.ifCond .eq 32, 3) := by decide +kernel
theorem dX8_faultPlace_63 : decode cX8_faultPlace 63 = .ok (.iload_n 1, 1) := by decide +kernel
theorem dX8_faultPlace_64 : decode cX8_faultPlace 64 = .ok (.iconst 1, 1) := by decide +kernel
theorem dX8_faultPlace_65 : decode cX8_faultPlace 65 = .ok (.isub, 1) := by decide +kernel
theorem dX8_faultPlace_66 : decode cX8_faultPlace 66 = .ok (.iload 5, 2) := by decide +kernel
theorem dX8_faultPlace_68 : decode cX8_faultPlace 68 = .ok (.iadd, 1) := by decide +kernel
theorem dX8_faultPlace_69 : decode cX8_faultPlace 69 = .ok (.bipush 48, 2) := by decide +kernel
theorem dX8_faultPlace_71 : decode cX8_faultPlace 71 = .ok (.isub, 1) := by decide +kernel
theorem dX8_faultPlace_72 : decode cX8_faultPlace 72 = .ok (.bipush 24, 2) := by decide +kernel
theorem dX8_faultPlace_74 : decode cX8_faultPlace 74 = .ok (.if_icmp .gt 18, 3) := by decide +kernel
theorem dX8_faultPlace_77 : decode cX8_faultPlace 77 = .ok (.iload_n 1, 1) := by decide +kernel
theorem dX8_faultPlace_78 : decode cX8_faultPlace 78 = .ok (.iload 5, 2) := by decide +kernel
theorem dX8_faultPlace_80 : decode cX8_faultPlace 80 = .ok (.bipush 48, 2) := by decide +kernel
theorem dX8_faultPlace_82 : decode cX8_faultPlace 82 = .ok (.isub, 1) := by decide +kernel
theorem dX8_faultPlace_83 : decode cX8_faultPlace 83 = .ok (.iconst 1, 1) := by decide +kernel
theorem dX8_faultPlace_84 : decode cX8_faultPlace 84 = .ok (.isub, 1) := by decide +kernel
theorem dX8_faultPlace_85 : decode cX8_faultPlace 85 = .ok (.iadd, 1) := by decide +kernel
theorem dX8_faultPlace_86 : decode cX8_faultPlace 86 = .ok (.istore_n 1, 1) := by decide +kernel
theorem dX8_faultPlace_87 : decode cX8_faultPlace 87 = .ok (.iconst 0, 1) := by decide +kernel
theorem dX8_faultPlace_88 : decode cX8_faultPlace 88 = .ok (.istore_n 3, 1) := by decide +kernel
theorem dX8_faultPlace_89 : decode cX8_faultPlace 89 = .ok (.goto 26, 3) := by decide +kernel
theorem dX8_faultPlace_92 : decode cX8_faultPlace 92 = .ok (.iload 5, 2) := by decide +kernel
theorem dX8_faultPlace_94 : decode cX8_faultPlace 94 = .ok (.bipush 47, 2) := by decide +kernel
theorem dX8_faultPlace_96 : decode cX8_faultPlace 96 = .ok (.if_icmp .ne 16, 3) := by decide +kernel
theorem dX8_faultPlace_99 : decode cX8_faultPlace 99 = .ok (.iload_n 2, 1) := by decide +kernel
theorem dX8_faultPlace_100 : decode cX8_faultPlace 100 = .ok (.ifCond .eq 12, 3) := by decide +kernel
theorem dX8_faultPlace_103 : decode cX8_faultPlace 103 = .ok (.iconst 0, 1) := by decide +kernel
theorem dX8_faultPlace_104 : decode cX8_faultPlace 104 = .ok (.istore_n 1, 1) := by decide +kernel
theorem dX8_faultPlace_105 : decode cX8_faultPlace 105 = .ok (.iconst 0, 1) := by decide +kernel
theorem dX8_faultPlace_106 : decode cX8_faultPlace 106 = .ok (.istore_n 2, 1) := by decide +kernel
theorem dX8_faultPlace_107 : decode cX8_faultPlace 107 = .ok (.iconst 0, 1) := by decide +kernel
theorem dX8_faultPlace_108 : decode cX8_faultPlace 108 = .ok (.istore_n 3, 1) := by decide +kernel
theorem dX8_faultPlace_109 : decode cX8_faultPlace 109 = .ok (.goto 6, 3) := by decide +kernel
theorem dX8_faultPlace_112 : decode cX8_faultPlace 112 = .ok (.iload 4, 2) := by decide +kernel
theorem dX8_faultPlace_114 : decode cX8_faultPlace 114 = .ok (.ireturn, 1) := by decide +kernel
theorem dX8_faultPlace_115 : decode cX8_faultPlace 115 = .ok (.iinc 4 1, 3) := by decide +kernel
theorem dX8_faultPlace_118 : decode cX8_faultPlace 118 = .ok (.goto (-109), 3) := by decide +kernel
theorem dX8_faultPlace_121 : decode cX8_faultPlace 121 = .ok (.aload_n 0, 1) := by decide +kernel
theorem dX8_faultPlace_122 : decode cX8_faultPlace 122 = .ok (.getfield 20, 3) := by decide +kernel
theorem dX8_faultPlace_125 : decode cX8_faultPlace 125 = .ok (.ireturn, 1) := by decide +kernel
theorem dX8_isPairOfRows_0 : decode cX8_isPairOfRows 0 = .ok (.iconst 0, 1) := by decide +kernel
theorem dX8_isPairOfRows_1 : decode cX8_isPairOfRows 1 = .ok (.istore_n 1, 1) := by decide +kernel
theorem dX8_isPairOfRows_2 : decode cX8_isPairOfRows 2 = .ok (.iconst 0, 1) := by decide +kernel
theorem dX8_isPairOfRows_3 : decode cX8_isPairOfRows 3 = .ok (.istore_n 2, 1) := by decide +kernel
theorem dX8_isPairOfRows_4 : decode cX8_isPairOfRows 4 = .ok (.iload_n 2, 1) := by decide +kernel
theorem dX8_isPairOfRows_5 : decode cX8_isPairOfRows 5 = .ok (.aload_n 0, 1) := by decide +kernel
theorem dX8_isPairOfRows_6 : decode cX8_isPairOfRows 6 = .ok (.getfield 20, 3) := by decide +kernel
theorem dX8_isPairOfRows_9 : decode cX8_isPairOfRows 9 = .ok (.if_icmp .ge 32, 3) := by decide +kernel
theorem dX8_isPairOfRows_12 : decode cX8_isPairOfRows 12 = .ok (.iload_n 1, 1) := by decide +kernel
theorem dX8_isPairOfRows_13 : decode cX8_isPairOfRows 13 = .ok (.ifCond .ne 16, 3) := by decide +kernel
theorem dX8_isPairOfRows_16 : decode cX8_isPairOfRows 16 = .ok (.aload_n 0, 1) := by decide +kernel
theorem dX8_isPairOfRows_17 : decode cX8_isPairOfRows 17 = .ok (.getfield 14, 3) := by decide +kernel
theorem dX8_isPairOfRows_20 : decode cX8_isPairOfRows 20 = .ok (.iload_n 2, 1) := by decide +kernel
theorem dX8_isPairOfRows_21 : decode cX8_isPairOfRows 21 = .ok (.invokevirtual 24, 3) := by decide +kernel
theorem dX8_isPairOfRows_24 : decode cX8_isPairOfRows 24 = .ok (.bipush 47, 2) := by decide +kernel
theorem dX8_isPairOfRows_26 : decode cX8_isPairOfRows 26 = .ok (.if_icmp .ne 7, 3) := by decide +kernel
theorem dX8_isPairOfRows_29 : decode cX8_isPairOfRows 29 = .ok (.iconst 1, 1) := by decide +kernel
theorem dX8_isPairOfRows_30 : decode cX8_isPairOfRows 30 = .ok (.goto 4, 3) := by decide +kernel
theorem dX8_isPairOfRows_33 : decode cX8_isPairOfRows 33 = .ok (.iconst 0, 1) := by decide +kernel
theorem dX8_isPairOfRows_34 : decode cX8_isPairOfRows 34 = .ok (.istore_n 1, 1) := by decide +kernel
theorem dX8_isPairOfRows_35 : decode cX8_isPairOfRows 35 = .ok (.iinc 2 1, 3) := by decide +kernel
theorem dX8_isPairOfRows_38 : decode cX8_isPairOfRows 38 = .ok (.goto (-34), 3) := by decide +kernel
theorem dX8_isPairOfRows_41 : decode cX8_isPairOfRows 41 = .ok (.iload_n 1, 1) := by decide +kernel
theorem dX8_isPairOfRows_42 : decode cX8_isPairOfRows 42 = .ok (.ifCond .eq 18, 3) := by decide +kernel
theorem dX8_isPairOfRows_45 : decode cX8_isPairOfRows 45 = .ok (.aload_n 0, 1) := by decide +kernel
theorem dX8_isPairOfRows_46 : decode cX8_isPairOfRows 46 = .ok (.invokevirtual 39, 3) := by decide +kernel
theorem dX8_isPairOfRows_49 : decode cX8_isPairOfRows 49 = .ok (.aload_n 0, 1) := by decide +kernel
theorem dX8_isPairOfRows_50 : decode cX8_isPairOfRows 50 = .ok (.getfield 20, 3) := by decide +kernel
theorem dX8_isPairOfRows_53 : decode cX8_isPairOfRows 53 = .ok (.if_icmp .ne 7, 3) := by decide +kernel
theorem dX8_isPairOfRows_56 : decode cX8_isPairOfRows 56 = .ok (.iconst 1, 1) := by decide +kernel
theorem dX8_isPairOfRows_57 : decode cX8_isPairOfRows 57 = .ok (.goto 4, 3) := by decide +kernel
theorem dX8_isPairOfRows_60 : decode cX8_isPairOfRows 60 = .ok (.iconst 0, 1) := by decide +kernel
theorem dX8_isPairOfRows_61 : decode cX8_isPairOfRows 61 = .ok (.ireturn, 1) := by decide +kernel
theorem dX8_writeRows_0 : decode cX8_writeRows 0 = .ok (.aload_n 1, 1) := by decide +kernel
theorem dX8_writeRows_1 : decode cX8_writeRows 1 = .ok (.getfield 43, 3) := by decide +kernel
theorem dX8_writeRows_4 : decode cX8_writeRows 4 = .ok (.invokevirtual 49, 3) := by decide +kernel
theorem dX8_writeRows_7 : decode cX8_writeRows 7 = .ok (.aload_n 1, 1) := by decide +kernel
theorem dX8_writeRows_8 : decode cX8_writeRows 8 = .ok (.getfield 54, 3) := by decide +kernel
theorem dX8_writeRows_11 : decode cX8_writeRows 11 = .ok (.invokevirtual 49, 3) := by decide +kernel
theorem dX8_writeRows_14 : decode cX8_writeRows 14 = .ok (.aload_n 1, 1) := by decide +kernel
theorem dX8_writeRows_15 : decode cX8_writeRows 15 = .ok (.getfield 43, 3) := by decide +kernel
theorem dX8_writeRows_18 : decode cX8_writeRows 18 = .ok (.astore_n 2, 1) := by decide +kernel
theorem dX8_writeRows_19 : decode cX8_writeRows 19 = .ok (.iconst 0, 1) := by decide +kernel
theorem dX8_writeRows_20 : decode cX8_writeRows 20 = .ok (.istore_n 3, 1) := by decide +kernel
theorem dX8_writeRows_21 : decode cX8_writeRows 21 = .ok (.iload_n 3, 1) := by decide +kernel
theorem dX8_writeRows_22 : decode cX8_writeRows 22 = .ok (.aload_n 0, 1) := by decide +kernel
theorem dX8_writeRows_23 : decode cX8_writeRows 23 = .ok (.getfield 20, 3) := by decide +kernel
theorem dX8_writeRows_26 : decode cX8_writeRows 26 = .ok (.if_icmp .ge 66, 3) := by decide +kernel
theorem dX8_writeRows_29 : decode cX8_writeRows 29 = .ok (.aload_n 0, 1) := by decide +kernel
theorem dX8_writeRows_30 : decode cX8_writeRows 30 = .ok (.getfield 14, 3) := by decide +kernel
theorem dX8_writeRows_33 : decode cX8_writeRows 33 = .ok (.iload_n 3, 1) := by decide +kernel
theorem dX8_writeRows_34 : decode cX8_writeRows 34 = .ok (.invokevirtual 24, 3) := by decide +kernel
theorem dX8_writeRows_37 : decode cX8_writeRows 37 = .ok (.istore 4, 2) := by decide +kernel
theorem dX8_writeRows_39 : decode cX8_writeRows 39 = .ok (.iload 4, 2) := by decide +kernel
theorem dX8_writeRows_41 : decode cX8_writeRows 41 = .ok (.invokestatic 32, 3) := by decide +kernel
theorem dX8_writeRows_44 : decode cX8_writeRows 44 = .ok (.ifCond .eq 15, 3) := by decide +kernel
theorem dX8_writeRows_47 : decode cX8_writeRows 47 = .ok (.aload_n 2, 1) := by decide +kernel
theorem dX8_writeRows_48 : decode cX8_writeRows 48 = .ok (.iload 4, 2) := by decide +kernel
theorem dX8_writeRows_50 : decode cX8_writeRows 50 = .ok (.bipush 97, 2) := by decide +kernel
theorem dX8_writeRows_52 : decode cX8_writeRows 52 = .ok (.isub, 1) := by decide +kernel
theorem dX8_writeRows_53 : decode cX8_writeRows 53 = .ok (.invokevirtual 57, 3) := by decide +kernel
theorem dX8_writeRows_56 : decode cX8_writeRows 56 = .ok (.goto 30, 3) := by decide +kernel
theorem dX8_writeRows_59 : decode cX8_writeRows 59 = .ok (.iload 4, 2) := by decide +kernel
theorem dX8_writeRows_61 : decode cX8_writeRows 61 = .ok (.invokestatic 36, 3) := by decide +kernel
theorem dX8_writeRows_64 : decode cX8_writeRows 64 = .ok (.ifCond .eq 17, 3) := by decide +kernel
theorem dX8_writeRows_67 : decode cX8_writeRows 67 = .ok (.aload_n 2, 1) := by decide +kernel
theorem dX8_writeRows_68 : decode cX8_writeRows 68 = .ok (.iload 4, 2) := by decide +kernel
theorem dX8_writeRows_70 : decode cX8_writeRows 70 = .ok (.bipush 48, 2) := by decide +kernel
theorem dX8_writeRows_72 : decode cX8_writeRows 72 = .ok (.isub, 1) := by decide +kernel
theorem dX8_writeRows_73 : decode cX8_writeRows 73 = .ok (.iconst 1, 1) := by decide +kernel
theorem dX8_writeRows_74 : decode cX8_writeRows 74 = .ok (.isub, 1) := by decide +kernel
theorem dX8_writeRows_75 : decode cX8_writeRows 75 = .ok (.invokestatic 60, 3) := by decide +kernel
theorem dX8_writeRows_78 : decode cX8_writeRows 78 = .ok (.goto 8, 3) := by decide +kernel
theorem dX8_writeRows_81 : decode cX8_writeRows 81 = .ok (.aload_n 1, 1) := by decide +kernel
theorem dX8_writeRows_82 : decode cX8_writeRows 82 = .ok (.getfield 54, 3) := by decide +kernel
theorem dX8_writeRows_85 : decode cX8_writeRows 85 = .ok (.astore_n 2, 1) := by decide +kernel
theorem dX8_writeRows_86 : decode cX8_writeRows 86 = .ok (.iinc 3 1, 3) := by decide +kernel
theorem dX8_writeRows_89 : decode cX8_writeRows 89 = .ok (.goto (-68), 3) := by decide +kernel
theorem dX8_writeRows_92 : decode cX8_writeRows 92 = .ok (.return_, 1) := by decide +kernel
theorem dX8_repeatLast_0 : decode cX8_repeatLast 0 = .ok (.aload_n 0, 1) := by decide +kernel
theorem dX8_repeatLast_1 : decode cX8_repeatLast 1 = .ok (.aload_n 0, 1) := by decide +kernel
theorem dX8_repeatLast_2 : decode cX8_repeatLast 2 = .ok (.invokevirtual 64, 3) := by decide +kernel
theorem dX8_repeatLast_5 : decode cX8_repeatLast 5 = .ok (.iconst 1, 1) := by decide +kernel
theorem dX8_repeatLast_6 : decode cX8_repeatLast 6 = .ok (.isub, 1) := by decide +kernel
theorem dX8_repeatLast_7 : decode cX8_repeatLast 7 = .ok (.invokevirtual 67, 3) := by decide +kernel
theorem dX8_repeatLast_10 : decode cX8_repeatLast 10 = .ok (.istore_n 2, 1) := by decide +kernel
theorem dX8_repeatLast_11 : decode cX8_repeatLast 11 = .ok (.iconst 0, 1) := by decide +kernel
theorem dX8_repeatLast_12 : decode cX8_repeatLast 12 = .ok (.istore_n 3, 1) := by decide +kernel
theorem dX8_repeatLast_13 : decode cX8_repeatLast 13 = .ok (.iload_n 3, 1) := by decide +kernel
theorem dX8_repeatLast_14 : decode cX8_repeatLast 14 = .ok (.iload_n 1, 1) := by decide +kernel
theorem dX8_repeatLast_15 : decode cX8_repeatLast 15 = .ok (.if_icmp .ge 14, 3) := by decide +kernel
theorem dX8_repeatLast_18 : decode cX8_repeatLast 18 = .ok (.aload_n 0, 1) := by decide +kernel
theorem dX8_repeatLast_19 : decode cX8_repeatLast 19 = .ok (.iload_n 2, 1) := by decide +kernel
theorem dX8_repeatLast_20 : decode cX8_repeatLast 20 = .ok (.invokevirtual 57, 3) := by decide +kernel
theorem dX8_repeatLast_23 : decode cX8_repeatLast 23 = .ok (.iinc 3 1, 3) := by decide +kernel
theorem dX8_repeatLast_26 : decode cX8_repeatLast 26 = .ok (.goto (-13), 3) := by decide +kernel
theorem dX8_repeatLast_29 : decode cX8_repeatLast 29 = .ok (.return_, 1) := by decide +kernel
theorem dX9_init_0 : decode cX9_init 0 = .ok (.aload_n 0, 1) := by decide +kernel
theorem dX9_init_1 : decode cX9_init 1 = .ok (.invokespecial 3, 3) := by decide +kernel
theorem dX9_init_4 : decode cX9_init 4 = .ok (.aload_n 0, 1) := by decide +kernel
theorem dX9_init_5 : decode cX9_init 5 = .ok (.new 9, 3) := by decide +kernel
theorem dX9_init_8 : decode cX9_init 8 = .ok (.dup, 1) := by decide +kernel
theorem dX9_init_9 : decode cX9_init 9 = .ok (.invokespecial 11, 3) := by decide +kernel
theorem dX9_init_12 : decode cX9_init 12 = .ok (.putfield 12, 3) := by decide +kernel
theorem dX9_init_15 : decode cX9_init 15 = .ok (.aload_n 0, 1) := by decide +kernel
theorem dX9_init_16 : decode cX9_init 16 = .ok (.iconst 0, 1) := by decide +kernel
theorem dX9_init_17 : decode cX9_init 17 = .ok (.putfield 18, 3) := by decide +kernel
theorem dX9_init_20 : decode cX9_init 20 = .ok (.aload_n 0, 1) := by decide +kernel
theorem dX9_init_21 : decode cX9_init 21 = .ok (.iconst 0, 1) := by decide +kernel
theorem dX9_init_22 : decode cX9_init 22 = .ok (.putfield 22, 3) := by decide +kernel
theorem dX9_init_25 : decode cX9_init 25 = .ok (.aload_n 0, 1) := by decide +kernel
theorem dX9_init_26 : decode cX9_init 26 = .ok (.new 25, 3) := by decide +kernel
theorem dX9_init_29 : decode cX9_init 29 = .ok (.dup, 1) := by decide +kernel
theorem dX9_init_30 : decode cX9_init 30 = .ok (.bipush 24, 2) := by decide +kernel
theorem dX9_init_32 : decode cX9_init 32 = .ok (.invokespecial 27, 3) := by decide +kernel
theorem dX9_init_35 : decode cX9_init 35 = .ok (.putfield 30, 3) := by decide +kernel
theorem dX9_init_38 : decode cX9_init 38 = .ok (.return_, 1) := by decide +kernel
theorem dX9_find_0 : decode cX9_find 0 = .ok (.aload_n 0, 1) := by decide +kernel
theorem dX9_find_1 : decode cX9_find 1 = .ok (.getfield 12, 3) := by decide +kernel
theorem dX9_find_4 : decode cX9_find 4 = .ok (.aload_n 1, 1) := by decide +kernel
theorem dX9_find_5 : decode cX9_find 5 = .ok (.iconst 1, 1) := by decide +kernel
theorem dX9_find_6 : decode cX9_find 6 = .ok (.invokevirtual 34, 3) := by decide +kernel
theorem dX9_find_9 : decode cX9_find 9 = .ok (.aload_n 0, 1) := by decide +kernel
theorem dX9_find_10 : decode cX9_find 10 = .ok (.iconst 0, 1) := by decide +kernel
theorem dX9_find_11 : decode cX9_find 11 = .ok (.putfield 18, 3) := by decide +kernel
theorem dX9_find_14 : decode cX9_find 14 = .ok (.aload_n 0, 1) := by decide +kernel
theorem dX9_find_15 : decode cX9_find 15 = .ok (.iconst 0, 1) := by decide +kernel
theorem dX9_find_16 : decode cX9_find 16 = .ok (.putfield 22, 3) := by decide +kernel
theorem dX9_find_19 : decode cX9_find 19 = .ok (.iconst 0, 1) := by decide +kernel
theorem dX9_find_20 : decode cX9_find 20 = .ok (.istore_n 2, 1) := by decide +kernel
theorem dX9_find_21 : decode cX9_find 21 = .ok (.iconst 0, 1) := by decide +kernel
theorem dX9_find_22 : decode cX9_find 22 = .ok (.istore_n 3, 1) := by decide +kernel
theorem dX9_find_23 : decode cX9_find 23 = .ok (.iload_n 3, 1) := by decide +kernel
theorem dX9_find_24 : decode cX9_find 24 = .ok (.aload_n 0, 1) := by decide +kernel
theorem dX9_find_25 : decode cX9_find 25 = .ok (.getfield 12, 3) := by decide +kernel
theorem dX9_find_28 : decode cX9_find 28 = .ok (.getfield 38, 3) := by decide +kernel
theorem dX9_find_31 : decode cX9_find 31 = .ok (.if_icmp .ge 105, 3) := by decide +kernel
theorem dX9_find_34 : decode cX9_find 34 = .ok (.iload_n 3, 1) := by decide +kernel
theorem dX9_find_35 : decode cX9_find 35 = .ok (.ifCond .le 34, 3) := by decide +kernel
theorem dX9_find_38 : decode cX9_find 38 = .ok (.aload_n 0, 1) := by decide +kernel
theorem dX9_find_39 : decode cX9_find 39 = .ok (.getfield 12, 3) := by decide +kernel
theorem dX9_find_42 : decode cX9_find 42 = .ok (.getfield 41, 3) := by decide +kernel
theorem dX9_find_45 : decode cX9_find 45 = .ok (.iload_n 3, 1) := by decide +kernel
theorem dX9_find_46 : decode cX9_find 46 = .ok (.invokevirtual 44, 3) := by decide +kernel
theorem dX9_find_49 : decode cX9_find 49 = .ok (.aload_n 0, 1) := by decide +kernel
theorem dX9_find_50 : decode cX9_find 50 = .ok (.getfield 12, 3) := by decide +kernel
theorem dX9_find_53 : decode cX9_find 53 = .ok (.getfield 41, 3) := by decide +kernel
theorem dX9_find_56 : decode cX9_find 56 = .ok (.iload_n 3, 1) := by decide +kernel
theorem dX9_find_57 : decode cX9_find 57 = .ok (.iconst 1, 1) := by decide +kernel
theorem dX9_find_58 : decode cX9_find 58 = .ok (.isub, 1) := by decide +kernel
theorem dX9_find_59 : decode cX9_find 59 = .ok (.invokevirtual 44, 3) := by decide +kernel
theorem dX9_find_62 : decode cX9_find 62 = .ok (.if_icmp .ge 7, 3) := by decide +kernel
theorem dX9_find_65 : decode cX9_find 65 = .ok (.iconst 1, 1) := by decide +kernel
theorem dX9_find_66 : decode cX9_find 66 = .ok (.goto 4, 3) := by decide +kernel
theorem dX9_find_69 : decode cX9_find 69 = .ok (.iconst 0, 1) := by decide +kernel
theorem dX9_find_70 : decode cX9_find 70 = .ok (.istore 4, 2) := by decide +kernel
theorem dX9_find_72 : decode cX9_find 72 = .ok (.iload 4, 2) := by decide +kernel
theorem dX9_find_74 : decode cX9_find 74 = .ok (.ifCond .eq 9, 3) := by decide +kernel
theorem dX9_find_77 : decode cX9_find 77 = .ok (.iload_n 2, 1) := by decide +kernel
theorem dX9_find_78 : decode cX9_find 78 = .ok (.iconst 1, 1) := by decide +kernel
theorem dX9_find_79 : decode cX9_find 79 = .ok (.iadd, 1) := by decide +kernel
theorem dX9_find_80 : decode cX9_find 80 = .ok (.goto 4, 3) := by decide +kernel
theorem dX9_find_83 : decode cX9_find 83 = .ok (.iconst 1, 1) := by decide +kernel
theorem dX9_find_84 : decode cX9_find 84 = .ok (.istore_n 2, 1) := by decide +kernel
theorem dX9_find_85 : decode cX9_find 85 = .ok (.aload_n 0, 1) := by decide +kernel
theorem dX9_find_86 : decode cX9_find 86 = .ok (.dup, 1) := by decide +kernel
theorem dX9_find_87 : decode cX9_find 87 = .ok (.getfield 18, 3) := by decide +kernel
theorem dX9_find_90 : decode cX9_find 90 = .ok (.iload 4, 2) := by decide +kernel
theorem dX9_find_92 : decode cX9_find 92 = .ok (.ifCond .eq 7, 3) := by decide +kernel
theorem dX9_find_95 : decode cX9_find 95 = .ok (.iconst 0, 1) := by decide +kernel
theorem dX9_find_96 : decode cX9_find 96 = .ok (.goto 4, 3) := by decide +kernel
theorem dX9_find_99 : decode cX9_find 99 = .ok (.iconst 1, 1) := by decide +kernel
theorem dX9_find_100 : decode cX9_find 100 = .ok (.iadd, 1) := by decide +kernel
theorem dX9_find_101 : decode cX9_find 101 = .ok (.putfield 18, 3) := by decide +kernel
theorem dX9_find_104 : decode cX9_find 104 = .ok (.aload_n 0, 1) := by decide +kernel
theorem dX9_find_105 : decode cX9_find 105 = .ok (.aload_n 0, 1) := by decide +kernel
theorem dX9_find_106 : decode cX9_find 106 = .ok (.getfield 22, 3) := by decide +kernel
theorem dX9_find_109 : decode cX9_find 109 = .ok (.iload_n 2, 1) := by decide +kernel
theorem dX9_find_110 : decode cX9_find 110 = .ok (.invokestatic 48, 3) := by decide +kernel
theorem dX9_find_113 : decode cX9_find 113 = .ok (.putfield 22, 3) := by decide +kernel
theorem dX9_find_116 : decode cX9_find 116 = .ok (.aload_n 0, 1) := by decide +kernel
theorem dX9_find_117 : decode cX9_find 117 = .ok (.getfield 30, 3) := by decide +kernel
theorem dX9_find_120 : decode cX9_find 120 = .ok (.iload_n 3, 1) := by decide +kernel
theorem dX9_find_121 : decode cX9_find 121 = .ok (.aload_n 0, 1) := by decide +kernel
theorem dX9_find_122 : decode cX9_find 122 = .ok (.getfield 18, 3) := by decide +kernel
theorem dX9_find_125 : decode cX9_find 125 = .ok (.iconst 1, 1) := by decide +kernel
theorem dX9_find_126 : decode cX9_find 126 = .ok (.isub, 1) := by decide +kernel
theorem dX9_find_127 : decode cX9_find 127 = .ok (.invokevirtual 54, 3) := by decide +kernel
theorem dX9_find_130 : decode cX9_find 130 = .ok (.iinc 3 1, 3) := by decide +kernel
theorem dX9_find_133 : decode cX9_find 133 = .ok (.goto (-110), 3) := by decide +kernel
theorem dX9_find_136 : decode cX9_find 136 = .ok (.return_, 1) := by decide +kernel
theorem dX9_property_0 : decode cX9_property 0 = .ok (.iload_n 2, 1) := by decide +kernel
theorem dX9_property_1 : decode cX9_property 1 = .ok (.lookupswitch 51 #[(0, 27), (1, 39)], 27) := by decide +kernel
theorem dX9_property_28 : decode cX9_property 28 = .ok (.aload_n 0, 1) := by decide +kernel
theorem dX9_property_29 : decode cX9_property 29 = .ok (.getfield 12, 3) := by decide +kernel
theorem dX9_property_32 : decode cX9_property 32 = .ok (.getfield 58, 3) := by decide +kernel
theorem dX9_property_35 : decode cX9_property 35 = .ok (.iload_n 1, 1) := by decide +kernel
theorem dX9_property_36 : decode cX9_property 36 = .ok (.invokevirtual 44, 3) := by decide +kernel
theorem dX9_property_39 : decode cX9_property 39 = .ok (.ireturn, 1) := by decide +kernel
theorem dX9_property_40 : decode cX9_property 40 = .ok (.aload_n 0, 1) := by decide +kernel
theorem dX9_property_41 : decode cX9_property 41 = .ok (.getfield 12, 3) := by decide +kernel
theorem dX9_property_44 : decode cX9_property 44 = .ok (.getfield 41, 3) := by decide +kernel
theorem dX9_property_47 : decode cX9_property 47 = .ok (.iload_n 1, 1) := by decide +kernel
theorem dX9_property_48 : decode cX9_property 48 = .ok (.invokevirtual 44, 3) := by decide +kernel
theorem dX9_property_51 : decode cX9_property 51 = .ok (.ireturn, 1) := by decide +kernel
theorem dX9_property_52 : decode cX9_property 52 = .ok (.aload_n 0, 1) := by decide +kernel
theorem dX9_property_53 : decode cX9_property 53 = .ok (.getfield 30, 3) := by decide +kernel
theorem dX9_property_56 : decode cX9_property 56 = .ok (.iload_n 1, 1) := by decide +kernel
theorem dX9_property_57 : decode cX9_property 57 = .ok (.invokevirtual 44, 3) := by decide +kernel
theorem dX9_property_60 : decode cX9_property 60 = .ok (.ireturn, 1) := by decide +kernel
theorem dJxe99ae_isNaN_b9ae7_0 : decode cJxe99ae_isNaN_b9ae7 0 = .ok (.dload_n 0, 1) := by decide +kernel
theorem dJxe99ae_isNaN_b9ae7_1 : decode cJxe99ae_isNaN_b9ae7 1 = .ok (.dload_n 0, 1) := by decide +kernel
theorem dJxe99ae_isNaN_b9ae7_2 : decode cJxe99ae_isNaN_b9ae7 2 = .ok (.dcmp .l, 1) := by decide +kernel
theorem dJxe99ae_isNaN_b9ae7_3 : decode cJxe99ae_isNaN_b9ae7 3 = .ok (.ifCond .eq 7, 3) := by decide +kernel
theorem dJxe99ae_isNaN_b9ae7_6 : decode cJxe99ae_isNaN_b9ae7 6 = .ok (.iconst 1, 1) := by decide +kernel
theorem dJxe99ae_isNaN_b9ae7_7 : decode cJxe99ae_isNaN_b9ae7 7 = .ok (.goto 4, 3) := by decide +kernel
theorem dJxe99ae_isNaN_b9ae7_10 : decode cJxe99ae_isNaN_b9ae7 10 = .ok (.iconst 0, 1) := by decide +kernel
theorem dJxe99ae_isNaN_b9ae7_11 : decode cJxe99ae_isNaN_b9ae7 11 = .ok (.ireturn, 1) := by decide +kernel
theorem dJxe99ae_doubleToLongBits_ccdee_0 : decode cJxe99ae_doubleToLongBits_ccdee 0 = .ok (.dload_n 0, 1) := by decide +kernel
theorem dJxe99ae_doubleToLongBits_ccdee_1 : decode cJxe99ae_doubleToLongBits_ccdee 1 = .ok (.invokestatic 122, 3) := by decide +kernel
theorem dJxe99ae_doubleToLongBits_ccdee_4 : decode cJxe99ae_doubleToLongBits_ccdee 4 = .ok (.ifCond .ne 8, 3) := by decide +kernel
theorem dJxe99ae_doubleToLongBits_ccdee_7 : decode cJxe99ae_doubleToLongBits_ccdee 7 = .ok (.dload_n 0, 1) := by decide +kernel
theorem dJxe99ae_doubleToLongBits_ccdee_8 : decode cJxe99ae_doubleToLongBits_ccdee 8 = .ok (.invokestatic 134, 3) := by decide +kernel
theorem dJxe99ae_doubleToLongBits_ccdee_11 : decode cJxe99ae_doubleToLongBits_ccdee 11 = .ok (.lreturn, 1) := by decide +kernel
theorem dJxe99ae_doubleToLongBits_ccdee_12 : decode cJxe99ae_doubleToLongBits_ccdee 12 = .ok (.ldc2_w 137, 3) := by decide +kernel
theorem dJxe99ae_doubleToLongBits_ccdee_15 : decode cJxe99ae_doubleToLongBits_ccdee 15 = .ok (.lreturn, 1) := by decide +kernel
theorem dJ9_abs_0f7a4_0 : decode cJ9_abs_0f7a4 0 = .ok (.iload_n 0, 1) := by decide +kernel
theorem dJ9_abs_0f7a4_1 : decode cJ9_abs_0f7a4 1 = .ok (.ifCond .ge 8, 3) := by decide +kernel
theorem dJ9_abs_0f7a4_4 : decode cJ9_abs_0f7a4 4 = .ok (.iload_n 0, 1) := by decide +kernel
theorem dJ9_abs_0f7a4_5 : decode cJ9_abs_0f7a4 5 = .ok (.ineg, 1) := by decide +kernel
theorem dJ9_abs_0f7a4_6 : decode cJ9_abs_0f7a4 6 = .ok (.goto 4, 3) := by decide +kernel
theorem dJ9_abs_0f7a4_9 : decode cJ9_abs_0f7a4 9 = .ok (.iload_n 0, 1) := by decide +kernel
theorem dJ9_abs_0f7a4_10 : decode cJ9_abs_0f7a4 10 = .ok (.ireturn, 1) := by decide +kernel
theorem dJ9_max_7cf53_0 : decode cJ9_max_7cf53 0 = .ok (.iload_n 0, 1) := by decide +kernel
theorem dJ9_max_7cf53_1 : decode cJ9_max_7cf53 1 = .ok (.iload_n 1, 1) := by decide +kernel
theorem dJ9_max_7cf53_2 : decode cJ9_max_7cf53 2 = .ok (.if_icmp .lt 7, 3) := by decide +kernel
theorem dJ9_max_7cf53_5 : decode cJ9_max_7cf53 5 = .ok (.iload_n 0, 1) := by decide +kernel
theorem dJ9_max_7cf53_6 : decode cJ9_max_7cf53 6 = .ok (.goto 4, 3) := by decide +kernel
theorem dJ9_max_7cf53_9 : decode cJ9_max_7cf53 9 = .ok (.iload_n 1, 1) := by decide +kernel
theorem dJ9_max_7cf53_10 : decode cJ9_max_7cf53 10 = .ok (.ireturn, 1) := by decide +kernel
theorem dJ9_min_7cf53_0 : decode cJ9_min_7cf53 0 = .ok (.iload_n 0, 1) := by decide +kernel
theorem dJ9_min_7cf53_1 : decode cJ9_min_7cf53 1 = .ok (.iload_n 1, 1) := by decide +kernel
theorem dJ9_min_7cf53_2 : decode cJ9_min_7cf53 2 = .ok (.if_icmp .gt 7, 3) := by decide +kernel
theorem dJ9_min_7cf53_5 : decode cJ9_min_7cf53 5 = .ok (.iload_n 0, 1) := by decide +kernel
theorem dJ9_min_7cf53_6 : decode cJ9_min_7cf53 6 = .ok (.goto 4, 3) := by decide +kernel
theorem dJ9_min_7cf53_9 : decode cJ9_min_7cf53 9 = .ok (.iload_n 1, 1) := by decide +kernel
theorem dJ9_min_7cf53_10 : decode cJ9_min_7cf53 10 = .ok (.ireturn, 1) := by decide +kernel
