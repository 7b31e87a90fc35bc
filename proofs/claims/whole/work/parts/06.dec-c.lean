theorem dX11_init_0 : decode cX11_init 0 = .ok (.aload_n 0, 1) := by decide +kernel
theorem dX11_init_1 : decode cX11_init 1 = .ok (.invokespecial 1, 3) := by decide +kernel
theorem dX11_init_4 : decode cX11_init 4 = .ok (.aload_n 0, 1) := by decide +kernel
theorem dX11_init_5 : decode cX11_init 5 = .ok (.bipush 54, 2) := by decide +kernel
theorem dX11_init_7 : decode cX11_init 7 = .ok (.newarray .int, 2) := by decide +kernel
theorem dX11_init_9 : decode cX11_init 9 = .ok (.putfield 7, 3) := by decide +kernel
theorem dX11_init_12 : decode cX11_init 12 = .ok (.aload_n 0, 1) := by decide +kernel
theorem dX11_init_13 : decode cX11_init 13 = .ok (.sipush 324, 3) := by decide +kernel
theorem dX11_init_16 : decode cX11_init 16 = .ok (.newarray .int, 2) := by decide +kernel
theorem dX11_init_18 : decode cX11_init 18 = .ok (.putfield 13, 3) := by decide +kernel
theorem dX11_init_21 : decode cX11_init 21 = .ok (.aload_n 0, 1) := by decide +kernel
theorem dX11_init_22 : decode cX11_init 22 = .ok (.bipush 100, 2) := by decide +kernel
theorem dX11_init_24 : decode cX11_init 24 = .ok (.newarray .int, 2) := by decide +kernel
theorem dX11_init_26 : decode cX11_init 26 = .ok (.putfield 16, 3) := by decide +kernel
theorem dX11_init_29 : decode cX11_init 29 = .ok (.aload_n 0, 1) := by decide +kernel
theorem dX11_init_30 : decode cX11_init 30 = .ok (.iconst 2, 1) := by decide +kernel
theorem dX11_init_31 : decode cX11_init 31 = .ok (.newarray .int, 2) := by decide +kernel
theorem dX11_init_33 : decode cX11_init 33 = .ok (.putfield 19, 3) := by decide +kernel
theorem dX11_init_36 : decode cX11_init 36 = .ok (.aload_n 0, 1) := by decide +kernel
theorem dX11_init_37 : decode cX11_init 37 = .ok (.bipush 60, 2) := by decide +kernel
theorem dX11_init_39 : decode cX11_init 39 = .ok (.newarray .int, 2) := by decide +kernel
theorem dX11_init_41 : decode cX11_init 41 = .ok (.putfield 22, 3) := by decide +kernel
theorem dX11_init_44 : decode cX11_init 44 = .ok (.aload_n 0, 1) := by decide +kernel
theorem dX11_init_45 : decode cX11_init 45 = .ok (.bipush 24, 2) := by decide +kernel
theorem dX11_init_47 : decode cX11_init 47 = .ok (.newarray .int, 2) := by decide +kernel
theorem dX11_init_49 : decode cX11_init 49 = .ok (.putfield 25, 3) := by decide +kernel
theorem dX11_init_52 : decode cX11_init 52 = .ok (.aload_n 0, 1) := by decide +kernel
theorem dX11_init_53 : decode cX11_init 53 = .ok (.bipush 24, 2) := by decide +kernel
theorem dX11_init_55 : decode cX11_init 55 = .ok (.newarray .int, 2) := by decide +kernel
theorem dX11_init_57 : decode cX11_init 57 = .ok (.putfield 28, 3) := by decide +kernel
theorem dX11_init_60 : decode cX11_init 60 = .ok (.aload_n 0, 1) := by decide +kernel
theorem dX11_init_61 : decode cX11_init 61 = .ok (.bipush 24, 2) := by decide +kernel
theorem dX11_init_63 : decode cX11_init 63 = .ok (.newarray .int, 2) := by decide +kernel
theorem dX11_init_65 : decode cX11_init 65 = .ok (.putfield 31, 3) := by decide +kernel
theorem dX11_init_68 : decode cX11_init 68 = .ok (.aload_n 0, 1) := by decide +kernel
theorem dX11_init_69 : decode cX11_init 69 = .ok (.bipush 24, 2) := by decide +kernel
theorem dX11_init_71 : decode cX11_init 71 = .ok (.newarray .int, 2) := by decide +kernel
theorem dX11_init_73 : decode cX11_init 73 = .ok (.putfield 34, 3) := by decide +kernel
theorem dX11_init_76 : decode cX11_init 76 = .ok (.aload_n 0, 1) := by decide +kernel
theorem dX11_init_77 : decode cX11_init 77 = .ok (.bipush 24, 2) := by decide +kernel
theorem dX11_init_79 : decode cX11_init 79 = .ok (.newarray .int, 2) := by decide +kernel
theorem dX11_init_81 : decode cX11_init 81 = .ok (.putfield 37, 3) := by decide +kernel
theorem dX11_init_84 : decode cX11_init 84 = .ok (.aload_n 0, 1) := by decide +kernel
theorem dX11_init_85 : decode cX11_init 85 = .ok (.bipush 24, 2) := by decide +kernel
theorem dX11_init_87 : decode cX11_init 87 = .ok (.newarray .int, 2) := by decide +kernel
theorem dX11_init_89 : decode cX11_init 89 = .ok (.putfield 40, 3) := by decide +kernel
theorem dX11_init_92 : decode cX11_init 92 = .ok (.aload_n 0, 1) := by decide +kernel
theorem dX11_init_93 : decode cX11_init 93 = .ok (.bipush 24, 2) := by decide +kernel
theorem dX11_init_95 : decode cX11_init 95 = .ok (.newarray .int, 2) := by decide +kernel
theorem dX11_init_97 : decode cX11_init 97 = .ok (.putfield 43, 3) := by decide +kernel
theorem dX11_init_100 : decode cX11_init 100 = .ok (.aload_n 0, 1) := by decide +kernel
theorem dX11_init_101 : decode cX11_init 101 = .ok (.bipush 24, 2) := by decide +kernel
theorem dX11_init_103 : decode cX11_init 103 = .ok (.newarray .int, 2) := by decide +kernel
theorem dX11_init_105 : decode cX11_init 105 = .ok (.putfield 46, 3) := by decide +kernel
theorem dX11_init_108 : decode cX11_init 108 = .ok (.aload_n 0, 1) := by decide +kernel
theorem dX11_init_109 : decode cX11_init 109 = .ok (.bipush 50, 2) := by decide +kernel
theorem dX11_init_111 : decode cX11_init 111 = .ok (.newarray .int, 2) := by decide +kernel
theorem dX11_init_113 : decode cX11_init 113 = .ok (.putfield 49, 3) := by decide +kernel
theorem dX11_init_116 : decode cX11_init 116 = .ok (.aload_n 0, 1) := by decide +kernel
theorem dX11_init_117 : decode cX11_init 117 = .ok (.bipush 50, 2) := by decide +kernel
theorem dX11_init_119 : decode cX11_init 119 = .ok (.newarray .int, 2) := by decide +kernel
theorem dX11_init_121 : decode cX11_init 121 = .ok (.putfield 52, 3) := by decide +kernel
theorem dX11_init_124 : decode cX11_init 124 = .ok (.aload_n 0, 1) := by decide +kernel
theorem dX11_init_125 : decode cX11_init 125 = .ok (.bipush 25, 2) := by decide +kernel
theorem dX11_init_127 : decode cX11_init 127 = .ok (.newarray .int, 2) := by decide +kernel
theorem dX11_init_129 : decode cX11_init 129 = .ok (.putfield 55, 3) := by decide +kernel
theorem dX11_init_132 : decode cX11_init 132 = .ok (.aload_n 0, 1) := by decide +kernel
theorem dX11_init_133 : decode cX11_init 133 = .ok (.bipush 48, 2) := by decide +kernel
theorem dX11_init_135 : decode cX11_init 135 = .ok (.newarray .int, 2) := by decide +kernel
theorem dX11_init_137 : decode cX11_init 137 = .ok (.putfield 58, 3) := by decide +kernel
theorem dX11_init_140 : decode cX11_init 140 = .ok (.aload_n 0, 1) := by decide +kernel
theorem dX11_init_141 : decode cX11_init 141 = .ok (.sipush 625, 3) := by decide +kernel
theorem dX11_init_144 : decode cX11_init 144 = .ok (.newarray .int, 2) := by decide +kernel
theorem dX11_init_146 : decode cX11_init 146 = .ok (.putfield 61, 3) := by decide +kernel
theorem dX11_init_149 : decode cX11_init 149 = .ok (.aload_n 0, 1) := by decide +kernel
theorem dX11_init_150 : decode cX11_init 150 = .ok (.bipush 48, 2) := by decide +kernel
theorem dX11_init_152 : decode cX11_init 152 = .ok (.newarray .int, 2) := by decide +kernel
theorem dX11_init_154 : decode cX11_init 154 = .ok (.putfield 64, 3) := by decide +kernel
theorem dX11_init_157 : decode cX11_init 157 = .ok (.aload_n 0, 1) := by decide +kernel
theorem dX11_init_158 : decode cX11_init 158 = .ok (.iconst 2, 1) := by decide +kernel
theorem dX11_init_159 : decode cX11_init 159 = .ok (.newarray .int, 2) := by decide +kernel
theorem dX11_init_161 : decode cX11_init 161 = .ok (.putfield 67, 3) := by decide +kernel
theorem dX11_init_164 : decode cX11_init 164 = .ok (.aload_n 0, 1) := by decide +kernel
theorem dX11_init_165 : decode cX11_init 165 = .ok (.getfield 7, 3) := by decide +kernel
theorem dX11_init_168 : decode cX11_init 168 = .ok (.iconst 0, 1) := by decide +kernel
theorem dX11_init_169 : decode cX11_init 169 = .ok (.iconst 3, 1) := by decide +kernel
theorem dX11_init_170 : decode cX11_init 170 = .ok (.iastore, 1) := by decide +kernel
theorem dX11_init_171 : decode cX11_init 171 = .ok (.aload_n 0, 1) := by decide +kernel
theorem dX11_init_172 : decode cX11_init 172 = .ok (.getfield 7, 3) := by decide +kernel
theorem dX11_init_175 : decode cX11_init 175 = .ok (.iconst 1, 1) := by decide +kernel
theorem dX11_init_176 : decode cX11_init 176 = .ok (.iconst 2, 1) := by decide +kernel
theorem dX11_init_177 : decode cX11_init 177 = .ok (.iastore, 1) := by decide +kernel
theorem dX11_init_178 : decode cX11_init 178 = .ok (.aload_n 0, 1) := by decide +kernel
theorem dX11_init_179 : decode cX11_init 179 = .ok (.getfield 7, 3) := by decide +kernel
theorem dX11_init_182 : decode cX11_init 182 = .ok (.iconst 2, 1) := by decide +kernel
theorem dX11_init_183 : decode cX11_init 183 = .ok (.iconst 3, 1) := by decide +kernel
theorem dX11_init_184 : decode cX11_init 184 = .ok (.iastore, 1) := by decide +kernel
theorem dX11_init_185 : decode cX11_init 185 = .ok (.aload_n 0, 1) := by decide +kernel
theorem dX11_init_186 : decode cX11_init 186 = .ok (.getfield 7, 3) := by decide +kernel
theorem dX11_init_189 : decode cX11_init 189 = .ok (.iconst 3, 1) := by decide +kernel
theorem dX11_init_190 : decode cX11_init 190 = .ok (.iconst 4, 1) := by decide +kernel
theorem dX11_init_191 : decode cX11_init 191 = .ok (.iastore, 1) := by decide +kernel
theorem dX11_init_192 : decode cX11_init 192 = .ok (.return_, 1) := by decide +kernel
theorem dX11_thrown_0 : decode cX11_thrown 0 = .ok (.aload_n 0, 1) := by decide +kernel
theorem dX11_thrown_1 : decode cX11_thrown 1 = .ok (.getfield 70, 3) := by decide +kernel
theorem dX11_thrown_4 : decode cX11_thrown 4 = .ok (.ireturn, 1) := by decide +kernel
theorem dX11_within_0 : decode cX11_within 0 = .ok (.iload_n 0, 1) := by decide +kernel
theorem dX11_within_1 : decode cX11_within 1 = .ok (.iload_n 1, 1) := by decide +kernel
theorem dX11_within_2 : decode cX11_within 2 = .ok (.if_icmp .lt 12, 3) := by decide +kernel
theorem dX11_within_5 : decode cX11_within 5 = .ok (.iload_n 0, 1) := by decide +kernel
theorem dX11_within_6 : decode cX11_within 6 = .ok (.iload_n 2, 1) := by decide +kernel
theorem dX11_within_7 : decode cX11_within 7 = .ok (.if_icmp .gt 7, 3) := by decide +kernel
theorem dX11_within_10 : decode cX11_within 10 = .ok (.iconst 1, 1) := by decide +kernel
theorem dX11_within_11 : decode cX11_within 11 = .ok (.goto 4, 3) := by decide +kernel
theorem dX11_within_14 : decode cX11_within 14 = .ok (.iconst 0, 1) := by decide +kernel
theorem dX11_within_15 : decode cX11_within 15 = .ok (.ireturn, 1) := by decide +kernel
theorem dX11_save_0 : decode cX11_save 0 = .ok (.aload_n 0, 1) := by decide +kernel
theorem dX11_save_1 : decode cX11_save 1 = .ok (.getfield 74, 3) := by decide +kernel
theorem dX11_save_4 : decode cX11_save 4 = .ok (.bipush 6, 2) := by decide +kernel
theorem dX11_save_6 : decode cX11_save 6 = .ok (.if_icmp .ne 44, 3) := by decide +kernel
theorem dX11_save_9 : decode cX11_save 9 = .ok (.bipush 54, 2) := by decide +kernel
theorem dX11_save_11 : decode cX11_save 11 = .ok (.istore_n 1, 1) := by decide +kernel
theorem dX11_save_12 : decode cX11_save 12 = .ok (.iload_n 1, 1) := by decide +kernel
theorem dX11_save_13 : decode cX11_save 13 = .ok (.sipush 324, 3) := by decide +kernel
theorem dX11_save_16 : decode cX11_save 16 = .ok (.if_icmp .ge 24, 3) := by decide +kernel
theorem dX11_save_19 : decode cX11_save 19 = .ok (.aload_n 0, 1) := by decide +kernel
theorem dX11_save_20 : decode cX11_save 20 = .ok (.getfield 13, 3) := by decide +kernel
theorem dX11_save_23 : decode cX11_save 23 = .ok (.iload_n 1, 1) := by decide +kernel
theorem dX11_save_24 : decode cX11_save 24 = .ok (.bipush 54, 2) := by decide +kernel
theorem dX11_save_26 : decode cX11_save 26 = .ok (.isub, 1) := by decide +kernel
theorem dX11_save_27 : decode cX11_save 27 = .ok (.aload_n 0, 1) := by decide +kernel
theorem dX11_save_28 : decode cX11_save 28 = .ok (.getfield 13, 3) := by decide +kernel
theorem dX11_save_31 : decode cX11_save 31 = .ok (.iload_n 1, 1) := by decide +kernel
theorem dX11_save_32 : decode cX11_save 32 = .ok (.iaload, 1) := by decide +kernel
theorem dX11_save_33 : decode cX11_save 33 = .ok (.iastore, 1) := by decide +kernel
theorem dX11_save_34 : decode cX11_save 34 = .ok (.iinc 1 1, 3) := by decide +kernel
theorem dX11_save_37 : decode cX11_save 37 = .ok (.goto (-25), 3) := by decide +kernel
theorem dX11_save_40 : decode cX11_save 40 = .ok (.aload_n 0, 1) := by decide +kernel
theorem dX11_save_41 : decode cX11_save 41 = .ok (.dup, 1) := by decide +kernel
theorem dX11_save_42 : decode cX11_save 42 = .ok (.getfield 74, 3) := by decide +kernel
theorem dX11_save_45 : decode cX11_save 45 = .ok (.iconst 1, 1) := by decide +kernel
theorem dX11_save_46 : decode cX11_save 46 = .ok (.isub, 1) := by decide +kernel
theorem dX11_save_47 : decode cX11_save 47 = .ok (.putfield 74, 3) := by decide +kernel
theorem dX11_save_50 : decode cX11_save 50 = .ok (.iconst 0, 1) := by decide +kernel
theorem dX11_save_51 : decode cX11_save 51 = .ok (.istore_n 1, 1) := by decide +kernel
theorem dX11_save_52 : decode cX11_save 52 = .ok (.iload_n 1, 1) := by decide +kernel
theorem dX11_save_53 : decode cX11_save 53 = .ok (.bipush 54, 2) := by decide +kernel
theorem dX11_save_55 : decode cX11_save 55 = .ok (.if_icmp .ge 29, 3) := by decide +kernel
theorem dX11_save_58 : decode cX11_save 58 = .ok (.aload_n 0, 1) := by decide +kernel
theorem dX11_save_59 : decode cX11_save 59 = .ok (.getfield 13, 3) := by decide +kernel
theorem dX11_save_62 : decode cX11_save 62 = .ok (.bipush 54, 2) := by decide +kernel
theorem dX11_save_64 : decode cX11_save 64 = .ok (.aload_n 0, 1) := by decide +kernel
theorem dX11_save_65 : decode cX11_save 65 = .ok (.getfield 74, 3) := by decide +kernel
theorem dX11_save_68 : decode cX11_save 68 = .ok (.imul, 1) := by decide +kernel
theorem dX11_save_69 : decode cX11_save 69 = .ok (.iload_n 1, 1) := by decide +kernel
theorem dX11_save_70 : decode cX11_save 70 = .ok (.iadd, 1) := by decide +kernel
theorem dX11_save_71 : decode cX11_save 71 = .ok (.aload_n 0, 1) := by decide +kernel
theorem dX11_save_72 : decode cX11_save 72 = .ok (.getfield 7, 3) := by decide +kernel
theorem dX11_save_75 : decode cX11_save 75 = .ok (.iload_n 1, 1) := by decide +kernel
theorem dX11_save_76 : decode cX11_save 76 = .ok (.iaload, 1) := by decide +kernel
theorem dX11_save_77 : decode cX11_save 77 = .ok (.iastore, 1) := by decide +kernel
theorem dX11_save_78 : decode cX11_save 78 = .ok (.iinc 1 1, 3) := by decide +kernel
theorem dX11_save_81 : decode cX11_save 81 = .ok (.goto (-29), 3) := by decide +kernel
theorem dX11_save_84 : decode cX11_save 84 = .ok (.aload_n 0, 1) := by decide +kernel
theorem dX11_save_85 : decode cX11_save 85 = .ok (.dup, 1) := by decide +kernel
theorem dX11_save_86 : decode cX11_save 86 = .ok (.getfield 74, 3) := by decide +kernel
theorem dX11_save_89 : decode cX11_save 89 = .ok (.iconst 1, 1) := by decide +kernel
theorem dX11_save_90 : decode cX11_save 90 = .ok (.iadd, 1) := by decide +kernel
theorem dX11_save_91 : decode cX11_save 91 = .ok (.putfield 74, 3) := by decide +kernel
theorem dX11_save_94 : decode cX11_save 94 = .ok (.return_, 1) := by decide +kernel
theorem dX11_signs_0 : decode cX11_signs 0 = .ok (.aload_n 0, 1) := by decide +kernel
theorem dX11_signs_1 : decode cX11_signs 1 = .ok (.getfield 7, 3) := by decide +kernel
theorem dX11_signs_4 : decode cX11_signs 4 = .ok (.iconst 4, 1) := by decide +kernel
theorem dX11_signs_5 : decode cX11_signs 5 = .ok (.iload_n 1, 1) := by decide +kernel
theorem dX11_signs_6 : decode cX11_signs 6 = .ok (.iadd, 1) := by decide +kernel
theorem dX11_signs_7 : decode cX11_signs 7 = .ok (.iaload, 1) := by decide +kernel
theorem dX11_signs_8 : decode cX11_signs 8 = .ok (.ireturn, 1) := by decide +kernel
theorem dX11_at_0 : decode cX11_at 0 = .ok (.aload_n 0, 1) := by decide +kernel
theorem dX11_at_1 : decode cX11_at 1 = .ok (.getfield 7, 3) := by decide +kernel
theorem dX11_at_4 : decode cX11_at 4 = .ok (.bipush 6, 2) := by decide +kernel
theorem dX11_at_6 : decode cX11_at 6 = .ok (.bipush 24, 2) := by decide +kernel
theorem dX11_at_8 : decode cX11_at 8 = .ok (.iload_n 1, 1) := by decide +kernel
theorem dX11_at_9 : decode cX11_at 9 = .ok (.imul, 1) := by decide +kernel
theorem dX11_at_10 : decode cX11_at 10 = .ok (.iadd, 1) := by decide +kernel
theorem dX11_at_11 : decode cX11_at 11 = .ok (.iload_n 2, 1) := by decide +kernel
theorem dX11_at_12 : decode cX11_at 12 = .ok (.iadd, 1) := by decide +kernel
theorem dX11_at_13 : decode cX11_at 13 = .ok (.iaload, 1) := by decide +kernel
theorem dX11_at_14 : decode cX11_at 14 = .ok (.ireturn, 1) := by decide +kernel
theorem dX11_lay_0 : decode cX11_lay 0 = .ok (.aload_n 0, 1) := by decide +kernel
theorem dX11_lay_1 : decode cX11_lay 1 = .ok (.getfield 7, 3) := by decide +kernel
theorem dX11_lay_4 : decode cX11_lay 4 = .ok (.bipush 6, 2) := by decide +kernel
theorem dX11_lay_6 : decode cX11_lay 6 = .ok (.bipush 24, 2) := by decide +kernel
theorem dX11_lay_8 : decode cX11_lay 8 = .ok (.iload_n 1, 1) := by decide +kernel
theorem dX11_lay_9 : decode cX11_lay 9 = .ok (.imul, 1) := by decide +kernel
theorem dX11_lay_10 : decode cX11_lay 10 = .ok (.iadd, 1) := by decide +kernel
theorem dX11_lay_11 : decode cX11_lay 11 = .ok (.iload_n 2, 1) := by decide +kernel
theorem dX11_lay_12 : decode cX11_lay 12 = .ok (.iadd, 1) := by decide +kernel
theorem dX11_lay_13 : decode cX11_lay 13 = .ok (.iload_n 3, 1) := by decide +kernel
theorem dX11_lay_14 : decode cX11_lay 14 = .ok (.iastore, 1) := by decide +kernel
theorem dX11_lay_15 : decode cX11_lay 15 = .ok (.return_, 1) := by decide +kernel
theorem dX11_isRow_0 : decode cX11_isRow 0 = .ok (.iload_n 0, 1) := by decide +kernel
theorem dX11_isRow_1 : decode cX11_isRow 1 = .ok (.iconst 0, 1) := by decide +kernel
theorem dX11_isRow_2 : decode cX11_isRow 2 = .ok (.iconst 1, 1) := by decide +kernel
theorem dX11_isRow_3 : decode cX11_isRow 3 = .ok (.invokestatic 77, 3) := by decide +kernel
theorem dX11_isRow_6 : decode cX11_isRow 6 = .ok (.ireturn, 1) := by decide +kernel
theorem dX11_isPlace_0 : decode cX11_isPlace 0 = .ok (.iload_n 1, 1) := by decide +kernel
theorem dX11_isPlace_1 : decode cX11_isPlace 1 = .ok (.invokestatic 81, 3) := by decide +kernel
theorem dX11_isPlace_4 : decode cX11_isPlace 4 = .ok (.ifCond .eq 22, 3) := by decide +kernel
theorem dX11_isPlace_7 : decode cX11_isPlace 7 = .ok (.iload_n 2, 1) := by decide +kernel
theorem dX11_isPlace_8 : decode cX11_isPlace 8 = .ok (.iconst 0, 1) := by decide +kernel
theorem dX11_isPlace_9 : decode cX11_isPlace 9 = .ok (.aload_n 0, 1) := by decide +kernel
theorem dX11_isPlace_10 : decode cX11_isPlace 10 = .ok (.iload_n 1, 1) := by decide +kernel
theorem dX11_isPlace_11 : decode cX11_isPlace 11 = .ok (.invokevirtual 85, 3) := by decide +kernel
theorem dX11_isPlace_14 : decode cX11_isPlace 14 = .ok (.iconst 1, 1) := by decide +kernel
theorem dX11_isPlace_15 : decode cX11_isPlace 15 = .ok (.isub, 1) := by decide +kernel
theorem dX11_isPlace_16 : decode cX11_isPlace 16 = .ok (.invokestatic 77, 3) := by decide +kernel
theorem dX11_isPlace_19 : decode cX11_isPlace 19 = .ok (.ifCond .eq 7, 3) := by decide +kernel
theorem dX11_isPlace_22 : decode cX11_isPlace 22 = .ok (.iconst 1, 1) := by decide +kernel
theorem dX11_isPlace_23 : decode cX11_isPlace 23 = .ok (.goto 4, 3) := by decide +kernel
theorem dX11_isPlace_26 : decode cX11_isPlace 26 = .ok (.iconst 0, 1) := by decide +kernel
theorem dX11_isPlace_27 : decode cX11_isPlace 27 = .ok (.ireturn, 1) := by decide +kernel
theorem dX11_isSign_0 : decode cX11_isSign 0 = .ok (.iload_n 0, 1) := by decide +kernel
theorem dX11_isSign_1 : decode cX11_isSign 1 = .ok (.iconst 0, 1) := by decide +kernel
theorem dX11_isSign_2 : decode cX11_isSign 2 = .ok (.iconst 3, 1) := by decide +kernel
theorem dX11_isSign_3 : decode cX11_isSign 3 = .ok (.invokestatic 77, 3) := by decide +kernel
theorem dX11_isSign_6 : decode cX11_isSign 6 = .ok (.ireturn, 1) := by decide +kernel
theorem dX11_stands_0 : decode cX11_stands 0 = .ok (.iconst 1, 1) := by decide +kernel
theorem dX11_stands_1 : decode cX11_stands 1 = .ok (.istore 5, 2) := by decide +kernel
theorem dX11_stands_3 : decode cX11_stands 3 = .ok (.iconst 0, 1) := by decide +kernel
theorem dX11_stands_4 : decode cX11_stands 4 = .ok (.istore 6, 2) := by decide +kernel
theorem dX11_stands_6 : decode cX11_stands 6 = .ok (.iload 6, 2) := by decide +kernel
theorem dX11_stands_8 : decode cX11_stands 8 = .ok (.aload_n 0, 1) := by decide +kernel
theorem dX11_stands_9 : decode cX11_stands 9 = .ok (.getfield 7, 3) := by decide +kernel
theorem dX11_stands_12 : decode cX11_stands 12 = .ok (.iconst 0, 1) := by decide +kernel
theorem dX11_stands_13 : decode cX11_stands 13 = .ok (.iaload, 1) := by decide +kernel
theorem dX11_stands_14 : decode cX11_stands 14 = .ok (.if_icmp .ge 63, 3) := by decide +kernel
theorem dX11_stands_17 : decode cX11_stands 17 = .ok (.iload 5, 2) := by decide +kernel
theorem dX11_stands_19 : decode cX11_stands 19 = .ok (.ifCond .eq 49, 3) := by decide +kernel
theorem dX11_stands_22 : decode cX11_stands 22 = .ok (.aload_n 0, 1) := by decide +kernel
theorem dX11_stands_23 : decode cX11_stands 23 = .ok (.iload_n 2, 1) := by decide +kernel
theorem dX11_stands_24 : decode cX11_stands 24 = .ok (.iload_n 3, 1) := by decide +kernel
theorem dX11_stands_25 : decode cX11_stands 25 = .ok (.iload 6, 2) := by decide +kernel
theorem dX11_stands_27 : decode cX11_stands 27 = .ok (.iadd, 1) := by decide +kernel
theorem dX11_stands_28 : decode cX11_stands 28 = .ok (.invokevirtual 89, 3) := by decide +kernel
theorem dX11_stands_31 : decode cX11_stands 31 = .ok (.aload_n 0, 1) := by decide +kernel
theorem dX11_stands_32 : decode cX11_stands 32 = .ok (.iconst 0, 1) := by decide +kernel
theorem dX11_stands_33 : decode cX11_stands 33 = .ok (.iload 4, 2) := by decide +kernel
theorem dX11_stands_35 : decode cX11_stands 35 = .ok (.ifCond .eq 19, 3) := by decide +kernel
theorem dX11_stands_38 : decode cX11_stands 38 = .ok (.iload_n 1, 1) := by decide +kernel
theorem dX11_stands_39 : decode cX11_stands 39 = .ok (.aload_n 0, 1) := by decide +kernel
theorem dX11_stands_40 : decode cX11_stands 40 = .ok (.getfield 7, 3) := by decide +kernel
theorem dX11_stands_43 : decode cX11_stands 43 = .ok (.iconst 0, 1) := by decide +kernel
theorem dX11_stands_44 : decode cX11_stands 44 = .ok (.iaload, 1) := by decide +kernel
theorem dX11_stands_45 : decode cX11_stands 45 = .ok (.iadd, 1) := by decide +kernel
theorem dX11_stands_46 : decode cX11_stands 46 = .ok (.iconst 1, 1) := by decide +kernel
theorem dX11_stands_47 : decode cX11_stands 47 = .ok (.isub, 1) := by decide +kernel
theorem dX11_stands_48 : decode cX11_stands 48 = .ok (.iload 6, 2) := by decide +kernel
theorem dX11_stands_50 : decode cX11_stands 50 = .ok (.isub, 1) := by decide +kernel
theorem dX11_stands_51 : decode cX11_stands 51 = .ok (.goto 7, 3) := by decide +kernel
theorem dX11_stands_54 : decode cX11_stands 54 = .ok (.iload_n 1, 1) := by decide +kernel
theorem dX11_stands_55 : decode cX11_stands 55 = .ok (.iload 6, 2) := by decide +kernel
theorem dX11_stands_57 : decode cX11_stands 57 = .ok (.iadd, 1) := by decide +kernel
theorem dX11_stands_58 : decode cX11_stands 58 = .ok (.invokevirtual 89, 3) := by decide +kernel
theorem dX11_stands_61 : decode cX11_stands 61 = .ok (.if_icmp .ne 7, 3) := by decide +kernel
theorem dX11_stands_64 : decode cX11_stands 64 = .ok (.iconst 1, 1) := by decide +kernel
theorem dX11_stands_65 : decode cX11_stands 65 = .ok (.goto 4, 3) := by decide +kernel
theorem dX11_stands_68 : decode cX11_stands 68 = .ok (.iconst 0, 1) := by decide +kernel
theorem dX11_stands_69 : decode cX11_stands 69 = .ok (.istore 5, 2) := by decide +kernel
theorem dX11_stands_71 : decode cX11_stands 71 = .ok (.iinc 6 1, 3) := by decide +kernel
theorem dX11_stands_74 : decode cX11_stands 74 = .ok (.goto (-68), 3) := by decide +kernel
theorem dX11_stands_77 : decode cX11_stands 77 = .ok (.iload 5, 2) := by decide +kernel
theorem dX11_stands_79 : decode cX11_stands 79 = .ok (.ireturn, 1) := by decide +kernel
theorem dX11_onlyPlace_0 : decode cX11_onlyPlace 0 = .ok (.iconst (-1), 1) := by decide +kernel
theorem dX11_onlyPlace_1 : decode cX11_onlyPlace 1 = .ok (.istore 4, 2) := by decide +kernel
theorem dX11_onlyPlace_3 : decode cX11_onlyPlace 3 = .ok (.iconst 0, 1) := by decide +kernel
theorem dX11_onlyPlace_4 : decode cX11_onlyPlace 4 = .ok (.istore 5, 2) := by decide +kernel
theorem dX11_onlyPlace_6 : decode cX11_onlyPlace 6 = .ok (.iconst 0, 1) := by decide +kernel
theorem dX11_onlyPlace_7 : decode cX11_onlyPlace 7 = .ok (.istore 6, 2) := by decide +kernel
theorem dX11_onlyPlace_9 : decode cX11_onlyPlace 9 = .ok (.iload 6, 2) := by decide +kernel
theorem dX11_onlyPlace_11 : decode cX11_onlyPlace 11 = .ok (.aload_n 0, 1) := by decide +kernel
theorem dX11_onlyPlace_12 : decode cX11_onlyPlace 12 = .ok (.getfield 7, 3) := by decide +kernel
theorem dX11_onlyPlace_15 : decode cX11_onlyPlace 15 = .ok (.iconst 0, 1) := by decide +kernel
theorem dX11_onlyPlace_16 : decode cX11_onlyPlace 16 = .ok (.iaload, 1) := by decide +kernel
theorem dX11_onlyPlace_17 : decode cX11_onlyPlace 17 = .ok (.iadd, 1) := by decide +kernel
theorem dX11_onlyPlace_18 : decode cX11_onlyPlace 18 = .ok (.aload_n 0, 1) := by decide +kernel
theorem dX11_onlyPlace_19 : decode cX11_onlyPlace 19 = .ok (.iload_n 2, 1) := by decide +kernel
theorem dX11_onlyPlace_20 : decode cX11_onlyPlace 20 = .ok (.invokevirtual 85, 3) := by decide +kernel
theorem dX11_onlyPlace_23 : decode cX11_onlyPlace 23 = .ok (.if_icmp .gt 28, 3) := by decide +kernel
theorem dX11_onlyPlace_26 : decode cX11_onlyPlace 26 = .ok (.aload_n 0, 1) := by decide +kernel
theorem dX11_onlyPlace_27 : decode cX11_onlyPlace 27 = .ok (.iload_n 1, 1) := by decide +kernel
theorem dX11_onlyPlace_28 : decode cX11_onlyPlace 28 = .ok (.iload_n 2, 1) := by decide +kernel
theorem dX11_onlyPlace_29 : decode cX11_onlyPlace 29 = .ok (.iload 6, 2) := by decide +kernel
theorem dX11_onlyPlace_31 : decode cX11_onlyPlace 31 = .ok (.iload_n 3, 1) := by decide +kernel
theorem dX11_onlyPlace_32 : decode cX11_onlyPlace 32 = .ok (.invokevirtual 93, 3) := by decide +kernel
theorem dX11_onlyPlace_35 : decode cX11_onlyPlace 35 = .ok (.ifCond .eq 10, 3) := by decide +kernel
theorem dX11_onlyPlace_38 : decode cX11_onlyPlace 38 = .ok (.iload 6, 2) := by decide +kernel
theorem dX11_onlyPlace_40 : decode cX11_onlyPlace 40 = .ok (.istore 4, 2) := by decide +kernel
theorem dX11_onlyPlace_42 : decode cX11_onlyPlace 42 = .ok (.iinc 5 1, 3) := by decide +kernel
theorem dX11_onlyPlace_45 : decode cX11_onlyPlace 45 = .ok (.iinc 6 1, 3) := by decide +kernel
theorem dX11_onlyPlace_48 : decode cX11_onlyPlace 48 = .ok (.goto (-39), 3) := by decide +kernel
theorem dX11_onlyPlace_51 : decode cX11_onlyPlace 51 = .ok (.iload 5, 2) := by decide +kernel
theorem dX11_onlyPlace_53 : decode cX11_onlyPlace 53 = .ok (.iconst 1, 1) := by decide +kernel
theorem dX11_onlyPlace_54 : decode cX11_onlyPlace 54 = .ok (.if_icmp .ne 8, 3) := by decide +kernel
theorem dX11_onlyPlace_57 : decode cX11_onlyPlace 57 = .ok (.iload 4, 2) := by decide +kernel
theorem dX11_onlyPlace_59 : decode cX11_onlyPlace 59 = .ok (.goto 4, 3) := by decide +kernel
theorem dX11_onlyPlace_62 : decode cX11_onlyPlace 62 = .ok (.iconst (-1), 1) := by decide +kernel
theorem dX11_onlyPlace_63 : decode cX11_onlyPlace 63 = .ok (.ireturn, 1) := by decide +kernel
theorem dX11_layAnchors_0 : decode cX11_layAnchors 0 = .ok (.aload_n 0, 1) := by decide +kernel
theorem dX11_layAnchors_1 : decode cX11_layAnchors 1 = .ok (.iconst 0, 1) := by decide +kernel
theorem dX11_layAnchors_2 : decode cX11_layAnchors 2 = .ok (.putfield 97, 3) := by decide +kernel
theorem dX11_layAnchors_5 : decode cX11_layAnchors 5 = .ok (.aload_n 0, 1) := by decide +kernel
theorem dX11_layAnchors_6 : decode cX11_layAnchors 6 = .ok (.iconst 0, 1) := by decide +kernel
theorem dX11_layAnchors_7 : decode cX11_layAnchors 7 = .ok (.putfield 100, 3) := by decide +kernel
theorem dX11_layAnchors_10 : decode cX11_layAnchors 10 = .ok (.iconst 0, 1) := by decide +kernel
theorem dX11_layAnchors_11 : decode cX11_layAnchors 11 = .ok (.istore_n 1, 1) := by decide +kernel
theorem dX11_layAnchors_12 : decode cX11_layAnchors 12 = .ok (.iload_n 1, 1) := by decide +kernel
theorem dX11_layAnchors_13 : decode cX11_layAnchors 13 = .ok (.aload_n 0, 1) := by decide +kernel
theorem dX11_layAnchors_14 : decode cX11_layAnchors 14 = .ok (.getfield 7, 3) := by decide +kernel
theorem dX11_layAnchors_17 : decode cX11_layAnchors 17 = .ok (.iconst 0, 1) := by decide +kernel
theorem dX11_layAnchors_18 : decode cX11_layAnchors 18 = .ok (.iaload, 1) := by decide +kernel
theorem dX11_layAnchors_19 : decode cX11_layAnchors 19 = .ok (.iadd, 1) := by decide +kernel
theorem dX11_layAnchors_20 : decode cX11_layAnchors 20 = .ok (.aload_n 0, 1) := by decide +kernel
theorem dX11_layAnchors_21 : decode cX11_layAnchors 21 = .ok (.iconst 0, 1) := by decide +kernel
theorem dX11_layAnchors_22 : decode cX11_layAnchors 22 = .ok (.invokevirtual 85, 3) := by decide +kernel
theorem dX11_layAnchors_25 : decode cX11_layAnchors 25 = .ok (.if_icmp .gt 142, 3) := by decide +kernel
theorem dX11_layAnchors_28 : decode cX11_layAnchors 28 = .ok (.aload_n 0, 1) := by decide +kernel
theorem dX11_layAnchors_29 : decode cX11_layAnchors 29 = .ok (.iload_n 1, 1) := by decide +kernel
theorem dX11_layAnchors_30 : decode cX11_layAnchors 30 = .ok (.iconst 0, 1) := by decide +kernel
theorem dX11_layAnchors_31 : decode cX11_layAnchors 31 = .ok (.iconst 0, 1) := by decide +kernel
theorem dX11_layAnchors_32 : decode cX11_layAnchors 32 = .ok (.invokevirtual 103, 3) := by decide +kernel
theorem dX11_layAnchors_35 : decode cX11_layAnchors 35 = .ok (.iload_n 1, 1) := by decide +kernel
theorem dX11_layAnchors_36 : decode cX11_layAnchors 36 = .ok (.if_icmp .ne 7, 3) := by decide +kernel
theorem dX11_layAnchors_39 : decode cX11_layAnchors 39 = .ok (.iconst 1, 1) := by decide +kernel
theorem dX11_layAnchors_40 : decode cX11_layAnchors 40 = .ok (.goto 4, 3) := by decide +kernel
theorem dX11_layAnchors_43 : decode cX11_layAnchors 43 = .ok (.iconst 0, 1) := by decide +kernel
theorem dX11_layAnchors_44 : decode cX11_layAnchors 44 = .ok (.istore_n 2, 1) := by decide +kernel
theorem dX11_layAnchors_45 : decode cX11_layAnchors 45 = .ok (.iload_n 2, 1) := by decide +kernel
theorem dX11_layAnchors_46 : decode cX11_layAnchors 46 = .ok (.ifCond .eq 13, 3) := by decide +kernel
theorem dX11_layAnchors_49 : decode cX11_layAnchors 49 = .ok (.aload_n 0, 1) := by decide +kernel
theorem dX11_layAnchors_50 : decode cX11_layAnchors 50 = .ok (.iload_n 1, 1) := by decide +kernel
theorem dX11_layAnchors_51 : decode cX11_layAnchors 51 = .ok (.iconst 1, 1) := by decide +kernel
theorem dX11_layAnchors_52 : decode cX11_layAnchors 52 = .ok (.iconst 0, 1) := by decide +kernel
theorem dX11_layAnchors_53 : decode cX11_layAnchors 53 = .ok (.invokevirtual 103, 3) := by decide +kernel
theorem dX11_layAnchors_56 : decode cX11_layAnchors 56 = .ok (.goto 4, 3) := by decide +kernel
theorem dX11_layAnchors_59 : decode cX11_layAnchors 59 = .ok (.iconst (-1), 1) := by decide +kernel
theorem dX11_layAnchors_60 : decode cX11_layAnchors 60 = .ok (.istore_n 3, 1) := by decide +kernel
theorem dX11_layAnchors_61 : decode cX11_layAnchors 61 = .ok (.iload_n 3, 1) := by decide +kernel
theorem dX11_layAnchors_62 : decode cX11_layAnchors 62 = .ok (.iconst (-1), 1) := by decide +kernel
theorem dX11_layAnchors_63 : decode cX11_layAnchors 63 = .ok (.if_icmp .eq 33, 3) := by decide +kernel
theorem dX11_layAnchors_66 : decode cX11_layAnchors 66 = .ok (.aload_n 0, 1) := by decide +kernel
theorem dX11_layAnchors_67 : decode cX11_layAnchors 67 = .ok (.getfield 25, 3) := by decide +kernel
theorem dX11_layAnchors_70 : decode cX11_layAnchors 70 = .ok (.aload_n 0, 1) := by decide +kernel
theorem dX11_layAnchors_71 : decode cX11_layAnchors 71 = .ok (.getfield 97, 3) := by decide +kernel
theorem dX11_layAnchors_74 : decode cX11_layAnchors 74 = .ok (.iload_n 1, 1) := by decide +kernel
theorem dX11_layAnchors_75 : decode cX11_layAnchors 75 = .ok (.iastore, 1) := by decide +kernel
theorem dX11_layAnchors_76 : decode cX11_layAnchors 76 = .ok (.aload_n 0, 1) := by decide +kernel
theorem dX11_layAnchors_77 : decode cX11_layAnchors 77 = .ok (.getfield 28, 3) := by decide +kernel
theorem dX11_layAnchors_80 : decode cX11_layAnchors 80 = .ok (.aload_n 0, 1) := by decide +kernel
theorem dX11_layAnchors_81 : decode cX11_layAnchors 81 = .ok (.getfield 97, 3) := by decide +kernel
theorem dX11_layAnchors_84 : decode cX11_layAnchors 84 = .ok (.iload_n 3, 1) := by decide +kernel
theorem dX11_layAnchors_85 : decode cX11_layAnchors 85 = .ok (.iastore, 1) := by decide +kernel
theorem dX11_layAnchors_86 : decode cX11_layAnchors 86 = .ok (.aload_n 0, 1) := by decide +kernel
theorem dX11_layAnchors_87 : decode cX11_layAnchors 87 = .ok (.dup, 1) := by decide +kernel
theorem dX11_layAnchors_88 : decode cX11_layAnchors 88 = .ok (.getfield 97, 3) := by decide +kernel
theorem dX11_layAnchors_91 : decode cX11_layAnchors 91 = .ok (.iconst 1, 1) := by decide +kernel
theorem dX11_layAnchors_92 : decode cX11_layAnchors 92 = .ok (.iadd, 1) := by decide +kernel
theorem dX11_layAnchors_93 : decode cX11_layAnchors 93 = .ok (.putfield 97, 3) := by decide +kernel
theorem dX11_layAnchors_96 : decode cX11_layAnchors 96 = .ok (.iload_n 2, 1) := by decide +kernel
theorem dX11_layAnchors_97 : decode cX11_layAnchors 97 = .ok (.ifCond .eq 24, 3) := by decide +kernel
theorem dX11_layAnchors_100 : decode cX11_layAnchors 100 = .ok (.aload_n 0, 1) := by decide +kernel
theorem dX11_layAnchors_101 : decode cX11_layAnchors 101 = .ok (.iload_n 1, 1) := by decide +kernel
theorem dX11_layAnchors_102 : decode cX11_layAnchors 102 = .ok (.iconst 0, 1) := by decide +kernel
theorem dX11_layAnchors_103 : decode cX11_layAnchors 103 = .ok (.iload_n 1, 1) := by decide +kernel
theorem dX11_layAnchors_104 : decode cX11_layAnchors 104 = .ok (.iconst 1, 1) := by decide +kernel
theorem dX11_layAnchors_105 : decode cX11_layAnchors 105 = .ok (.invokevirtual 93, 3) := by decide +kernel
theorem dX11_layAnchors_108 : decode cX11_layAnchors 108 = .ok (.ifCond .ne 13, 3) := by decide +kernel
theorem dX11_layAnchors_111 : decode cX11_layAnchors 111 = .ok (.aload_n 0, 1) := by decide +kernel
theorem dX11_layAnchors_112 : decode cX11_layAnchors 112 = .ok (.iload_n 1, 1) := by decide +kernel
theorem dX11_layAnchors_113 : decode cX11_layAnchors 113 = .ok (.iconst 1, 1) := by decide +kernel
theorem dX11_layAnchors_114 : decode cX11_layAnchors 114 = .ok (.iconst 1, 1) := by decide +kernel
theorem dX11_layAnchors_115 : decode cX11_layAnchors 115 = .ok (.invokevirtual 103, 3) := by decide +kernel
theorem dX11_layAnchors_118 : decode cX11_layAnchors 118 = .ok (.goto 4, 3) := by decide +kernel
theorem dX11_layAnchors_121 : decode cX11_layAnchors 121 = .ok (.iconst (-1), 1) := by decide +kernel
theorem dX11_layAnchors_122 : decode cX11_layAnchors 122 = .ok (.istore 4, 2) := by decide +kernel
theorem dX11_layAnchors_124 : decode cX11_layAnchors 124 = .ok (.iload 4, 2) := by decide +kernel
theorem dX11_layAnchors_126 : decode cX11_layAnchors 126 = .ok (.iconst (-1), 1) := by decide +kernel
theorem dX11_layAnchors_127 : decode cX11_layAnchors 127 = .ok (.if_icmp .eq 34, 3) := by decide +kernel
theorem dX11_layAnchors_130 : decode cX11_layAnchors 130 = .ok (.aload_n 0, 1) := by decide +kernel
theorem dX11_layAnchors_131 : decode cX11_layAnchors 131 = .ok (.getfield 31, 3) := by decide +kernel
theorem dX11_layAnchors_134 : decode cX11_layAnchors 134 = .ok (.aload_n 0, 1) := by decide +kernel
theorem dX11_layAnchors_135 : decode cX11_layAnchors 135 = .ok (.getfield 100, 3) := by decide +kernel
theorem dX11_layAnchors_138 : decode cX11_layAnchors 138 = .ok (.iload_n 1, 1) := by decide +kernel
theorem dX11_layAnchors_139 : decode cX11_layAnchors 139 = .ok (.iastore, 1) := by decide +kernel
theorem dX11_layAnchors_140 : decode cX11_layAnchors 140 = .ok (.aload_n 0, 1) := by decide +kernel
theorem dX11_layAnchors_141 : decode cX11_layAnchors 141 = .ok (.getfield 34, 3) := by decide +kernel
theorem dX11_layAnchors_144 : decode cX11_layAnchors 144 = .ok (.aload_n 0, 1) := by decide +kernel
theorem dX11_layAnchors_145 : decode cX11_layAnchors 145 = .ok (.getfield 100, 3) := by decide +kernel
theorem dX11_layAnchors_148 : decode cX11_layAnchors 148 = .ok (.iload 4, 2) := by decide +kernel
theorem dX11_layAnchors_150 : decode cX11_layAnchors 150 = .ok (.iastore, 1) := by decide +kernel
theorem dX11_layAnchors_151 : decode cX11_layAnchors 151 = .ok (.aload_n 0, 1) := by decide +kernel
theorem dX11_layAnchors_152 : decode cX11_layAnchors 152 = .ok (.dup, 1) := by decide +kernel
theorem dX11_layAnchors_153 : decode cX11_layAnchors 153 = .ok (.getfield 100, 3) := by decide +kernel
theorem dX11_layAnchors_156 : decode cX11_layAnchors 156 = .ok (.iconst 1, 1) := by decide +kernel
theorem dX11_layAnchors_157 : decode cX11_layAnchors 157 = .ok (.iadd, 1) := by decide +kernel
theorem dX11_layAnchors_158 : decode cX11_layAnchors 158 = .ok (.putfield 100, 3) := by decide +kernel
theorem dX11_layAnchors_161 : decode cX11_layAnchors 161 = .ok (.iinc 1 1, 3) := by decide +kernel
theorem dX11_layAnchors_164 : decode cX11_layAnchors 164 = .ok (.goto (-152), 3) := by decide +kernel
theorem dX11_layAnchors_167 : decode cX11_layAnchors 167 = .ok (.return_, 1) := by decide +kernel
theorem dX11_fit_0 : decode cX11_fit 0 = .ok (.aload_n 0, 1) := by decide +kernel
theorem dX11_fit_1 : decode cX11_fit 1 = .ok (.getfield 25, 3) := by decide +kernel
theorem dX11_fit_4 : decode cX11_fit 4 = .ok (.iload_n 2, 1) := by decide +kernel
theorem dX11_fit_5 : decode cX11_fit 5 = .ok (.iaload, 1) := by decide +kernel
theorem dX11_fit_6 : decode cX11_fit 6 = .ok (.aload_n 0, 1) := by decide +kernel
theorem dX11_fit_7 : decode cX11_fit 7 = .ok (.getfield 25, 3) := by decide +kernel
theorem dX11_fit_10 : decode cX11_fit 10 = .ok (.iload_n 1, 1) := by decide +kernel
theorem dX11_fit_11 : decode cX11_fit 11 = .ok (.iaload, 1) := by decide +kernel
theorem dX11_fit_12 : decode cX11_fit 12 = .ok (.isub, 1) := by decide +kernel
theorem dX11_fit_13 : decode cX11_fit 13 = .ok (.istore_n 3, 1) := by decide +kernel
theorem dX11_fit_14 : decode cX11_fit 14 = .ok (.aload_n 0, 1) := by decide +kernel
theorem dX11_fit_15 : decode cX11_fit 15 = .ok (.getfield 28, 3) := by decide +kernel
theorem dX11_fit_18 : decode cX11_fit 18 = .ok (.iload_n 2, 1) := by decide +kernel
theorem dX11_fit_19 : decode cX11_fit 19 = .ok (.iaload, 1) := by decide +kernel
theorem dX11_fit_20 : decode cX11_fit 20 = .ok (.aload_n 0, 1) := by decide +kernel
theorem dX11_fit_21 : decode cX11_fit 21 = .ok (.getfield 28, 3) := by decide +kernel
theorem dX11_fit_24 : decode cX11_fit 24 = .ok (.iload_n 1, 1) := by decide +kernel
theorem dX11_fit_25 : decode cX11_fit 25 = .ok (.iaload, 1) := by decide +kernel
theorem dX11_fit_26 : decode cX11_fit 26 = .ok (.isub, 1) := by decide +kernel
theorem dX11_fit_27 : decode cX11_fit 27 = .ok (.istore 4, 2) := by decide +kernel
theorem dX11_fit_29 : decode cX11_fit 29 = .ok (.iload_n 3, 1) := by decide +kernel
theorem dX11_fit_30 : decode cX11_fit 30 = .ok (.aload_n 0, 1) := by decide +kernel
theorem dX11_fit_31 : decode cX11_fit 31 = .ok (.getfield 7, 3) := by decide +kernel
theorem dX11_fit_34 : decode cX11_fit 34 = .ok (.iconst 0, 1) := by decide +kernel
theorem dX11_fit_35 : decode cX11_fit 35 = .ok (.iaload, 1) := by decide +kernel
theorem dX11_fit_36 : decode cX11_fit 36 = .ok (.if_icmp .lt 14, 3) := by decide +kernel
theorem dX11_fit_39 : decode cX11_fit 39 = .ok (.iload 4, 2) := by decide +kernel
theorem dX11_fit_41 : decode cX11_fit 41 = .ok (.aload_n 0, 1) := by decide +kernel
theorem dX11_fit_42 : decode cX11_fit 42 = .ok (.getfield 7, 3) := by decide +kernel
theorem dX11_fit_45 : decode cX11_fit 45 = .ok (.iconst 0, 1) := by decide +kernel
theorem dX11_fit_46 : decode cX11_fit 46 = .ok (.iaload, 1) := by decide +kernel
theorem dX11_fit_47 : decode cX11_fit 47 = .ok (.if_icmp .ge 7, 3) := by decide +kernel
theorem dX11_fit_50 : decode cX11_fit 50 = .ok (.iconst 1, 1) := by decide +kernel
theorem dX11_fit_51 : decode cX11_fit 51 = .ok (.goto 4, 3) := by decide +kernel
theorem dX11_fit_54 : decode cX11_fit 54 = .ok (.iconst 0, 1) := by decide +kernel
theorem dX11_fit_55 : decode cX11_fit 55 = .ok (.istore 5, 2) := by decide +kernel
theorem dX11_fit_57 : decode cX11_fit 57 = .ok (.iload_n 3, 1) := by decide +kernel
theorem dX11_fit_58 : decode cX11_fit 58 = .ok (.ifCond .le 23, 3) := by decide +kernel
theorem dX11_fit_61 : decode cX11_fit 61 = .ok (.iload 4, 2) := by decide +kernel
theorem dX11_fit_63 : decode cX11_fit 63 = .ok (.ifCond .le 18, 3) := by decide +kernel
theorem dX11_fit_66 : decode cX11_fit 66 = .ok (.iload 5, 2) := by decide +kernel
theorem dX11_fit_68 : decode cX11_fit 68 = .ok (.ifCond .eq 9, 3) := by decide +kernel
theorem dX11_fit_71 : decode cX11_fit 71 = .ok (.iload_n 3, 1) := by decide +kernel
theorem dX11_fit_72 : decode cX11_fit 72 = .ok (.iload 4, 2) := by decide +kernel
theorem dX11_fit_74 : decode cX11_fit 74 = .ok (.if_icmp .ne 7, 3) := by decide +kernel
theorem dX11_fit_77 : decode cX11_fit 77 = .ok (.iconst 1, 1) := by decide +kernel
theorem dX11_fit_78 : decode cX11_fit 78 = .ok (.goto 4, 3) := by decide +kernel
theorem dX11_fit_81 : decode cX11_fit 81 = .ok (.iconst 0, 1) := by decide +kernel
theorem dX11_fit_82 : decode cX11_fit 82 = .ok (.ireturn, 1) := by decide +kernel
theorem dX11_layChain_0 : decode cX11_layChain 0 = .ok (.aload_n 0, 1) := by decide +kernel
theorem dX11_layChain_1 : decode cX11_layChain 1 = .ok (.invokevirtual 107, 3) := by decide +kernel
theorem dX11_layChain_4 : decode cX11_layChain 4 = .ok (.iconst 0, 1) := by decide +kernel
theorem dX11_layChain_5 : decode cX11_layChain 5 = .ok (.istore_n 1, 1) := by decide +kernel
theorem dX11_layChain_6 : decode cX11_layChain 6 = .ok (.aload_n 0, 1) := by decide +kernel
theorem dX11_layChain_7 : decode cX11_layChain 7 = .ok (.getfield 97, 3) := by decide +kernel
theorem dX11_layChain_10 : decode cX11_layChain 10 = .ok (.iconst 1, 1) := by decide +kernel
theorem dX11_layChain_11 : decode cX11_layChain 11 = .ok (.isub, 1) := by decide +kernel
theorem dX11_layChain_12 : decode cX11_layChain 12 = .ok (.istore_n 2, 1) := by decide +kernel
theorem dX11_layChain_13 : decode cX11_layChain 13 = .ok (.iload_n 2, 1) := by decide +kernel
theorem dX11_layChain_14 : decode cX11_layChain 14 = .ok (.ifCond .lt 111, 3) := by decide +kernel
theorem dX11_layChain_17 : decode cX11_layChain 17 = .ok (.aload_n 0, 1) := by decide +kernel
theorem dX11_layChain_18 : decode cX11_layChain 18 = .ok (.getfield 37, 3) := by decide +kernel
theorem dX11_layChain_21 : decode cX11_layChain 21 = .ok (.iload_n 2, 1) := by decide +kernel
theorem dX11_layChain_22 : decode cX11_layChain 22 = .ok (.iconst 1, 1) := by decide +kernel
theorem dX11_layChain_23 : decode cX11_layChain 23 = .ok (.iastore, 1) := by decide +kernel
theorem dX11_layChain_24 : decode cX11_layChain 24 = .ok (.aload_n 0, 1) := by decide +kernel
theorem dX11_layChain_25 : decode cX11_layChain 25 = .ok (.getfield 43, 3) := by decide +kernel
theorem dX11_layChain_28 : decode cX11_layChain 28 = .ok (.iload_n 2, 1) := by decide +kernel
theorem dX11_layChain_29 : decode cX11_layChain 29 = .ok (.iconst (-1), 1) := by decide +kernel
theorem dX11_layChain_30 : decode cX11_layChain 30 = .ok (.iastore, 1) := by decide +kernel
theorem dX11_layChain_31 : decode cX11_layChain 31 = .ok (.iload_n 2, 1) := by decide +kernel
theorem dX11_layChain_32 : decode cX11_layChain 32 = .ok (.iconst 1, 1) := by decide +kernel
theorem dX11_layChain_33 : decode cX11_layChain 33 = .ok (.iadd, 1) := by decide +kernel
theorem dX11_layChain_34 : decode cX11_layChain 34 = .ok (.istore_n 3, 1) := by decide +kernel
theorem dX11_layChain_35 : decode cX11_layChain 35 = .ok (.iload_n 3, 1) := by decide +kernel
theorem dX11_layChain_36 : decode cX11_layChain 36 = .ok (.aload_n 0, 1) := by decide +kernel
theorem dX11_layChain_37 : decode cX11_layChain 37 = .ok (.getfield 97, 3) := by decide +kernel
theorem dX11_layChain_40 : decode cX11_layChain 40 = .ok (.if_icmp .ge 58, 3) := by decide +kernel
theorem dX11_layChain_43 : decode cX11_layChain 43 = .ok (.aload_n 0, 1) := by decide +kernel
theorem dX11_layChain_44 : decode cX11_layChain 44 = .ok (.getfield 37, 3) := by decide +kernel
theorem dX11_layChain_47 : decode cX11_layChain 47 = .ok (.iload_n 2, 1) := by decide +kernel
theorem dX11_layChain_48 : decode cX11_layChain 48 = .ok (.aload_n 0, 1) := by decide +kernel
theorem dX11_layChain_49 : decode cX11_layChain 49 = .ok (.iload_n 2, 1) := by decide +kernel
theorem dX11_layChain_50 : decode cX11_layChain 50 = .ok (.iload_n 3, 1) := by decide +kernel
theorem dX11_layChain_51 : decode cX11_layChain 51 = .ok (.invokevirtual 110, 3) := by decide +kernel
theorem dX11_layChain_54 : decode cX11_layChain 54 = .ok (.ifCond .eq 31, 3) := by decide +kernel
theorem dX11_layChain_57 : decode cX11_layChain 57 = .ok (.aload_n 0, 1) := by decide +kernel
theorem dX11_layChain_58 : decode cX11_layChain 58 = .ok (.getfield 37, 3) := by decide +kernel
theorem dX11_layChain_61 : decode cX11_layChain 61 = .ok (.iload_n 3, 1) := by decide +kernel
theorem dX11_layChain_62 : decode cX11_layChain 62 = .ok (.iaload, 1) := by decide +kernel
theorem dX11_layChain_63 : decode cX11_layChain 63 = .ok (.iconst 1, 1) := by decide +kernel
theorem dX11_layChain_64 : decode cX11_layChain 64 = .ok (.iadd, 1) := by decide +kernel
theorem dX11_layChain_65 : decode cX11_layChain 65 = .ok (.aload_n 0, 1) := by decide +kernel
theorem dX11_layChain_66 : decode cX11_layChain 66 = .ok (.getfield 37, 3) := by decide +kernel
theorem dX11_layChain_69 : decode cX11_layChain 69 = .ok (.iload_n 2, 1) := by decide +kernel
theorem dX11_layChain_70 : decode cX11_layChain 70 = .ok (.iaload, 1) := by decide +kernel
theorem dX11_layChain_71 : decode cX11_layChain 71 = .ok (.if_icmp .le 14, 3) := by decide +kernel
theorem dX11_layChain_74 : decode cX11_layChain 74 = .ok (.aload_n 0, 1) := by decide +kernel
theorem dX11_layChain_75 : decode cX11_layChain 75 = .ok (.getfield 37, 3) := by decide +kernel
theorem dX11_layChain_78 : decode cX11_layChain 78 = .ok (.iload_n 3, 1) := by decide +kernel
theorem dX11_layChain_79 : decode cX11_layChain 79 = .ok (.iaload, 1) := by decide +kernel
theorem dX11_layChain_80 : decode cX11_layChain 80 = .ok (.iconst 1, 1) := by decide +kernel
theorem dX11_layChain_81 : decode cX11_layChain 81 = .ok (.iadd, 1) := by decide +kernel
theorem dX11_layChain_82 : decode cX11_layChain 82 = .ok (.goto 9, 3) := by decide +kernel
theorem dX11_layChain_85 : decode cX11_layChain 85 = .ok (.aload_n 0, 1) := by decide +kernel
theorem dX11_layChain_86 : decode cX11_layChain 86 = .ok (.getfield 37, 3) := by decide +kernel
theorem dX11_layChain_89 : decode cX11_layChain 89 = .ok (.iload_n 2, 1) := by decide +kernel
theorem dX11_layChain_90 : decode cX11_layChain 90 = .ok (.iaload, 1) := by decide +kernel
theorem dX11_layChain_91 : decode cX11_layChain 91 = .ok (.iastore, 1) := by decide +kernel
theorem dX11_layChain_92 : decode cX11_layChain 92 = .ok (.iinc 3 1, 3) := by decide +kernel
theorem dX11_layChain_95 : decode cX11_layChain 95 = .ok (.goto (-60), 3) := by decide +kernel
theorem dX11_layChain_98 : decode cX11_layChain 98 = .ok (.aload_n 0, 1) := by decide +kernel
theorem dX11_layChain_99 : decode cX11_layChain 99 = .ok (.getfield 37, 3) := by decide +kernel
theorem dX11_layChain_102 : decode cX11_layChain 102 = .ok (.iload_n 2, 1) := by decide +kernel
theorem dX11_layChain_103 : decode cX11_layChain 103 = .ok (.iaload, 1) := by decide +kernel
theorem dX11_layChain_104 : decode cX11_layChain 104 = .ok (.iload_n 1, 1) := by decide +kernel
theorem dX11_layChain_105 : decode cX11_layChain 105 = .ok (.if_icmp .le 12, 3) := by decide +kernel
theorem dX11_layChain_108 : decode cX11_layChain 108 = .ok (.aload_n 0, 1) := by decide +kernel
theorem dX11_layChain_109 : decode cX11_layChain 109 = .ok (.getfield 37, 3) := by decide +kernel
theorem dX11_layChain_112 : decode cX11_layChain 112 = .ok (.iload_n 2, 1) := by decide +kernel
theorem dX11_layChain_113 : decode cX11_layChain 113 = .ok (.iaload, 1) := by decide +kernel
theorem dX11_layChain_114 : decode cX11_layChain 114 = .ok (.goto 4, 3) := by decide +kernel
theorem dX11_layChain_117 : decode cX11_layChain 117 = .ok (.iload_n 1, 1) := by decide +kernel
theorem dX11_layChain_118 : decode cX11_layChain 118 = .ok (.istore_n 1, 1) := by decide +kernel
theorem dX11_layChain_119 : decode cX11_layChain 119 = .ok (.iinc 2 (-1), 3) := by decide +kernel
theorem dX11_layChain_122 : decode cX11_layChain 122 = .ok (.goto (-109), 3) := by decide +kernel
theorem dX11_layChain_125 : decode cX11_layChain 125 = .ok (.iconst 0, 1) := by decide +kernel
theorem dX11_layChain_126 : decode cX11_layChain 126 = .ok (.istore_n 2, 1) := by decide +kernel
theorem dX11_layChain_127 : decode cX11_layChain 127 = .ok (.iload_n 2, 1) := by decide +kernel
theorem dX11_layChain_128 : decode cX11_layChain 128 = .ok (.aload_n 0, 1) := by decide +kernel
theorem dX11_layChain_129 : decode cX11_layChain 129 = .ok (.getfield 97, 3) := by decide +kernel
theorem dX11_layChain_132 : decode cX11_layChain 132 = .ok (.if_icmp .ge 78, 3) := by decide +kernel
theorem dX11_layChain_135 : decode cX11_layChain 135 = .ok (.aload_n 0, 1) := by decide +kernel
theorem dX11_layChain_136 : decode cX11_layChain 136 = .ok (.getfield 40, 3) := by decide +kernel
theorem dX11_layChain_139 : decode cX11_layChain 139 = .ok (.iload_n 2, 1) := by decide +kernel
theorem dX11_layChain_140 : decode cX11_layChain 140 = .ok (.iconst 1, 1) := by decide +kernel
theorem dX11_layChain_141 : decode cX11_layChain 141 = .ok (.iastore, 1) := by decide +kernel
theorem dX11_layChain_142 : decode cX11_layChain 142 = .ok (.iconst 0, 1) := by decide +kernel
theorem dX11_layChain_143 : decode cX11_layChain 143 = .ok (.istore_n 3, 1) := by decide +kernel
theorem dX11_layChain_144 : decode cX11_layChain 144 = .ok (.iload_n 3, 1) := by decide +kernel
theorem dX11_layChain_145 : decode cX11_layChain 145 = .ok (.iload_n 2, 1) := by decide +kernel
theorem dX11_layChain_146 : decode cX11_layChain 146 = .ok (.if_icmp .ge 58, 3) := by decide +kernel
theorem dX11_layChain_149 : decode cX11_layChain 149 = .ok (.aload_n 0, 1) := by decide +kernel
theorem dX11_layChain_150 : decode cX11_layChain 150 = .ok (.getfield 40, 3) := by decide +kernel
theorem dX11_layChain_153 : decode cX11_layChain 153 = .ok (.iload_n 2, 1) := by decide +kernel
theorem dX11_layChain_154 : decode cX11_layChain 154 = .ok (.aload_n 0, 1) := by decide +kernel
theorem dX11_layChain_155 : decode cX11_layChain 155 = .ok (.iload_n 3, 1) := by decide +kernel
theorem dX11_layChain_156 : decode cX11_layChain 156 = .ok (.iload_n 2, 1) := by decide +kernel
theorem dX11_layChain_157 : decode cX11_layChain 157 = .ok (.invokevirtual 110, 3) := by decide +kernel
theorem dX11_layChain_160 : decode cX11_layChain 160 = .ok (.ifCond .eq 31, 3) := by decide +kernel
theorem dX11_layChain_163 : decode cX11_layChain 163 = .ok (.aload_n 0, 1) := by decide +kernel
theorem dX11_layChain_164 : decode cX11_layChain 164 = .ok (.getfield 40, 3) := by decide +kernel
theorem dX11_layChain_167 : decode cX11_layChain 167 = .ok (.iload_n 3, 1) := by decide +kernel
theorem dX11_layChain_168 : decode cX11_layChain 168 = .ok (.iaload, 1) := by decide +kernel
theorem dX11_layChain_169 : decode cX11_layChain 169 = .ok (.iconst 1, 1) := by decide +kernel
theorem dX11_layChain_170 : decode cX11_layChain 170 = .ok (.iadd, 1) := by decide +kernel
theorem dX11_layChain_171 : decode cX11_layChain 171 = .ok (.aload_n 0, 1) := by decide +kernel
theorem dX11_layChain_172 : decode cX11_layChain 172 = .ok (.getfield 40, 3) := by decide +kernel
theorem dX11_layChain_175 : decode cX11_layChain 175 = .ok (.iload_n 2, 1) := by decide +kernel
theorem dX11_layChain_176 : decode cX11_layChain 176 = .ok (.iaload, 1) := by decide +kernel
theorem dX11_layChain_177 : decode cX11_layChain 177 = .ok (.if_icmp .le 14, 3) := by decide +kernel
theorem dX11_layChain_180 : decode cX11_layChain 180 = .ok (.aload_n 0, 1) := by decide +kernel
theorem dX11_layChain_181 : decode cX11_layChain 181 = .ok (.getfield 40, 3) := by decide +kernel
theorem dX11_layChain_184 : decode cX11_layChain 184 = .ok (.iload_n 3, 1) := by decide +kernel
theorem dX11_layChain_185 : decode cX11_layChain 185 = .ok (.iaload, 1) := by decide +kernel
theorem dX11_layChain_186 : decode cX11_layChain 186 = .ok (.iconst 1, 1) := by decide +kernel
theorem dX11_layChain_187 : decode cX11_layChain 187 = .ok (.iadd, 1) := by decide +kernel
theorem dX11_layChain_188 : decode cX11_layChain 188 = .ok (.goto 9, 3) := by decide +kernel
theorem dX11_layChain_191 : decode cX11_layChain 191 = .ok (.aload_n 0, 1) := by decide +kernel
theorem dX11_layChain_192 : decode cX11_layChain 192 = .ok (.getfield 40, 3) := by decide +kernel
theorem dX11_layChain_195 : decode cX11_layChain 195 = .ok (.iload_n 2, 1) := by decide +kernel
theorem dX11_layChain_196 : decode cX11_layChain 196 = .ok (.iaload, 1) := by decide +kernel
theorem dX11_layChain_197 : decode cX11_layChain 197 = .ok (.iastore, 1) := by decide +kernel
theorem dX11_layChain_198 : decode cX11_layChain 198 = .ok (.iinc 3 1, 3) := by decide +kernel
theorem dX11_layChain_201 : decode cX11_layChain 201 = .ok (.goto (-57), 3) := by decide +kernel
theorem dX11_layChain_204 : decode cX11_layChain 204 = .ok (.iinc 2 1, 3) := by decide +kernel
theorem dX11_layChain_207 : decode cX11_layChain 207 = .ok (.goto (-80), 3) := by decide +kernel
theorem dX11_layChain_210 : decode cX11_layChain 210 = .ok (.aload_n 0, 1) := by decide +kernel
theorem dX11_layChain_211 : decode cX11_layChain 211 = .ok (.iconst 0, 1) := by decide +kernel
theorem dX11_layChain_212 : decode cX11_layChain 212 = .ok (.putfield 114, 3) := by decide +kernel
theorem dX11_layChain_215 : decode cX11_layChain 215 = .ok (.iconst 0, 1) := by decide +kernel
theorem dX11_layChain_216 : decode cX11_layChain 216 = .ok (.istore_n 2, 1) := by decide +kernel
theorem dX11_layChain_217 : decode cX11_layChain 217 = .ok (.iload_n 2, 1) := by decide +kernel
theorem dX11_layChain_218 : decode cX11_layChain 218 = .ok (.aload_n 0, 1) := by decide +kernel
theorem dX11_layChain_219 : decode cX11_layChain 219 = .ok (.getfield 97, 3) := by decide +kernel
theorem dX11_layChain_222 : decode cX11_layChain 222 = .ok (.if_icmp .ge 90, 3) := by decide +kernel
theorem dX11_layChain_225 : decode cX11_layChain 225 = .ok (.aload_n 0, 1) := by decide +kernel
theorem dX11_layChain_226 : decode cX11_layChain 226 = .ok (.getfield 37, 3) := by decide +kernel
theorem dX11_layChain_229 : decode cX11_layChain 229 = .ok (.iload_n 2, 1) := by decide +kernel
theorem dX11_layChain_230 : decode cX11_layChain 230 = .ok (.iaload, 1) := by decide +kernel
theorem dX11_layChain_231 : decode cX11_layChain 231 = .ok (.iload_n 1, 1) := by decide +kernel
theorem dX11_layChain_232 : decode cX11_layChain 232 = .ok (.aload_n 0, 1) := by decide +kernel
theorem dX11_layChain_233 : decode cX11_layChain 233 = .ok (.getfield 114, 3) := by decide +kernel
theorem dX11_layChain_236 : decode cX11_layChain 236 = .ok (.isub, 1) := by decide +kernel
theorem dX11_layChain_237 : decode cX11_layChain 237 = .ok (.if_icmp .ne 33, 3) := by decide +kernel
theorem dX11_layChain_240 : decode cX11_layChain 240 = .ok (.aload_n 0, 1) := by decide +kernel
theorem dX11_layChain_241 : decode cX11_layChain 241 = .ok (.getfield 114, 3) := by decide +kernel
theorem dX11_layChain_244 : decode cX11_layChain 244 = .ok (.ifCond .eq 22, 3) := by decide +kernel
theorem dX11_layChain_247 : decode cX11_layChain 247 = .ok (.aload_n 0, 1) := by decide +kernel
theorem dX11_layChain_248 : decode cX11_layChain 248 = .ok (.aload_n 0, 1) := by decide +kernel
theorem dX11_layChain_249 : decode cX11_layChain 249 = .ok (.getfield 46, 3) := by decide +kernel
theorem dX11_layChain_252 : decode cX11_layChain 252 = .ok (.aload_n 0, 1) := by decide +kernel
theorem dX11_layChain_253 : decode cX11_layChain 253 = .ok (.getfield 114, 3) := by decide +kernel
theorem dX11_layChain_256 : decode cX11_layChain 256 = .ok (.iconst 1, 1) := by decide +kernel
theorem dX11_layChain_257 : decode cX11_layChain 257 = .ok (.isub, 1) := by decide +kernel
theorem dX11_layChain_258 : decode cX11_layChain 258 = .ok (.iaload, 1) := by decide +kernel
theorem dX11_layChain_259 : decode cX11_layChain 259 = .ok (.iload_n 2, 1) := by decide +kernel
theorem dX11_layChain_260 : decode cX11_layChain 260 = .ok (.invokevirtual 110, 3) := by decide +kernel
theorem dX11_layChain_263 : decode cX11_layChain 263 = .ok (.ifCond .eq 7, 3) := by decide +kernel
theorem dX11_layChain_266 : decode cX11_layChain 266 = .ok (.iconst 1, 1) := by decide +kernel
theorem dX11_layChain_267 : decode cX11_layChain 267 = .ok (.goto 4, 3) := by decide +kernel
theorem dX11_layChain_270 : decode cX11_layChain 270 = .ok (.iconst 0, 1) := by decide +kernel
theorem dX11_layChain_271 : decode cX11_layChain 271 = .ok (.istore_n 3, 1) := by decide +kernel
theorem dX11_layChain_272 : decode cX11_layChain 272 = .ok (.iload_n 3, 1) := by decide +kernel
theorem dX11_layChain_273 : decode cX11_layChain 273 = .ok (.ifCond .eq 33, 3) := by decide +kernel
theorem dX11_layChain_276 : decode cX11_layChain 276 = .ok (.aload_n 0, 1) := by decide +kernel
theorem dX11_layChain_277 : decode cX11_layChain 277 = .ok (.getfield 46, 3) := by decide +kernel
theorem dX11_layChain_280 : decode cX11_layChain 280 = .ok (.aload_n 0, 1) := by decide +kernel
theorem dX11_layChain_281 : decode cX11_layChain 281 = .ok (.getfield 114, 3) := by decide +kernel
theorem dX11_layChain_284 : decode cX11_layChain 284 = .ok (.iload_n 2, 1) := by decide +kernel
theorem dX11_layChain_285 : decode cX11_layChain 285 = .ok (.iastore, 1) := by decide +kernel
theorem dX11_layChain_286 : decode cX11_layChain 286 = .ok (.aload_n 0, 1) := by decide +kernel
theorem dX11_layChain_287 : decode cX11_layChain 287 = .ok (.getfield 43, 3) := by decide +kernel
theorem dX11_layChain_290 : decode cX11_layChain 290 = .ok (.iload_n 2, 1) := by decide +kernel
theorem dX11_layChain_291 : decode cX11_layChain 291 = .ok (.aload_n 0, 1) := by decide +kernel
theorem dX11_layChain_292 : decode cX11_layChain 292 = .ok (.getfield 114, 3) := by decide +kernel
theorem dX11_layChain_295 : decode cX11_layChain 295 = .ok (.iastore, 1) := by decide +kernel
theorem dX11_layChain_296 : decode cX11_layChain 296 = .ok (.aload_n 0, 1) := by decide +kernel
theorem dX11_layChain_297 : decode cX11_layChain 297 = .ok (.dup, 1) := by decide +kernel
theorem dX11_layChain_298 : decode cX11_layChain 298 = .ok (.getfield 114, 3) := by decide +kernel
theorem dX11_layChain_301 : decode cX11_layChain 301 = .ok (.iconst 1, 1) := by decide +kernel
theorem dX11_layChain_302 : decode cX11_layChain 302 = .ok (.iadd, 1) := by decide +kernel
theorem dX11_layChain_303 : decode cX11_layChain 303 = .ok (.putfield 114, 3) := by decide +kernel
theorem dX11_layChain_306 : decode cX11_layChain 306 = .ok (.iinc 2 1, 3) := by decide +kernel
theorem dX11_layChain_309 : decode cX11_layChain 309 = .ok (.goto (-92), 3) := by decide +kernel
theorem dX11_layChain_312 : decode cX11_layChain 312 = .ok (.return_, 1) := by decide +kernel
theorem dX11_layLeast_0 : decode cX11_layLeast 0 = .ok (.iconst 0, 1) := by decide +kernel
theorem dX11_layLeast_1 : decode cX11_layLeast 1 = .ok (.istore 6, 2) := by decide +kernel
theorem dX11_layLeast_3 : decode cX11_layLeast 3 = .ok (.iload 6, 2) := by decide +kernel
theorem dX11_layLeast_5 : decode cX11_layLeast 5 = .ok (.iload_n 2, 1) := by decide +kernel
theorem dX11_layLeast_6 : decode cX11_layLeast 6 = .ok (.if_icmp .gt 261, 3) := by decide +kernel
theorem dX11_layLeast_9 : decode cX11_layLeast 9 = .ok (.iconst 0, 1) := by decide +kernel
theorem dX11_layLeast_10 : decode cX11_layLeast 10 = .ok (.istore 7, 2) := by decide +kernel
theorem dX11_layLeast_12 : decode cX11_layLeast 12 = .ok (.iload 7, 2) := by decide +kernel
theorem dX11_layLeast_14 : decode cX11_layLeast 14 = .ok (.iload 4, 2) := by decide +kernel
theorem dX11_layLeast_16 : decode cX11_layLeast 16 = .ok (.if_icmp .gt 245, 3) := by decide +kernel
theorem dX11_layLeast_19 : decode cX11_layLeast 19 = .ok (.iload 6, 2) := by decide +kernel
theorem dX11_layLeast_21 : decode cX11_layLeast 21 = .ok (.ifCond .ne 12, 3) := by decide +kernel
theorem dX11_layLeast_24 : decode cX11_layLeast 24 = .ok (.iload 7, 2) := by decide +kernel
theorem dX11_layLeast_26 : decode cX11_layLeast 26 = .ok (.ifCond .ne 7, 3) := by decide +kernel
theorem dX11_layLeast_29 : decode cX11_layLeast 29 = .ok (.iconst 0, 1) := by decide +kernel
theorem dX11_layLeast_30 : decode cX11_layLeast 30 = .ok (.goto 5, 3) := by decide +kernel
theorem dX11_layLeast_33 : decode cX11_layLeast 33 = .ok (.ldc 117, 2) := by decide +kernel
theorem dX11_layLeast_35 : decode cX11_layLeast 35 = .ok (.istore 8, 2) := by decide +kernel
theorem dX11_layLeast_37 : decode cX11_layLeast 37 = .ok (.iload 6, 2) := by decide +kernel
theorem dX11_layLeast_39 : decode cX11_layLeast 39 = .ok (.ifCond .le 66, 3) := by decide +kernel
theorem dX11_layLeast_42 : decode cX11_layLeast 42 = .ok (.iload 7, 2) := by decide +kernel
theorem dX11_layLeast_44 : decode cX11_layLeast 44 = .ok (.ifCond .le 61, 3) := by decide +kernel
theorem dX11_layLeast_47 : decode cX11_layLeast 47 = .ok (.aload_n 0, 1) := by decide +kernel
theorem dX11_layLeast_48 : decode cX11_layLeast 48 = .ok (.iconst 0, 1) := by decide +kernel
theorem dX11_layLeast_49 : decode cX11_layLeast 49 = .ok (.iload_n 1, 1) := by decide +kernel
theorem dX11_layLeast_50 : decode cX11_layLeast 50 = .ok (.iload 6, 2) := by decide +kernel
theorem dX11_layLeast_52 : decode cX11_layLeast 52 = .ok (.iadd, 1) := by decide +kernel
theorem dX11_layLeast_53 : decode cX11_layLeast 53 = .ok (.iconst 1, 1) := by decide +kernel
theorem dX11_layLeast_54 : decode cX11_layLeast 54 = .ok (.isub, 1) := by decide +kernel
theorem dX11_layLeast_55 : decode cX11_layLeast 55 = .ok (.invokevirtual 89, 3) := by decide +kernel
theorem dX11_layLeast_58 : decode cX11_layLeast 58 = .ok (.aload_n 0, 1) := by decide +kernel
theorem dX11_layLeast_59 : decode cX11_layLeast 59 = .ok (.iconst 1, 1) := by decide +kernel
theorem dX11_layLeast_60 : decode cX11_layLeast 60 = .ok (.iload_n 3, 1) := by decide +kernel
theorem dX11_layLeast_61 : decode cX11_layLeast 61 = .ok (.iload 7, 2) := by decide +kernel
theorem dX11_layLeast_63 : decode cX11_layLeast 63 = .ok (.iadd, 1) := by decide +kernel
theorem dX11_layLeast_64 : decode cX11_layLeast 64 = .ok (.iconst 1, 1) := by decide +kernel
theorem dX11_layLeast_65 : decode cX11_layLeast 65 = .ok (.isub, 1) := by decide +kernel
theorem dX11_layLeast_66 : decode cX11_layLeast 66 = .ok (.invokevirtual 89, 3) := by decide +kernel
theorem dX11_layLeast_69 : decode cX11_layLeast 69 = .ok (.if_icmp .ne 7, 3) := by decide +kernel
theorem dX11_layLeast_72 : decode cX11_layLeast 72 = .ok (.iconst 0, 1) := by decide +kernel
theorem dX11_layLeast_73 : decode cX11_layLeast 73 = .ok (.goto 9, 3) := by decide +kernel
theorem dX11_layLeast_76 : decode cX11_layLeast 76 = .ok (.aload_n 0, 1) := by decide +kernel
theorem dX11_layLeast_77 : decode cX11_layLeast 77 = .ok (.getfield 7, 3) := by decide +kernel
theorem dX11_layLeast_80 : decode cX11_layLeast 80 = .ok (.iconst 1, 1) := by decide +kernel
theorem dX11_layLeast_81 : decode cX11_layLeast 81 = .ok (.iaload, 1) := by decide +kernel
theorem dX11_layLeast_82 : decode cX11_layLeast 82 = .ok (.istore 9, 2) := by decide +kernel
theorem dX11_layLeast_84 : decode cX11_layLeast 84 = .ok (.aload_n 0, 1) := by decide +kernel
theorem dX11_layLeast_85 : decode cX11_layLeast 85 = .ok (.getfield 61, 3) := by decide +kernel
theorem dX11_layLeast_88 : decode cX11_layLeast 88 = .ok (.bipush 25, 2) := by decide +kernel
theorem dX11_layLeast_90 : decode cX11_layLeast 90 = .ok (.iload 6, 2) := by decide +kernel
theorem dX11_layLeast_92 : decode cX11_layLeast 92 = .ok (.imul, 1) := by decide +kernel
theorem dX11_layLeast_93 : decode cX11_layLeast 93 = .ok (.iload 7, 2) := by decide +kernel
theorem dX11_layLeast_95 : decode cX11_layLeast 95 = .ok (.iadd, 1) := by decide +kernel
theorem dX11_layLeast_96 : decode cX11_layLeast 96 = .ok (.bipush 26, 2) := by decide +kernel
theorem dX11_layLeast_98 : decode cX11_layLeast 98 = .ok (.isub, 1) := by decide +kernel
theorem dX11_layLeast_99 : decode cX11_layLeast 99 = .ok (.iaload, 1) := by decide +kernel
theorem dX11_layLeast_100 : decode cX11_layLeast 100 = .ok (.iload 9, 2) := by decide +kernel
theorem dX11_layLeast_102 : decode cX11_layLeast 102 = .ok (.iadd, 1) := by decide +kernel
theorem dX11_layLeast_103 : decode cX11_layLeast 103 = .ok (.istore 8, 2) := by decide +kernel
theorem dX11_layLeast_105 : decode cX11_layLeast 105 = .ok (.iload 6, 2) := by decide +kernel
theorem dX11_layLeast_107 : decode cX11_layLeast 107 = .ok (.ifCond .le 29, 3) := by decide +kernel
theorem dX11_layLeast_110 : decode cX11_layLeast 110 = .ok (.aload_n 0, 1) := by decide +kernel
theorem dX11_layLeast_111 : decode cX11_layLeast 111 = .ok (.getfield 61, 3) := by decide +kernel
theorem dX11_layLeast_114 : decode cX11_layLeast 114 = .ok (.bipush 25, 2) := by decide +kernel
theorem dX11_layLeast_116 : decode cX11_layLeast 116 = .ok (.iload 6, 2) := by decide +kernel
theorem dX11_layLeast_118 : decode cX11_layLeast 118 = .ok (.imul, 1) := by decide +kernel
theorem dX11_layLeast_119 : decode cX11_layLeast 119 = .ok (.iload 7, 2) := by decide +kernel
theorem dX11_layLeast_121 : decode cX11_layLeast 121 = .ok (.iadd, 1) := by decide +kernel
theorem dX11_layLeast_122 : decode cX11_layLeast 122 = .ok (.bipush 25, 2) := by decide +kernel
theorem dX11_layLeast_124 : decode cX11_layLeast 124 = .ok (.isub, 1) := by decide +kernel
theorem dX11_layLeast_125 : decode cX11_layLeast 125 = .ok (.iaload, 1) := by decide +kernel
theorem dX11_layLeast_126 : decode cX11_layLeast 126 = .ok (.aload_n 0, 1) := by decide +kernel
theorem dX11_layLeast_127 : decode cX11_layLeast 127 = .ok (.getfield 7, 3) := by decide +kernel
theorem dX11_layLeast_130 : decode cX11_layLeast 130 = .ok (.iconst 2, 1) := by decide +kernel
theorem dX11_layLeast_131 : decode cX11_layLeast 131 = .ok (.iaload, 1) := by decide +kernel
theorem dX11_layLeast_132 : decode cX11_layLeast 132 = .ok (.iadd, 1) := by decide +kernel
theorem dX11_layLeast_133 : decode cX11_layLeast 133 = .ok (.goto 5, 3) := by decide +kernel
theorem dX11_layLeast_136 : decode cX11_layLeast 136 = .ok (.ldc 117, 2) := by decide +kernel
theorem dX11_layLeast_138 : decode cX11_layLeast 138 = .ok (.istore 9, 2) := by decide +kernel
theorem dX11_layLeast_140 : decode cX11_layLeast 140 = .ok (.iload 7, 2) := by decide +kernel
theorem dX11_layLeast_142 : decode cX11_layLeast 142 = .ok (.ifCond .le 28, 3) := by decide +kernel
theorem dX11_layLeast_145 : decode cX11_layLeast 145 = .ok (.aload_n 0, 1) := by decide +kernel
theorem dX11_layLeast_146 : decode cX11_layLeast 146 = .ok (.getfield 61, 3) := by decide +kernel
theorem dX11_layLeast_149 : decode cX11_layLeast 149 = .ok (.bipush 25, 2) := by decide +kernel
theorem dX11_layLeast_151 : decode cX11_layLeast 151 = .ok (.iload 6, 2) := by decide +kernel
theorem dX11_layLeast_153 : decode cX11_layLeast 153 = .ok (.imul, 1) := by decide +kernel
theorem dX11_layLeast_154 : decode cX11_layLeast 154 = .ok (.iload 7, 2) := by decide +kernel
theorem dX11_layLeast_156 : decode cX11_layLeast 156 = .ok (.iadd, 1) := by decide +kernel
theorem dX11_layLeast_157 : decode cX11_layLeast 157 = .ok (.iconst 1, 1) := by decide +kernel
theorem dX11_layLeast_158 : decode cX11_layLeast 158 = .ok (.isub, 1) := by decide +kernel
theorem dX11_layLeast_159 : decode cX11_layLeast 159 = .ok (.iaload, 1) := by decide +kernel
theorem dX11_layLeast_160 : decode cX11_layLeast 160 = .ok (.aload_n 0, 1) := by decide +kernel
theorem dX11_layLeast_161 : decode cX11_layLeast 161 = .ok (.getfield 7, 3) := by decide +kernel
theorem dX11_layLeast_164 : decode cX11_layLeast 164 = .ok (.iconst 2, 1) := by decide +kernel
theorem dX11_layLeast_165 : decode cX11_layLeast 165 = .ok (.iaload, 1) := by decide +kernel
theorem dX11_layLeast_166 : decode cX11_layLeast 166 = .ok (.iadd, 1) := by decide +kernel
theorem dX11_layLeast_167 : decode cX11_layLeast 167 = .ok (.goto 5, 3) := by decide +kernel
theorem dX11_layLeast_170 : decode cX11_layLeast 170 = .ok (.ldc 117, 2) := by decide +kernel
theorem dX11_layLeast_172 : decode cX11_layLeast 172 = .ok (.istore 10, 2) := by decide +kernel
theorem dX11_layLeast_174 : decode cX11_layLeast 174 = .ok (.iload 9, 2) := by decide +kernel
theorem dX11_layLeast_176 : decode cX11_layLeast 176 = .ok (.iload 8, 2) := by decide +kernel
theorem dX11_layLeast_178 : decode cX11_layLeast 178 = .ok (.if_icmp .ge 8, 3) := by decide +kernel
theorem dX11_layLeast_181 : decode cX11_layLeast 181 = .ok (.iload 9, 2) := by decide +kernel
theorem dX11_layLeast_183 : decode cX11_layLeast 183 = .ok (.goto 5, 3) := by decide +kernel
theorem dX11_layLeast_186 : decode cX11_layLeast 186 = .ok (.iload 8, 2) := by decide +kernel
theorem dX11_layLeast_188 : decode cX11_layLeast 188 = .ok (.istore 8, 2) := by decide +kernel
theorem dX11_layLeast_190 : decode cX11_layLeast 190 = .ok (.iload 10, 2) := by decide +kernel
theorem dX11_layLeast_192 : decode cX11_layLeast 192 = .ok (.iload 8, 2) := by decide +kernel
theorem dX11_layLeast_194 : decode cX11_layLeast 194 = .ok (.if_icmp .ge 8, 3) := by decide +kernel
theorem dX11_layLeast_197 : decode cX11_layLeast 197 = .ok (.iload 10, 2) := by decide +kernel
theorem dX11_layLeast_199 : decode cX11_layLeast 199 = .ok (.goto 5, 3) := by decide +kernel
theorem dX11_layLeast_202 : decode cX11_layLeast 202 = .ok (.iload 8, 2) := by decide +kernel
theorem dX11_layLeast_204 : decode cX11_layLeast 204 = .ok (.istore 8, 2) := by decide +kernel
theorem dX11_layLeast_206 : decode cX11_layLeast 206 = .ok (.iload 6, 2) := by decide +kernel
theorem dX11_layLeast_208 : decode cX11_layLeast 208 = .ok (.iload 7, 2) := by decide +kernel
theorem dX11_layLeast_210 : decode cX11_layLeast 210 = .ok (.if_icmp .le 11, 3) := by decide +kernel
theorem dX11_layLeast_213 : decode cX11_layLeast 213 = .ok (.iload 6, 2) := by decide +kernel
theorem dX11_layLeast_215 : decode cX11_layLeast 215 = .ok (.iload 7, 2) := by decide +kernel
theorem dX11_layLeast_217 : decode cX11_layLeast 217 = .ok (.isub, 1) := by decide +kernel
theorem dX11_layLeast_218 : decode cX11_layLeast 218 = .ok (.goto 8, 3) := by decide +kernel
theorem dX11_layLeast_221 : decode cX11_layLeast 221 = .ok (.iload 7, 2) := by decide +kernel
theorem dX11_layLeast_223 : decode cX11_layLeast 223 = .ok (.iload 6, 2) := by decide +kernel
theorem dX11_layLeast_225 : decode cX11_layLeast 225 = .ok (.isub, 1) := by decide +kernel
theorem dX11_layLeast_226 : decode cX11_layLeast 226 = .ok (.istore 11, 2) := by decide +kernel
theorem dX11_layLeast_228 : decode cX11_layLeast 228 = .ok (.aload_n 0, 1) := by decide +kernel
theorem dX11_layLeast_229 : decode cX11_layLeast 229 = .ok (.getfield 61, 3) := by decide +kernel
theorem dX11_layLeast_232 : decode cX11_layLeast 232 = .ok (.bipush 25, 2) := by decide +kernel
theorem dX11_layLeast_234 : decode cX11_layLeast 234 = .ok (.iload 6, 2) := by decide +kernel
theorem dX11_layLeast_236 : decode cX11_layLeast 236 = .ok (.imul, 1) := by decide +kernel
theorem dX11_layLeast_237 : decode cX11_layLeast 237 = .ok (.iload 7, 2) := by decide +kernel
theorem dX11_layLeast_239 : decode cX11_layLeast 239 = .ok (.iadd, 1) := by decide +kernel
theorem dX11_layLeast_240 : decode cX11_layLeast 240 = .ok (.iload 11, 2) := by decide +kernel
theorem dX11_layLeast_242 : decode cX11_layLeast 242 = .ok (.iload 5, 2) := by decide +kernel
theorem dX11_layLeast_244 : decode cX11_layLeast 244 = .ok (.if_icmp .le 8, 3) := by decide +kernel
theorem dX11_layLeast_247 : decode cX11_layLeast 247 = .ok (.ldc 117, 2) := by decide +kernel
theorem dX11_layLeast_249 : decode cX11_layLeast 249 = .ok (.goto 5, 3) := by decide +kernel
theorem dX11_layLeast_252 : decode cX11_layLeast 252 = .ok (.iload 8, 2) := by decide +kernel
theorem dX11_layLeast_254 : decode cX11_layLeast 254 = .ok (.iastore, 1) := by decide +kernel
theorem dX11_layLeast_255 : decode cX11_layLeast 255 = .ok (.iinc 7 1, 3) := by decide +kernel
theorem dX11_layLeast_258 : decode cX11_layLeast 258 = .ok (.goto (-246), 3) := by decide +kernel
theorem dX11_layLeast_261 : decode cX11_layLeast 261 = .ok (.iinc 6 1, 3) := by decide +kernel
theorem dX11_layLeast_264 : decode cX11_layLeast 264 = .ok (.goto (-261), 3) := by decide +kernel
theorem dX11_layLeast_267 : decode cX11_layLeast 267 = .ok (.return_, 1) := by decide +kernel
theorem dX11_bandFor_0 : decode cX11_bandFor 0 = .ok (.iload_n 0, 1) := by decide +kernel
theorem dX11_bandFor_1 : decode cX11_bandFor 1 = .ok (.iload_n 1, 1) := by decide +kernel
theorem dX11_bandFor_2 : decode cX11_bandFor 2 = .ok (.if_icmp .le 9, 3) := by decide +kernel
theorem dX11_bandFor_5 : decode cX11_bandFor 5 = .ok (.iload_n 0, 1) := by decide +kernel
theorem dX11_bandFor_6 : decode cX11_bandFor 6 = .ok (.iload_n 1, 1) := by decide +kernel
theorem dX11_bandFor_7 : decode cX11_bandFor 7 = .ok (.isub, 1) := by decide +kernel
theorem dX11_bandFor_8 : decode cX11_bandFor 8 = .ok (.goto 6, 3) := by decide +kernel
theorem dX11_bandFor_11 : decode cX11_bandFor 11 = .ok (.iload_n 1, 1) := by decide +kernel
theorem dX11_bandFor_12 : decode cX11_bandFor 12 = .ok (.iload_n 0, 1) := by decide +kernel
theorem dX11_bandFor_13 : decode cX11_bandFor 13 = .ok (.isub, 1) := by decide +kernel
theorem dX11_bandFor_14 : decode cX11_bandFor 14 = .ok (.istore_n 3, 1) := by decide +kernel
theorem dX11_bandFor_15 : decode cX11_bandFor 15 = .ok (.iload_n 3, 1) := by decide +kernel
theorem dX11_bandFor_16 : decode cX11_bandFor 16 = .ok (.iload_n 2, 1) := by decide +kernel
theorem dX11_bandFor_17 : decode cX11_bandFor 17 = .ok (.if_icmp .le 7, 3) := by decide +kernel
theorem dX11_bandFor_20 : decode cX11_bandFor 20 = .ok (.iload_n 3, 1) := by decide +kernel
theorem dX11_bandFor_21 : decode cX11_bandFor 21 = .ok (.goto 4, 3) := by decide +kernel
theorem dX11_bandFor_24 : decode cX11_bandFor 24 = .ok (.iload_n 2, 1) := by decide +kernel
theorem dX11_bandFor_25 : decode cX11_bandFor 25 = .ok (.ireturn, 1) := by decide +kernel
theorem dX11_lineUp_0 : decode cX11_lineUp 0 = .ok (.aload_n 0, 1) := by decide +kernel
theorem dX11_lineUp_1 : decode cX11_lineUp 1 = .ok (.getfield 58, 3) := by decide +kernel
theorem dX11_lineUp_4 : decode cX11_lineUp 4 = .ok (.iload_n 1, 1) := by decide +kernel
theorem dX11_lineUp_5 : decode cX11_lineUp 5 = .ok (.iload_n 2, 1) := by decide +kernel
theorem dX11_lineUp_6 : decode cX11_lineUp 6 = .ok (.iastore, 1) := by decide +kernel
theorem dX11_lineUp_7 : decode cX11_lineUp 7 = .ok (.aload_n 0, 1) := by decide +kernel
theorem dX11_lineUp_8 : decode cX11_lineUp 8 = .ok (.getfield 58, 3) := by decide +kernel
theorem dX11_lineUp_11 : decode cX11_lineUp 11 = .ok (.bipush 24, 2) := by decide +kernel
theorem dX11_lineUp_13 : decode cX11_lineUp 13 = .ok (.iload_n 2, 1) := by decide +kernel
theorem dX11_lineUp_14 : decode cX11_lineUp 14 = .ok (.iadd, 1) := by decide +kernel
theorem dX11_lineUp_15 : decode cX11_lineUp 15 = .ok (.iload_n 1, 1) := by decide +kernel
theorem dX11_lineUp_16 : decode cX11_lineUp 16 = .ok (.iastore, 1) := by decide +kernel
theorem dX11_lineUp_17 : decode cX11_lineUp 17 = .ok (.return_, 1) := by decide +kernel
theorem dX11_goBack_0 : decode cX11_goBack 0 = .ok (.iload_n 2, 1) := by decide +kernel
theorem dX11_goBack_1 : decode cX11_goBack 1 = .ok (.istore 5, 2) := by decide +kernel
theorem dX11_goBack_3 : decode cX11_goBack 3 = .ok (.iload 4, 2) := by decide +kernel
theorem dX11_goBack_5 : decode cX11_goBack 5 = .ok (.istore 6, 2) := by decide +kernel
theorem dX11_goBack_7 : decode cX11_goBack 7 = .ok (.iload 5, 2) := by decide +kernel
theorem dX11_goBack_9 : decode cX11_goBack 9 = .ok (.ifCond .gt 8, 3) := by decide +kernel
theorem dX11_goBack_12 : decode cX11_goBack 12 = .ok (.iload 6, 2) := by decide +kernel
theorem dX11_goBack_14 : decode cX11_goBack 14 = .ok (.ifCond .le 172, 3) := by decide +kernel
theorem dX11_goBack_17 : decode cX11_goBack 17 = .ok (.aload_n 0, 1) := by decide +kernel
theorem dX11_goBack_18 : decode cX11_goBack 18 = .ok (.getfield 61, 3) := by decide +kernel
theorem dX11_goBack_21 : decode cX11_goBack 21 = .ok (.bipush 25, 2) := by decide +kernel
theorem dX11_goBack_23 : decode cX11_goBack 23 = .ok (.iload 5, 2) := by decide +kernel
theorem dX11_goBack_25 : decode cX11_goBack 25 = .ok (.imul, 1) := by decide +kernel
theorem dX11_goBack_26 : decode cX11_goBack 26 = .ok (.iload 6, 2) := by decide +kernel
theorem dX11_goBack_28 : decode cX11_goBack 28 = .ok (.iadd, 1) := by decide +kernel
theorem dX11_goBack_29 : decode cX11_goBack 29 = .ok (.iaload, 1) := by decide +kernel
theorem dX11_goBack_30 : decode cX11_goBack 30 = .ok (.istore 7, 2) := by decide +kernel
theorem dX11_goBack_32 : decode cX11_goBack 32 = .ok (.iload 5, 2) := by decide +kernel
theorem dX11_goBack_34 : decode cX11_goBack 34 = .ok (.ifCond .le 12, 3) := by decide +kernel
theorem dX11_goBack_37 : decode cX11_goBack 37 = .ok (.iload 6, 2) := by decide +kernel
theorem dX11_goBack_39 : decode cX11_goBack 39 = .ok (.ifCond .le 7, 3) := by decide +kernel
theorem dX11_goBack_42 : decode cX11_goBack 42 = .ok (.iconst 1, 1) := by decide +kernel
theorem dX11_goBack_43 : decode cX11_goBack 43 = .ok (.goto 4, 3) := by decide +kernel
theorem dX11_goBack_46 : decode cX11_goBack 46 = .ok (.iconst 0, 1) := by decide +kernel
theorem dX11_goBack_47 : decode cX11_goBack 47 = .ok (.istore 8, 2) := by decide +kernel
theorem dX11_goBack_49 : decode cX11_goBack 49 = .ok (.iload 8, 2) := by decide +kernel
theorem dX11_goBack_51 : decode cX11_goBack 51 = .ok (.ifCond .eq 32, 3) := by decide +kernel
theorem dX11_goBack_54 : decode cX11_goBack 54 = .ok (.aload_n 0, 1) := by decide +kernel
theorem dX11_goBack_55 : decode cX11_goBack 55 = .ok (.iconst 0, 1) := by decide +kernel
theorem dX11_goBack_56 : decode cX11_goBack 56 = .ok (.iload_n 1, 1) := by decide +kernel
theorem dX11_goBack_57 : decode cX11_goBack 57 = .ok (.iload 5, 2) := by decide +kernel
theorem dX11_goBack_59 : decode cX11_goBack 59 = .ok (.iadd, 1) := by decide +kernel
theorem dX11_goBack_60 : decode cX11_goBack 60 = .ok (.iconst 1, 1) := by decide +kernel
theorem dX11_goBack_61 : decode cX11_goBack 61 = .ok (.isub, 1) := by decide +kernel
theorem dX11_goBack_62 : decode cX11_goBack 62 = .ok (.invokevirtual 89, 3) := by decide +kernel
theorem dX11_goBack_65 : decode cX11_goBack 65 = .ok (.aload_n 0, 1) := by decide +kernel
theorem dX11_goBack_66 : decode cX11_goBack 66 = .ok (.iconst 1, 1) := by decide +kernel
theorem dX11_goBack_67 : decode cX11_goBack 67 = .ok (.iload_n 3, 1) := by decide +kernel
theorem dX11_goBack_68 : decode cX11_goBack 68 = .ok (.iload 6, 2) := by decide +kernel
theorem dX11_goBack_70 : decode cX11_goBack 70 = .ok (.iadd, 1) := by decide +kernel
theorem dX11_goBack_71 : decode cX11_goBack 71 = .ok (.iconst 1, 1) := by decide +kernel
theorem dX11_goBack_72 : decode cX11_goBack 72 = .ok (.isub, 1) := by decide +kernel
theorem dX11_goBack_73 : decode cX11_goBack 73 = .ok (.invokevirtual 89, 3) := by decide +kernel
theorem dX11_goBack_76 : decode cX11_goBack 76 = .ok (.if_icmp .ne 7, 3) := by decide +kernel
theorem dX11_goBack_79 : decode cX11_goBack 79 = .ok (.iconst 0, 1) := by decide +kernel
theorem dX11_goBack_80 : decode cX11_goBack 80 = .ok (.goto 9, 3) := by decide +kernel
theorem dX11_goBack_83 : decode cX11_goBack 83 = .ok (.aload_n 0, 1) := by decide +kernel
theorem dX11_goBack_84 : decode cX11_goBack 84 = .ok (.getfield 7, 3) := by decide +kernel
theorem dX11_goBack_87 : decode cX11_goBack 87 = .ok (.iconst 1, 1) := by decide +kernel
theorem dX11_goBack_88 : decode cX11_goBack 88 = .ok (.iaload, 1) := by decide +kernel
theorem dX11_goBack_89 : decode cX11_goBack 89 = .ok (.istore 9, 2) := by decide +kernel
theorem dX11_goBack_91 : decode cX11_goBack 91 = .ok (.iload 8, 2) := by decide +kernel
theorem dX11_goBack_93 : decode cX11_goBack 93 = .ok (.ifCond .eq 48, 3) := by decide +kernel
theorem dX11_goBack_96 : decode cX11_goBack 96 = .ok (.aload_n 0, 1) := by decide +kernel
theorem dX11_goBack_97 : decode cX11_goBack 97 = .ok (.getfield 61, 3) := by decide +kernel
theorem dX11_goBack_100 : decode cX11_goBack 100 = .ok (.bipush 25, 2) := by decide +kernel
theorem dX11_goBack_102 : decode cX11_goBack 102 = .ok (.iload 5, 2) := by decide +kernel
theorem dX11_goBack_104 : decode cX11_goBack 104 = .ok (.imul, 1) := by decide +kernel
theorem dX11_goBack_105 : decode cX11_goBack 105 = .ok (.iload 6, 2) := by decide +kernel
theorem dX11_goBack_107 : decode cX11_goBack 107 = .ok (.iadd, 1) := by decide +kernel
theorem dX11_goBack_108 : decode cX11_goBack 108 = .ok (.bipush 26, 2) := by decide +kernel
theorem dX11_goBack_110 : decode cX11_goBack 110 = .ok (.isub, 1) := by decide +kernel
theorem dX11_goBack_111 : decode cX11_goBack 111 = .ok (.iaload, 1) := by decide +kernel
theorem dX11_goBack_112 : decode cX11_goBack 112 = .ok (.iload 9, 2) := by decide +kernel
theorem dX11_goBack_114 : decode cX11_goBack 114 = .ok (.iadd, 1) := by decide +kernel
theorem dX11_goBack_115 : decode cX11_goBack 115 = .ok (.iload 7, 2) := by decide +kernel
theorem dX11_goBack_117 : decode cX11_goBack 117 = .ok (.if_icmp .ne 24, 3) := by decide +kernel
theorem dX11_goBack_120 : decode cX11_goBack 120 = .ok (.iinc 5 (-1), 3) := by decide +kernel
theorem dX11_goBack_123 : decode cX11_goBack 123 = .ok (.iinc 6 (-1), 3) := by decide +kernel
theorem dX11_goBack_126 : decode cX11_goBack 126 = .ok (.aload_n 0, 1) := by decide +kernel
theorem dX11_goBack_127 : decode cX11_goBack 127 = .ok (.iload_n 1, 1) := by decide +kernel
theorem dX11_goBack_128 : decode cX11_goBack 128 = .ok (.iload 5, 2) := by decide +kernel
theorem dX11_goBack_130 : decode cX11_goBack 130 = .ok (.iadd, 1) := by decide +kernel
theorem dX11_goBack_131 : decode cX11_goBack 131 = .ok (.iload_n 3, 1) := by decide +kernel
theorem dX11_goBack_132 : decode cX11_goBack 132 = .ok (.iload 6, 2) := by decide +kernel
theorem dX11_goBack_134 : decode cX11_goBack 134 = .ok (.iadd, 1) := by decide +kernel
theorem dX11_goBack_135 : decode cX11_goBack 135 = .ok (.invokevirtual 118, 3) := by decide +kernel
theorem dX11_goBack_138 : decode cX11_goBack 138 = .ok (.goto 45, 3) := by decide +kernel
theorem dX11_goBack_141 : decode cX11_goBack 141 = .ok (.iload 5, 2) := by decide +kernel
theorem dX11_goBack_143 : decode cX11_goBack 143 = .ok (.ifCond .le 37, 3) := by decide +kernel
theorem dX11_goBack_146 : decode cX11_goBack 146 = .ok (.aload_n 0, 1) := by decide +kernel
theorem dX11_goBack_147 : decode cX11_goBack 147 = .ok (.getfield 61, 3) := by decide +kernel
theorem dX11_goBack_150 : decode cX11_goBack 150 = .ok (.bipush 25, 2) := by decide +kernel
theorem dX11_goBack_152 : decode cX11_goBack 152 = .ok (.iload 5, 2) := by decide +kernel
theorem dX11_goBack_154 : decode cX11_goBack 154 = .ok (.imul, 1) := by decide +kernel
theorem dX11_goBack_155 : decode cX11_goBack 155 = .ok (.iload 6, 2) := by decide +kernel
theorem dX11_goBack_157 : decode cX11_goBack 157 = .ok (.iadd, 1) := by decide +kernel
theorem dX11_goBack_158 : decode cX11_goBack 158 = .ok (.bipush 25, 2) := by decide +kernel
theorem dX11_goBack_160 : decode cX11_goBack 160 = .ok (.isub, 1) := by decide +kernel
theorem dX11_goBack_161 : decode cX11_goBack 161 = .ok (.iaload, 1) := by decide +kernel
theorem dX11_goBack_162 : decode cX11_goBack 162 = .ok (.aload_n 0, 1) := by decide +kernel
theorem dX11_goBack_163 : decode cX11_goBack 163 = .ok (.getfield 7, 3) := by decide +kernel
theorem dX11_goBack_166 : decode cX11_goBack 166 = .ok (.iconst 2, 1) := by decide +kernel
theorem dX11_goBack_167 : decode cX11_goBack 167 = .ok (.iaload, 1) := by decide +kernel
theorem dX11_goBack_168 : decode cX11_goBack 168 = .ok (.iadd, 1) := by decide +kernel
theorem dX11_goBack_169 : decode cX11_goBack 169 = .ok (.iload 7, 2) := by decide +kernel
theorem dX11_goBack_171 : decode cX11_goBack 171 = .ok (.if_icmp .ne 9, 3) := by decide +kernel
theorem dX11_goBack_174 : decode cX11_goBack 174 = .ok (.iinc 5 (-1), 3) := by decide +kernel
theorem dX11_goBack_177 : decode cX11_goBack 177 = .ok (.goto 6, 3) := by decide +kernel
theorem dX11_goBack_180 : decode cX11_goBack 180 = .ok (.iinc 6 (-1), 3) := by decide +kernel
theorem dX11_goBack_183 : decode cX11_goBack 183 = .ok (.goto (-176), 3) := by decide +kernel
theorem dX11_goBack_186 : decode cX11_goBack 186 = .ok (.return_, 1) := by decide +kernel
theorem dX11_addGap_0 : decode cX11_addGap 0 = .ok (.aload_n 0, 1) := by decide +kernel
theorem dX11_addGap_1 : decode cX11_addGap 1 = .ok (.getfield 49, 3) := by decide +kernel
theorem dX11_addGap_4 : decode cX11_addGap 4 = .ok (.iconst 2, 1) := by decide +kernel
theorem dX11_addGap_5 : decode cX11_addGap 5 = .ok (.aload_n 0, 1) := by decide +kernel
theorem dX11_addGap_6 : decode cX11_addGap 6 = .ok (.getfield 122, 3) := by decide +kernel
theorem dX11_addGap_9 : decode cX11_addGap 9 = .ok (.imul, 1) := by decide +kernel
theorem dX11_addGap_10 : decode cX11_addGap 10 = .ok (.iload_n 1, 1) := by decide +kernel
theorem dX11_addGap_11 : decode cX11_addGap 11 = .ok (.iastore, 1) := by decide +kernel
theorem dX11_addGap_12 : decode cX11_addGap 12 = .ok (.aload_n 0, 1) := by decide +kernel
theorem dX11_addGap_13 : decode cX11_addGap 13 = .ok (.getfield 49, 3) := by decide +kernel
theorem dX11_addGap_16 : decode cX11_addGap 16 = .ok (.iconst 2, 1) := by decide +kernel
theorem dX11_addGap_17 : decode cX11_addGap 17 = .ok (.aload_n 0, 1) := by decide +kernel
theorem dX11_addGap_18 : decode cX11_addGap 18 = .ok (.getfield 122, 3) := by decide +kernel
theorem dX11_addGap_21 : decode cX11_addGap 21 = .ok (.imul, 1) := by decide +kernel
theorem dX11_addGap_22 : decode cX11_addGap 22 = .ok (.iconst 1, 1) := by decide +kernel
theorem dX11_addGap_23 : decode cX11_addGap 23 = .ok (.iadd, 1) := by decide +kernel
theorem dX11_addGap_24 : decode cX11_addGap 24 = .ok (.iload_n 3, 1) := by decide +kernel
theorem dX11_addGap_25 : decode cX11_addGap 25 = .ok (.iastore, 1) := by decide +kernel
theorem dX11_addGap_26 : decode cX11_addGap 26 = .ok (.aload_n 0, 1) := by decide +kernel
theorem dX11_addGap_27 : decode cX11_addGap 27 = .ok (.getfield 52, 3) := by decide +kernel
theorem dX11_addGap_30 : decode cX11_addGap 30 = .ok (.iconst 2, 1) := by decide +kernel
theorem dX11_addGap_31 : decode cX11_addGap 31 = .ok (.aload_n 0, 1) := by decide +kernel
theorem dX11_addGap_32 : decode cX11_addGap 32 = .ok (.getfield 122, 3) := by decide +kernel
theorem dX11_addGap_35 : decode cX11_addGap 35 = .ok (.imul, 1) := by decide +kernel
theorem dX11_addGap_36 : decode cX11_addGap 36 = .ok (.iload_n 2, 1) := by decide +kernel
theorem dX11_addGap_37 : decode cX11_addGap 37 = .ok (.iastore, 1) := by decide +kernel
theorem dX11_addGap_38 : decode cX11_addGap 38 = .ok (.aload_n 0, 1) := by decide +kernel
theorem dX11_addGap_39 : decode cX11_addGap 39 = .ok (.getfield 52, 3) := by decide +kernel
theorem dX11_addGap_42 : decode cX11_addGap 42 = .ok (.iconst 2, 1) := by decide +kernel
theorem dX11_addGap_43 : decode cX11_addGap 43 = .ok (.aload_n 0, 1) := by decide +kernel
theorem dX11_addGap_44 : decode cX11_addGap 44 = .ok (.getfield 122, 3) := by decide +kernel
theorem dX11_addGap_47 : decode cX11_addGap 47 = .ok (.imul, 1) := by decide +kernel
theorem dX11_addGap_48 : decode cX11_addGap 48 = .ok (.iconst 1, 1) := by decide +kernel
theorem dX11_addGap_49 : decode cX11_addGap 49 = .ok (.iadd, 1) := by decide +kernel
theorem dX11_addGap_50 : decode cX11_addGap 50 = .ok (.iload 4, 2) := by decide +kernel
theorem dX11_addGap_52 : decode cX11_addGap 52 = .ok (.iastore, 1) := by decide +kernel
theorem dX11_addGap_53 : decode cX11_addGap 53 = .ok (.aload_n 0, 1) := by decide +kernel
theorem dX11_addGap_54 : decode cX11_addGap 54 = .ok (.iload_n 1, 1) := by decide +kernel
theorem dX11_addGap_55 : decode cX11_addGap 55 = .ok (.iload_n 2, 1) := by decide +kernel
theorem dX11_addGap_56 : decode cX11_addGap 56 = .ok (.iload_n 3, 1) := by decide +kernel
theorem dX11_addGap_57 : decode cX11_addGap 57 = .ok (.iload 4, 2) := by decide +kernel
theorem dX11_addGap_59 : decode cX11_addGap 59 = .ok (.iload_n 2, 1) := by decide +kernel
theorem dX11_addGap_60 : decode cX11_addGap 60 = .ok (.iload 4, 2) := by decide +kernel
theorem dX11_addGap_62 : decode cX11_addGap 62 = .ok (.aload_n 0, 1) := by decide +kernel
theorem dX11_addGap_63 : decode cX11_addGap 63 = .ok (.getfield 7, 3) := by decide +kernel
theorem dX11_addGap_66 : decode cX11_addGap 66 = .ok (.iconst 3, 1) := by decide +kernel
theorem dX11_addGap_67 : decode cX11_addGap 67 = .ok (.iaload, 1) := by decide +kernel
theorem dX11_addGap_68 : decode cX11_addGap 68 = .ok (.invokestatic 125, 3) := by decide +kernel
theorem dX11_addGap_71 : decode cX11_addGap 71 = .ok (.invokevirtual 129, 3) := by decide +kernel
theorem dX11_addGap_74 : decode cX11_addGap 74 = .ok (.aload_n 0, 1) := by decide +kernel
theorem dX11_addGap_75 : decode cX11_addGap 75 = .ok (.getfield 55, 3) := by decide +kernel
theorem dX11_addGap_78 : decode cX11_addGap 78 = .ok (.aload_n 0, 1) := by decide +kernel
theorem dX11_addGap_79 : decode cX11_addGap 79 = .ok (.getfield 122, 3) := by decide +kernel
theorem dX11_addGap_82 : decode cX11_addGap 82 = .ok (.aload_n 0, 1) := by decide +kernel
theorem dX11_addGap_83 : decode cX11_addGap 83 = .ok (.getfield 61, 3) := by decide +kernel
theorem dX11_addGap_86 : decode cX11_addGap 86 = .ok (.bipush 25, 2) := by decide +kernel
theorem dX11_addGap_88 : decode cX11_addGap 88 = .ok (.iload_n 2, 1) := by decide +kernel
theorem dX11_addGap_89 : decode cX11_addGap 89 = .ok (.imul, 1) := by decide +kernel
theorem dX11_addGap_90 : decode cX11_addGap 90 = .ok (.iload 4, 2) := by decide +kernel
theorem dX11_addGap_92 : decode cX11_addGap 92 = .ok (.iadd, 1) := by decide +kernel
theorem dX11_addGap_93 : decode cX11_addGap 93 = .ok (.iaload, 1) := by decide +kernel
theorem dX11_addGap_94 : decode cX11_addGap 94 = .ok (.iastore, 1) := by decide +kernel
theorem dX11_addGap_95 : decode cX11_addGap 95 = .ok (.aload_n 0, 1) := by decide +kernel
theorem dX11_addGap_96 : decode cX11_addGap 96 = .ok (.iload_n 1, 1) := by decide +kernel
theorem dX11_addGap_97 : decode cX11_addGap 97 = .ok (.iload_n 2, 1) := by decide +kernel
theorem dX11_addGap_98 : decode cX11_addGap 98 = .ok (.iload_n 3, 1) := by decide +kernel
theorem dX11_addGap_99 : decode cX11_addGap 99 = .ok (.iload 4, 2) := by decide +kernel
theorem dX11_addGap_101 : decode cX11_addGap 101 = .ok (.invokevirtual 133, 3) := by decide +kernel
theorem dX11_addGap_104 : decode cX11_addGap 104 = .ok (.aload_n 0, 1) := by decide +kernel
theorem dX11_addGap_105 : decode cX11_addGap 105 = .ok (.dup, 1) := by decide +kernel
theorem dX11_addGap_106 : decode cX11_addGap 106 = .ok (.getfield 122, 3) := by decide +kernel
theorem dX11_addGap_109 : decode cX11_addGap 109 = .ok (.iconst 1, 1) := by decide +kernel
theorem dX11_addGap_110 : decode cX11_addGap 110 = .ok (.iadd, 1) := by decide +kernel
theorem dX11_addGap_111 : decode cX11_addGap 111 = .ok (.putfield 122, 3) := by decide +kernel
theorem dX11_addGap_114 : decode cX11_addGap 114 = .ok (.return_, 1) := by decide +kernel
theorem dX11_layAll_0 : decode cX11_layAll 0 = .ok (.aload_n 0, 1) := by decide +kernel
theorem dX11_layAll_1 : decode cX11_layAll 1 = .ok (.invokevirtual 137, 3) := by decide +kernel
theorem dX11_layAll_4 : decode cX11_layAll 4 = .ok (.aload_n 0, 1) := by decide +kernel
theorem dX11_layAll_5 : decode cX11_layAll 5 = .ok (.iconst 0, 1) := by decide +kernel
theorem dX11_layAll_6 : decode cX11_layAll 6 = .ok (.putfield 122, 3) := by decide +kernel
theorem dX11_layAll_9 : decode cX11_layAll 9 = .ok (.iconst 0, 1) := by decide +kernel
theorem dX11_layAll_10 : decode cX11_layAll 10 = .ok (.istore_n 1, 1) := by decide +kernel
theorem dX11_layAll_11 : decode cX11_layAll 11 = .ok (.iload_n 1, 1) := by decide +kernel
theorem dX11_layAll_12 : decode cX11_layAll 12 = .ok (.bipush 48, 2) := by decide +kernel
theorem dX11_layAll_14 : decode cX11_layAll 14 = .ok (.if_icmp .ge 16, 3) := by decide +kernel
theorem dX11_layAll_17 : decode cX11_layAll 17 = .ok (.aload_n 0, 1) := by decide +kernel
theorem dX11_layAll_18 : decode cX11_layAll 18 = .ok (.getfield 58, 3) := by decide +kernel
theorem dX11_layAll_21 : decode cX11_layAll 21 = .ok (.iload_n 1, 1) := by decide +kernel
theorem dX11_layAll_22 : decode cX11_layAll 22 = .ok (.iconst (-1), 1) := by decide +kernel
theorem dX11_layAll_23 : decode cX11_layAll 23 = .ok (.iastore, 1) := by decide +kernel
theorem dX11_layAll_24 : decode cX11_layAll 24 = .ok (.iinc 1 1, 3) := by decide +kernel
theorem dX11_layAll_27 : decode cX11_layAll 27 = .ok (.goto (-16), 3) := by decide +kernel
theorem dX11_layAll_30 : decode cX11_layAll 30 = .ok (.iconst 0, 1) := by decide +kernel
theorem dX11_layAll_31 : decode cX11_layAll 31 = .ok (.istore_n 1, 1) := by decide +kernel
theorem dX11_layAll_32 : decode cX11_layAll 32 = .ok (.iconst 0, 1) := by decide +kernel
theorem dX11_layAll_33 : decode cX11_layAll 33 = .ok (.istore_n 2, 1) := by decide +kernel
theorem dX11_layAll_34 : decode cX11_layAll 34 = .ok (.iconst 0, 1) := by decide +kernel
theorem dX11_layAll_35 : decode cX11_layAll 35 = .ok (.istore_n 3, 1) := by decide +kernel
theorem dX11_layAll_36 : decode cX11_layAll 36 = .ok (.iload_n 3, 1) := by decide +kernel
theorem dX11_layAll_37 : decode cX11_layAll 37 = .ok (.aload_n 0, 1) := by decide +kernel
theorem dX11_layAll_38 : decode cX11_layAll 38 = .ok (.getfield 114, 3) := by decide +kernel
theorem dX11_layAll_41 : decode cX11_layAll 41 = .ok (.if_icmp .ge 153, 3) := by decide +kernel
theorem dX11_layAll_44 : decode cX11_layAll 44 = .ok (.aload_n 0, 1) := by decide +kernel
theorem dX11_layAll_45 : decode cX11_layAll 45 = .ok (.getfield 25, 3) := by decide +kernel
theorem dX11_layAll_48 : decode cX11_layAll 48 = .ok (.aload_n 0, 1) := by decide +kernel
theorem dX11_layAll_49 : decode cX11_layAll 49 = .ok (.getfield 46, 3) := by decide +kernel
theorem dX11_layAll_52 : decode cX11_layAll 52 = .ok (.iload_n 3, 1) := by decide +kernel
theorem dX11_layAll_53 : decode cX11_layAll 53 = .ok (.iaload, 1) := by decide +kernel
theorem dX11_layAll_54 : decode cX11_layAll 54 = .ok (.iaload, 1) := by decide +kernel
theorem dX11_layAll_55 : decode cX11_layAll 55 = .ok (.iload_n 1, 1) := by decide +kernel
theorem dX11_layAll_56 : decode cX11_layAll 56 = .ok (.isub, 1) := by decide +kernel
theorem dX11_layAll_57 : decode cX11_layAll 57 = .ok (.istore 4, 2) := by decide +kernel
theorem dX11_layAll_59 : decode cX11_layAll 59 = .ok (.aload_n 0, 1) := by decide +kernel
theorem dX11_layAll_60 : decode cX11_layAll 60 = .ok (.getfield 28, 3) := by decide +kernel
theorem dX11_layAll_63 : decode cX11_layAll 63 = .ok (.aload_n 0, 1) := by decide +kernel
theorem dX11_layAll_64 : decode cX11_layAll 64 = .ok (.getfield 46, 3) := by decide +kernel
theorem dX11_layAll_67 : decode cX11_layAll 67 = .ok (.iload_n 3, 1) := by decide +kernel
theorem dX11_layAll_68 : decode cX11_layAll 68 = .ok (.iaload, 1) := by decide +kernel
theorem dX11_layAll_69 : decode cX11_layAll 69 = .ok (.iaload, 1) := by decide +kernel
theorem dX11_layAll_70 : decode cX11_layAll 70 = .ok (.iload_n 2, 1) := by decide +kernel
theorem dX11_layAll_71 : decode cX11_layAll 71 = .ok (.isub, 1) := by decide +kernel
theorem dX11_layAll_72 : decode cX11_layAll 72 = .ok (.istore 5, 2) := by decide +kernel
theorem dX11_layAll_74 : decode cX11_layAll 74 = .ok (.iload_n 3, 1) := by decide +kernel
theorem dX11_layAll_75 : decode cX11_layAll 75 = .ok (.ifCond .eq 13, 3) := by decide +kernel
theorem dX11_layAll_78 : decode cX11_layAll 78 = .ok (.iload 4, 2) := by decide +kernel
theorem dX11_layAll_80 : decode cX11_layAll 80 = .ok (.ifCond .gt 8, 3) := by decide +kernel
theorem dX11_layAll_83 : decode cX11_layAll 83 = .ok (.iload 5, 2) := by decide +kernel
theorem dX11_layAll_85 : decode cX11_layAll 85 = .ok (.ifCond .le 13, 3) := by decide +kernel
theorem dX11_layAll_88 : decode cX11_layAll 88 = .ok (.aload_n 0, 1) := by decide +kernel
theorem dX11_layAll_89 : decode cX11_layAll 89 = .ok (.iload_n 1, 1) := by decide +kernel
theorem dX11_layAll_90 : decode cX11_layAll 90 = .ok (.iload 4, 2) := by decide +kernel
theorem dX11_layAll_92 : decode cX11_layAll 92 = .ok (.iload_n 2, 1) := by decide +kernel
theorem dX11_layAll_93 : decode cX11_layAll 93 = .ok (.iload 5, 2) := by decide +kernel
theorem dX11_layAll_95 : decode cX11_layAll 95 = .ok (.invokevirtual 140, 3) := by decide +kernel
theorem dX11_layAll_98 : decode cX11_layAll 98 = .ok (.iconst 0, 1) := by decide +kernel
theorem dX11_layAll_99 : decode cX11_layAll 99 = .ok (.istore 6, 2) := by decide +kernel
theorem dX11_layAll_101 : decode cX11_layAll 101 = .ok (.iload 6, 2) := by decide +kernel
theorem dX11_layAll_103 : decode cX11_layAll 103 = .ok (.aload_n 0, 1) := by decide +kernel
theorem dX11_layAll_104 : decode cX11_layAll 104 = .ok (.getfield 7, 3) := by decide +kernel
theorem dX11_layAll_107 : decode cX11_layAll 107 = .ok (.iconst 0, 1) := by decide +kernel
theorem dX11_layAll_108 : decode cX11_layAll 108 = .ok (.iaload, 1) := by decide +kernel
theorem dX11_layAll_109 : decode cX11_layAll 109 = .ok (.if_icmp .ge 41, 3) := by decide +kernel
theorem dX11_layAll_112 : decode cX11_layAll 112 = .ok (.aload_n 0, 1) := by decide +kernel
theorem dX11_layAll_113 : decode cX11_layAll 113 = .ok (.aload_n 0, 1) := by decide +kernel
theorem dX11_layAll_114 : decode cX11_layAll 114 = .ok (.getfield 25, 3) := by decide +kernel
theorem dX11_layAll_117 : decode cX11_layAll 117 = .ok (.aload_n 0, 1) := by decide +kernel
theorem dX11_layAll_118 : decode cX11_layAll 118 = .ok (.getfield 46, 3) := by decide +kernel
theorem dX11_layAll_121 : decode cX11_layAll 121 = .ok (.iload_n 3, 1) := by decide +kernel
theorem dX11_layAll_122 : decode cX11_layAll 122 = .ok (.iaload, 1) := by decide +kernel
theorem dX11_layAll_123 : decode cX11_layAll 123 = .ok (.iaload, 1) := by decide +kernel
theorem dX11_layAll_124 : decode cX11_layAll 124 = .ok (.iload 6, 2) := by decide +kernel
theorem dX11_layAll_126 : decode cX11_layAll 126 = .ok (.iadd, 1) := by decide +kernel
theorem dX11_layAll_127 : decode cX11_layAll 127 = .ok (.aload_n 0, 1) := by decide +kernel
theorem dX11_layAll_128 : decode cX11_layAll 128 = .ok (.getfield 28, 3) := by decide +kernel
theorem dX11_layAll_131 : decode cX11_layAll 131 = .ok (.aload_n 0, 1) := by decide +kernel
theorem dX11_layAll_132 : decode cX11_layAll 132 = .ok (.getfield 46, 3) := by decide +kernel
theorem dX11_layAll_135 : decode cX11_layAll 135 = .ok (.iload_n 3, 1) := by decide +kernel
theorem dX11_layAll_136 : decode cX11_layAll 136 = .ok (.iaload, 1) := by decide +kernel
theorem dX11_layAll_137 : decode cX11_layAll 137 = .ok (.iaload, 1) := by decide +kernel
theorem dX11_layAll_138 : decode cX11_layAll 138 = .ok (.iload 6, 2) := by decide +kernel
theorem dX11_layAll_140 : decode cX11_layAll 140 = .ok (.iadd, 1) := by decide +kernel
theorem dX11_layAll_141 : decode cX11_layAll 141 = .ok (.invokevirtual 118, 3) := by decide +kernel
theorem dX11_layAll_144 : decode cX11_layAll 144 = .ok (.iinc 6 1, 3) := by decide +kernel
theorem dX11_layAll_147 : decode cX11_layAll 147 = .ok (.goto (-46), 3) := by decide +kernel
theorem dX11_layAll_150 : decode cX11_layAll 150 = .ok (.aload_n 0, 1) := by decide +kernel
theorem dX11_layAll_151 : decode cX11_layAll 151 = .ok (.getfield 25, 3) := by decide +kernel
theorem dX11_layAll_154 : decode cX11_layAll 154 = .ok (.aload_n 0, 1) := by decide +kernel
theorem dX11_layAll_155 : decode cX11_layAll 155 = .ok (.getfield 46, 3) := by decide +kernel
theorem dX11_layAll_158 : decode cX11_layAll 158 = .ok (.iload_n 3, 1) := by decide +kernel
theorem dX11_layAll_159 : decode cX11_layAll 159 = .ok (.iaload, 1) := by decide +kernel
theorem dX11_layAll_160 : decode cX11_layAll 160 = .ok (.iaload, 1) := by decide +kernel
theorem dX11_layAll_161 : decode cX11_layAll 161 = .ok (.aload_n 0, 1) := by decide +kernel
theorem dX11_layAll_162 : decode cX11_layAll 162 = .ok (.getfield 7, 3) := by decide +kernel
theorem dX11_layAll_165 : decode cX11_layAll 165 = .ok (.iconst 0, 1) := by decide +kernel
theorem dX11_layAll_166 : decode cX11_layAll 166 = .ok (.iaload, 1) := by decide +kernel
theorem dX11_layAll_167 : decode cX11_layAll 167 = .ok (.iadd, 1) := by decide +kernel
theorem dX11_layAll_168 : decode cX11_layAll 168 = .ok (.istore_n 1, 1) := by decide +kernel
theorem dX11_layAll_169 : decode cX11_layAll 169 = .ok (.aload_n 0, 1) := by decide +kernel
theorem dX11_layAll_170 : decode cX11_layAll 170 = .ok (.getfield 28, 3) := by decide +kernel
theorem dX11_layAll_173 : decode cX11_layAll 173 = .ok (.aload_n 0, 1) := by decide +kernel
theorem dX11_layAll_174 : decode cX11_layAll 174 = .ok (.getfield 46, 3) := by decide +kernel
theorem dX11_layAll_177 : decode cX11_layAll 177 = .ok (.iload_n 3, 1) := by decide +kernel
theorem dX11_layAll_178 : decode cX11_layAll 178 = .ok (.iaload, 1) := by decide +kernel
theorem dX11_layAll_179 : decode cX11_layAll 179 = .ok (.iaload, 1) := by decide +kernel
theorem dX11_layAll_180 : decode cX11_layAll 180 = .ok (.aload_n 0, 1) := by decide +kernel
theorem dX11_layAll_181 : decode cX11_layAll 181 = .ok (.getfield 7, 3) := by decide +kernel
theorem dX11_layAll_184 : decode cX11_layAll 184 = .ok (.iconst 0, 1) := by decide +kernel
theorem dX11_layAll_185 : decode cX11_layAll 185 = .ok (.iaload, 1) := by decide +kernel
theorem dX11_layAll_186 : decode cX11_layAll 186 = .ok (.iadd, 1) := by decide +kernel
theorem dX11_layAll_187 : decode cX11_layAll 187 = .ok (.istore_n 2, 1) := by decide +kernel
theorem dX11_layAll_188 : decode cX11_layAll 188 = .ok (.iinc 3 1, 3) := by decide +kernel
theorem dX11_layAll_191 : decode cX11_layAll 191 = .ok (.goto (-155), 3) := by decide +kernel
theorem dX11_layAll_194 : decode cX11_layAll 194 = .ok (.aload_n 0, 1) := by decide +kernel
theorem dX11_layAll_195 : decode cX11_layAll 195 = .ok (.iload_n 1, 1) := by decide +kernel
theorem dX11_layAll_196 : decode cX11_layAll 196 = .ok (.aload_n 0, 1) := by decide +kernel
theorem dX11_layAll_197 : decode cX11_layAll 197 = .ok (.iconst 0, 1) := by decide +kernel
theorem dX11_layAll_198 : decode cX11_layAll 198 = .ok (.invokevirtual 85, 3) := by decide +kernel
theorem dX11_layAll_201 : decode cX11_layAll 201 = .ok (.iload_n 1, 1) := by decide +kernel
theorem dX11_layAll_202 : decode cX11_layAll 202 = .ok (.isub, 1) := by decide +kernel
theorem dX11_layAll_203 : decode cX11_layAll 203 = .ok (.iload_n 2, 1) := by decide +kernel
theorem dX11_layAll_204 : decode cX11_layAll 204 = .ok (.aload_n 0, 1) := by decide +kernel
theorem dX11_layAll_205 : decode cX11_layAll 205 = .ok (.iconst 1, 1) := by decide +kernel
theorem dX11_layAll_206 : decode cX11_layAll 206 = .ok (.invokevirtual 85, 3) := by decide +kernel
theorem dX11_layAll_209 : decode cX11_layAll 209 = .ok (.iload_n 2, 1) := by decide +kernel
theorem dX11_layAll_210 : decode cX11_layAll 210 = .ok (.isub, 1) := by decide +kernel
theorem dX11_layAll_211 : decode cX11_layAll 211 = .ok (.invokevirtual 140, 3) := by decide +kernel
theorem dX11_layAll_214 : decode cX11_layAll 214 = .ok (.return_, 1) := by decide +kernel
theorem dX11_costNow_0 : decode cX11_costNow 0 = .ok (.aload_n 0, 1) := by decide +kernel
theorem dX11_costNow_1 : decode cX11_costNow 1 = .ok (.invokevirtual 143, 3) := by decide +kernel
theorem dX11_costNow_4 : decode cX11_costNow 4 = .ok (.iconst 0, 1) := by decide +kernel
theorem dX11_costNow_5 : decode cX11_costNow 5 = .ok (.istore_n 1, 1) := by decide +kernel
theorem dX11_costNow_6 : decode cX11_costNow 6 = .ok (.iconst 0, 1) := by decide +kernel
theorem dX11_costNow_7 : decode cX11_costNow 7 = .ok (.istore_n 2, 1) := by decide +kernel
theorem dX11_costNow_8 : decode cX11_costNow 8 = .ok (.iload_n 2, 1) := by decide +kernel
theorem dX11_costNow_9 : decode cX11_costNow 9 = .ok (.aload_n 0, 1) := by decide +kernel
theorem dX11_costNow_10 : decode cX11_costNow 10 = .ok (.getfield 122, 3) := by decide +kernel
theorem dX11_costNow_13 : decode cX11_costNow 13 = .ok (.if_icmp .ge 18, 3) := by decide +kernel
theorem dX11_costNow_16 : decode cX11_costNow 16 = .ok (.iload_n 1, 1) := by decide +kernel
theorem dX11_costNow_17 : decode cX11_costNow 17 = .ok (.aload_n 0, 1) := by decide +kernel
theorem dX11_costNow_18 : decode cX11_costNow 18 = .ok (.getfield 55, 3) := by decide +kernel
theorem dX11_costNow_21 : decode cX11_costNow 21 = .ok (.iload_n 2, 1) := by decide +kernel
theorem dX11_costNow_22 : decode cX11_costNow 22 = .ok (.iaload, 1) := by decide +kernel
theorem dX11_costNow_23 : decode cX11_costNow 23 = .ok (.iadd, 1) := by decide +kernel
theorem dX11_costNow_24 : decode cX11_costNow 24 = .ok (.istore_n 1, 1) := by decide +kernel
theorem dX11_costNow_25 : decode cX11_costNow 25 = .ok (.iinc 2 1, 3) := by decide +kernel
theorem dX11_costNow_28 : decode cX11_costNow 28 = .ok (.goto (-20), 3) := by decide +kernel
theorem dX11_costNow_31 : decode cX11_costNow 31 = .ok (.iload_n 1, 1) := by decide +kernel
theorem dX11_costNow_32 : decode cX11_costNow 32 = .ok (.ireturn, 1) := by decide +kernel
theorem dX11_freeCost_0 : decode cX11_freeCost 0 = .ok (.aload_n 0, 1) := by decide +kernel
theorem dX11_freeCost_1 : decode cX11_freeCost 1 = .ok (.iconst 0, 1) := by decide +kernel
theorem dX11_freeCost_2 : decode cX11_freeCost 2 = .ok (.aload_n 0, 1) := by decide +kernel
theorem dX11_freeCost_3 : decode cX11_freeCost 3 = .ok (.iconst 0, 1) := by decide +kernel
theorem dX11_freeCost_4 : decode cX11_freeCost 4 = .ok (.invokevirtual 85, 3) := by decide +kernel
theorem dX11_freeCost_7 : decode cX11_freeCost 7 = .ok (.iconst 0, 1) := by decide +kernel
theorem dX11_freeCost_8 : decode cX11_freeCost 8 = .ok (.aload_n 0, 1) := by decide +kernel
theorem dX11_freeCost_9 : decode cX11_freeCost 9 = .ok (.iconst 1, 1) := by decide +kernel
theorem dX11_freeCost_10 : decode cX11_freeCost 10 = .ok (.invokevirtual 85, 3) := by decide +kernel
theorem dX11_freeCost_13 : decode cX11_freeCost 13 = .ok (.bipush 24, 2) := by decide +kernel
theorem dX11_freeCost_15 : decode cX11_freeCost 15 = .ok (.invokevirtual 129, 3) := by decide +kernel
theorem dX11_freeCost_18 : decode cX11_freeCost 18 = .ok (.aload_n 0, 1) := by decide +kernel
theorem dX11_freeCost_19 : decode cX11_freeCost 19 = .ok (.getfield 61, 3) := by decide +kernel
theorem dX11_freeCost_22 : decode cX11_freeCost 22 = .ok (.bipush 25, 2) := by decide +kernel
theorem dX11_freeCost_24 : decode cX11_freeCost 24 = .ok (.aload_n 0, 1) := by decide +kernel
theorem dX11_freeCost_25 : decode cX11_freeCost 25 = .ok (.iconst 0, 1) := by decide +kernel
theorem dX11_freeCost_26 : decode cX11_freeCost 26 = .ok (.invokevirtual 85, 3) := by decide +kernel
theorem dX11_freeCost_29 : decode cX11_freeCost 29 = .ok (.imul, 1) := by decide +kernel
theorem dX11_freeCost_30 : decode cX11_freeCost 30 = .ok (.aload_n 0, 1) := by decide +kernel
theorem dX11_freeCost_31 : decode cX11_freeCost 31 = .ok (.iconst 1, 1) := by decide +kernel
theorem dX11_freeCost_32 : decode cX11_freeCost 32 = .ok (.invokevirtual 85, 3) := by decide +kernel
theorem dX11_freeCost_35 : decode cX11_freeCost 35 = .ok (.iadd, 1) := by decide +kernel
theorem dX11_freeCost_36 : decode cX11_freeCost 36 = .ok (.iaload, 1) := by decide +kernel
theorem dX11_freeCost_37 : decode cX11_freeCost 37 = .ok (.ireturn, 1) := by decide +kernel
theorem dX11_put_0 : decode cX11_put 0 = .ok (.aload_n 0, 1) := by decide +kernel
theorem dX11_put_1 : decode cX11_put 1 = .ok (.iload_n 1, 1) := by decide +kernel
theorem dX11_put_2 : decode cX11_put 2 = .ok (.invokestatic 81, 3) := by decide +kernel
theorem dX11_put_5 : decode cX11_put 5 = .ok (.ifCond .eq 16, 3) := by decide +kernel
theorem dX11_put_8 : decode cX11_put 8 = .ok (.iload_n 2, 1) := by decide +kernel
theorem dX11_put_9 : decode cX11_put 9 = .ok (.iconst 0, 1) := by decide +kernel
theorem dX11_put_10 : decode cX11_put 10 = .ok (.aload_n 0, 1) := by decide +kernel
theorem dX11_put_11 : decode cX11_put 11 = .ok (.iload_n 1, 1) := by decide +kernel
theorem dX11_put_12 : decode cX11_put 12 = .ok (.invokevirtual 85, 3) := by decide +kernel
theorem dX11_put_15 : decode cX11_put 15 = .ok (.invokestatic 77, 3) := by decide +kernel
theorem dX11_put_18 : decode cX11_put 18 = .ok (.ifCond .ne 7, 3) := by decide +kernel
theorem dX11_put_21 : decode cX11_put 21 = .ok (.iconst 1, 1) := by decide +kernel
theorem dX11_put_22 : decode cX11_put 22 = .ok (.goto 29, 3) := by decide +kernel
theorem dX11_put_25 : decode cX11_put 25 = .ok (.iload_n 3, 1) := by decide +kernel
theorem dX11_put_26 : decode cX11_put 26 = .ok (.invokestatic 146, 3) := by decide +kernel
theorem dX11_put_29 : decode cX11_put 29 = .ok (.ifCond .ne 7, 3) := by decide +kernel
theorem dX11_put_32 : decode cX11_put 32 = .ok (.iconst 2, 1) := by decide +kernel
theorem dX11_put_33 : decode cX11_put 33 = .ok (.goto 18, 3) := by decide +kernel
theorem dX11_put_36 : decode cX11_put 36 = .ok (.aload_n 0, 1) := by decide +kernel
theorem dX11_put_37 : decode cX11_put 37 = .ok (.iload_n 1, 1) := by decide +kernel
theorem dX11_put_38 : decode cX11_put 38 = .ok (.invokevirtual 85, 3) := by decide +kernel
theorem dX11_put_41 : decode cX11_put 41 = .ok (.bipush 24, 2) := by decide +kernel
theorem dX11_put_43 : decode cX11_put 43 = .ok (.if_icmp .ne 7, 3) := by decide +kernel
theorem dX11_put_46 : decode cX11_put 46 = .ok (.iconst 3, 1) := by decide +kernel
theorem dX11_put_47 : decode cX11_put 47 = .ok (.goto 4, 3) := by decide +kernel
theorem dX11_put_50 : decode cX11_put 50 = .ok (.iconst 0, 1) := by decide +kernel
theorem dX11_put_51 : decode cX11_put 51 = .ok (.putfield 70, 3) := by decide +kernel
theorem dX11_put_54 : decode cX11_put 54 = .ok (.aload_n 0, 1) := by decide +kernel
theorem dX11_put_55 : decode cX11_put 55 = .ok (.getfield 70, 3) := by decide +kernel
theorem dX11_put_58 : decode cX11_put 58 = .ok (.ifCond .le 5, 3) := by decide +kernel
theorem dX11_put_61 : decode cX11_put 61 = .ok (.iconst 0, 1) := by decide +kernel
theorem dX11_put_62 : decode cX11_put 62 = .ok (.ireturn, 1) := by decide +kernel
theorem dX11_put_63 : decode cX11_put 63 = .ok (.aload_n 0, 1) := by decide +kernel
theorem dX11_put_64 : decode cX11_put 64 = .ok (.invokevirtual 149, 3) := by decide +kernel
theorem dX11_put_67 : decode cX11_put 67 = .ok (.aload_n 0, 1) := by decide +kernel
theorem dX11_put_68 : decode cX11_put 68 = .ok (.iload_n 1, 1) := by decide +kernel
theorem dX11_put_69 : decode cX11_put 69 = .ok (.invokevirtual 85, 3) := by decide +kernel
theorem dX11_put_72 : decode cX11_put 72 = .ok (.istore 4, 2) := by decide +kernel
theorem dX11_put_74 : decode cX11_put 74 = .ok (.iload 4, 2) := by decide +kernel
theorem dX11_put_76 : decode cX11_put 76 = .ok (.iload_n 2, 1) := by decide +kernel
theorem dX11_put_77 : decode cX11_put 77 = .ok (.if_icmp .le 25, 3) := by decide +kernel
theorem dX11_put_80 : decode cX11_put 80 = .ok (.aload_n 0, 1) := by decide +kernel
theorem dX11_put_81 : decode cX11_put 81 = .ok (.iload_n 1, 1) := by decide +kernel
theorem dX11_put_82 : decode cX11_put 82 = .ok (.iload 4, 2) := by decide +kernel
theorem dX11_put_84 : decode cX11_put 84 = .ok (.aload_n 0, 1) := by decide +kernel
theorem dX11_put_85 : decode cX11_put 85 = .ok (.iload_n 1, 1) := by decide +kernel
theorem dX11_put_86 : decode cX11_put 86 = .ok (.iload 4, 2) := by decide +kernel
theorem dX11_put_88 : decode cX11_put 88 = .ok (.iconst 1, 1) := by decide +kernel
theorem dX11_put_89 : decode cX11_put 89 = .ok (.isub, 1) := by decide +kernel
theorem dX11_put_90 : decode cX11_put 90 = .ok (.invokevirtual 89, 3) := by decide +kernel
theorem dX11_put_93 : decode cX11_put 93 = .ok (.invokevirtual 152, 3) := by decide +kernel
theorem dX11_put_96 : decode cX11_put 96 = .ok (.iinc 4 (-1), 3) := by decide +kernel
theorem dX11_put_99 : decode cX11_put 99 = .ok (.goto (-25), 3) := by decide +kernel
theorem dX11_put_102 : decode cX11_put 102 = .ok (.aload_n 0, 1) := by decide +kernel
theorem dX11_put_103 : decode cX11_put 103 = .ok (.iload_n 1, 1) := by decide +kernel
theorem dX11_put_104 : decode cX11_put 104 = .ok (.iload_n 2, 1) := by decide +kernel
theorem dX11_put_105 : decode cX11_put 105 = .ok (.iload_n 3, 1) := by decide +kernel
theorem dX11_put_106 : decode cX11_put 106 = .ok (.invokevirtual 152, 3) := by decide +kernel
theorem dX11_put_109 : decode cX11_put 109 = .ok (.aload_n 0, 1) := by decide +kernel
theorem dX11_put_110 : decode cX11_put 110 = .ok (.getfield 7, 3) := by decide +kernel
theorem dX11_put_113 : decode cX11_put 113 = .ok (.iconst 4, 1) := by decide +kernel
theorem dX11_put_114 : decode cX11_put 114 = .ok (.iload_n 1, 1) := by decide +kernel
theorem dX11_put_115 : decode cX11_put 115 = .ok (.iadd, 1) := by decide +kernel
theorem dX11_put_116 : decode cX11_put 116 = .ok (.dup2, 1) := by decide +kernel
theorem dX11_put_117 : decode cX11_put 117 = .ok (.iaload, 1) := by decide +kernel
theorem dX11_put_118 : decode cX11_put 118 = .ok (.iconst 1, 1) := by decide +kernel
theorem dX11_put_119 : decode cX11_put 119 = .ok (.iadd, 1) := by decide +kernel
theorem dX11_put_120 : decode cX11_put 120 = .ok (.iastore, 1) := by decide +kernel
theorem dX11_put_121 : decode cX11_put 121 = .ok (.aload_n 0, 1) := by decide +kernel
theorem dX11_put_122 : decode cX11_put 122 = .ok (.iload_n 1, 1) := by decide +kernel
theorem dX11_put_123 : decode cX11_put 123 = .ok (.invokevirtual 85, 3) := by decide +kernel
theorem dX11_put_126 : decode cX11_put 126 = .ok (.ireturn, 1) := by decide +kernel
theorem dX11_take_0 : decode cX11_take 0 = .ok (.aload_n 0, 1) := by decide +kernel
theorem dX11_take_1 : decode cX11_take 1 = .ok (.aload_n 0, 1) := by decide +kernel
theorem dX11_take_2 : decode cX11_take 2 = .ok (.iload_n 1, 1) := by decide +kernel
theorem dX11_take_3 : decode cX11_take 3 = .ok (.iload_n 2, 1) := by decide +kernel
theorem dX11_take_4 : decode cX11_take 4 = .ok (.invokevirtual 156, 3) := by decide +kernel
theorem dX11_take_7 : decode cX11_take 7 = .ok (.ifCond .ne 7, 3) := by decide +kernel
theorem dX11_take_10 : decode cX11_take 10 = .ok (.iconst 1, 1) := by decide +kernel
theorem dX11_take_11 : decode cX11_take 11 = .ok (.goto 23, 3) := by decide +kernel
theorem dX11_take_14 : decode cX11_take 14 = .ok (.iload_n 3, 1) := by decide +kernel
theorem dX11_take_15 : decode cX11_take 15 = .ok (.iconst 1, 1) := by decide +kernel
theorem dX11_take_16 : decode cX11_take 16 = .ok (.aload_n 0, 1) := by decide +kernel
theorem dX11_take_17 : decode cX11_take 17 = .ok (.iload_n 1, 1) := by decide +kernel
theorem dX11_take_18 : decode cX11_take 18 = .ok (.invokevirtual 85, 3) := by decide +kernel
theorem dX11_take_21 : decode cX11_take 21 = .ok (.iload_n 2, 1) := by decide +kernel
theorem dX11_take_22 : decode cX11_take 22 = .ok (.isub, 1) := by decide +kernel
theorem dX11_take_23 : decode cX11_take 23 = .ok (.invokestatic 77, 3) := by decide +kernel
theorem dX11_take_26 : decode cX11_take 26 = .ok (.ifCond .eq 7, 3) := by decide +kernel
theorem dX11_take_29 : decode cX11_take 29 = .ok (.iconst 0, 1) := by decide +kernel
theorem dX11_take_30 : decode cX11_take 30 = .ok (.goto 4, 3) := by decide +kernel
theorem dX11_take_33 : decode cX11_take 33 = .ok (.iconst 2, 1) := by decide +kernel
theorem dX11_take_34 : decode cX11_take 34 = .ok (.putfield 70, 3) := by decide +kernel
theorem dX11_take_37 : decode cX11_take 37 = .ok (.aload_n 0, 1) := by decide +kernel
theorem dX11_take_38 : decode cX11_take 38 = .ok (.getfield 70, 3) := by decide +kernel
theorem dX11_take_41 : decode cX11_take 41 = .ok (.ifCond .le 5, 3) := by decide +kernel
theorem dX11_take_44 : decode cX11_take 44 = .ok (.iconst 0, 1) := by decide +kernel
theorem dX11_take_45 : decode cX11_take 45 = .ok (.ireturn, 1) := by decide +kernel
theorem dX11_take_46 : decode cX11_take 46 = .ok (.aload_n 0, 1) := by decide +kernel
theorem dX11_take_47 : decode cX11_take 47 = .ok (.invokevirtual 149, 3) := by decide +kernel
theorem dX11_take_50 : decode cX11_take 50 = .ok (.aload_n 0, 1) := by decide +kernel
theorem dX11_take_51 : decode cX11_take 51 = .ok (.getfield 7, 3) := by decide +kernel
theorem dX11_take_54 : decode cX11_take 54 = .ok (.iconst 4, 1) := by decide +kernel
theorem dX11_take_55 : decode cX11_take 55 = .ok (.iload_n 1, 1) := by decide +kernel
theorem dX11_take_56 : decode cX11_take 56 = .ok (.iadd, 1) := by decide +kernel
theorem dX11_take_57 : decode cX11_take 57 = .ok (.dup2, 1) := by decide +kernel
theorem dX11_take_58 : decode cX11_take 58 = .ok (.iaload, 1) := by decide +kernel
theorem dX11_take_59 : decode cX11_take 59 = .ok (.iload_n 3, 1) := by decide +kernel
theorem dX11_take_60 : decode cX11_take 60 = .ok (.isub, 1) := by decide +kernel
theorem dX11_take_61 : decode cX11_take 61 = .ok (.iastore, 1) := by decide +kernel
theorem dX11_take_62 : decode cX11_take 62 = .ok (.iload_n 2, 1) := by decide +kernel
theorem dX11_take_63 : decode cX11_take 63 = .ok (.istore 4, 2) := by decide +kernel
theorem dX11_take_65 : decode cX11_take 65 = .ok (.iload 4, 2) := by decide +kernel
theorem dX11_take_67 : decode cX11_take 67 = .ok (.aload_n 0, 1) := by decide +kernel
theorem dX11_take_68 : decode cX11_take 68 = .ok (.iload_n 1, 1) := by decide +kernel
theorem dX11_take_69 : decode cX11_take 69 = .ok (.invokevirtual 85, 3) := by decide +kernel
theorem dX11_take_72 : decode cX11_take 72 = .ok (.if_icmp .ge 25, 3) := by decide +kernel
theorem dX11_take_75 : decode cX11_take 75 = .ok (.aload_n 0, 1) := by decide +kernel
theorem dX11_take_76 : decode cX11_take 76 = .ok (.iload_n 1, 1) := by decide +kernel
theorem dX11_take_77 : decode cX11_take 77 = .ok (.iload 4, 2) := by decide +kernel
theorem dX11_take_79 : decode cX11_take 79 = .ok (.aload_n 0, 1) := by decide +kernel
theorem dX11_take_80 : decode cX11_take 80 = .ok (.iload_n 1, 1) := by decide +kernel
theorem dX11_take_81 : decode cX11_take 81 = .ok (.iload 4, 2) := by decide +kernel
theorem dX11_take_83 : decode cX11_take 83 = .ok (.iload_n 3, 1) := by decide +kernel
theorem dX11_take_84 : decode cX11_take 84 = .ok (.iadd, 1) := by decide +kernel
theorem dX11_take_85 : decode cX11_take 85 = .ok (.invokevirtual 89, 3) := by decide +kernel
theorem dX11_take_88 : decode cX11_take 88 = .ok (.invokevirtual 152, 3) := by decide +kernel
theorem dX11_take_91 : decode cX11_take 91 = .ok (.iinc 4 1, 3) := by decide +kernel
theorem dX11_take_94 : decode cX11_take 94 = .ok (.goto (-29), 3) := by decide +kernel
theorem dX11_take_97 : decode cX11_take 97 = .ok (.aload_n 0, 1) := by decide +kernel
theorem dX11_take_98 : decode cX11_take 98 = .ok (.iload_n 1, 1) := by decide +kernel
theorem dX11_take_99 : decode cX11_take 99 = .ok (.invokevirtual 85, 3) := by decide +kernel
theorem dX11_take_102 : decode cX11_take 102 = .ok (.istore 4, 2) := by decide +kernel
theorem dX11_take_104 : decode cX11_take 104 = .ok (.iload 4, 2) := by decide +kernel
theorem dX11_take_106 : decode cX11_take 106 = .ok (.bipush 24, 2) := by decide +kernel
theorem dX11_take_108 : decode cX11_take 108 = .ok (.if_icmp .ge 17, 3) := by decide +kernel
theorem dX11_take_111 : decode cX11_take 111 = .ok (.aload_n 0, 1) := by decide +kernel
theorem dX11_take_112 : decode cX11_take 112 = .ok (.iload_n 1, 1) := by decide +kernel
theorem dX11_take_113 : decode cX11_take 113 = .ok (.iload 4, 2) := by decide +kernel
theorem dX11_take_115 : decode cX11_take 115 = .ok (.iconst 0, 1) := by decide +kernel
theorem dX11_take_116 : decode cX11_take 116 = .ok (.invokevirtual 152, 3) := by decide +kernel
theorem dX11_take_119 : decode cX11_take 119 = .ok (.iinc 4 1, 3) := by decide +kernel
theorem dX11_take_122 : decode cX11_take 122 = .ok (.goto (-18), 3) := by decide +kernel
theorem dX11_take_125 : decode cX11_take 125 = .ok (.aload_n 0, 1) := by decide +kernel
theorem dX11_take_126 : decode cX11_take 126 = .ok (.iload_n 1, 1) := by decide +kernel
theorem dX11_take_127 : decode cX11_take 127 = .ok (.invokevirtual 85, 3) := by decide +kernel
theorem dX11_take_130 : decode cX11_take 130 = .ok (.ireturn, 1) := by decide +kernel
theorem dX11_change_0 : decode cX11_change 0 = .ok (.aload_n 0, 1) := by decide +kernel
theorem dX11_change_1 : decode cX11_change 1 = .ok (.aload_n 0, 1) := by decide +kernel
theorem dX11_change_2 : decode cX11_change 2 = .ok (.iload_n 1, 1) := by decide +kernel
theorem dX11_change_3 : decode cX11_change 3 = .ok (.iload_n 2, 1) := by decide +kernel
theorem dX11_change_4 : decode cX11_change 4 = .ok (.invokevirtual 156, 3) := by decide +kernel
theorem dX11_change_7 : decode cX11_change 7 = .ok (.ifCond .ne 7, 3) := by decide +kernel
theorem dX11_change_10 : decode cX11_change 10 = .ok (.iconst 1, 1) := by decide +kernel
theorem dX11_change_11 : decode cX11_change 11 = .ok (.goto 15, 3) := by decide +kernel
theorem dX11_change_14 : decode cX11_change 14 = .ok (.iload_n 3, 1) := by decide +kernel
theorem dX11_change_15 : decode cX11_change 15 = .ok (.invokestatic 146, 3) := by decide +kernel
theorem dX11_change_18 : decode cX11_change 18 = .ok (.ifCond .eq 7, 3) := by decide +kernel
theorem dX11_change_21 : decode cX11_change 21 = .ok (.iconst 0, 1) := by decide +kernel
theorem dX11_change_22 : decode cX11_change 22 = .ok (.goto 4, 3) := by decide +kernel
theorem dX11_change_25 : decode cX11_change 25 = .ok (.iconst 2, 1) := by decide +kernel
theorem dX11_change_26 : decode cX11_change 26 = .ok (.putfield 70, 3) := by decide +kernel
theorem dX11_change_29 : decode cX11_change 29 = .ok (.aload_n 0, 1) := by decide +kernel
theorem dX11_change_30 : decode cX11_change 30 = .ok (.getfield 70, 3) := by decide +kernel
theorem dX11_change_33 : decode cX11_change 33 = .ok (.ifCond .le 5, 3) := by decide +kernel
theorem dX11_change_36 : decode cX11_change 36 = .ok (.iconst 0, 1) := by decide +kernel
theorem dX11_change_37 : decode cX11_change 37 = .ok (.ireturn, 1) := by decide +kernel
theorem dX11_change_38 : decode cX11_change 38 = .ok (.aload_n 0, 1) := by decide +kernel
theorem dX11_change_39 : decode cX11_change 39 = .ok (.invokevirtual 149, 3) := by decide +kernel
theorem dX11_change_42 : decode cX11_change 42 = .ok (.aload_n 0, 1) := by decide +kernel
theorem dX11_change_43 : decode cX11_change 43 = .ok (.iload_n 1, 1) := by decide +kernel
theorem dX11_change_44 : decode cX11_change 44 = .ok (.iload_n 2, 1) := by decide +kernel
theorem dX11_change_45 : decode cX11_change 45 = .ok (.invokevirtual 89, 3) := by decide +kernel
theorem dX11_change_48 : decode cX11_change 48 = .ok (.istore 4, 2) := by decide +kernel
theorem dX11_change_50 : decode cX11_change 50 = .ok (.aload_n 0, 1) := by decide +kernel
theorem dX11_change_51 : decode cX11_change 51 = .ok (.iload_n 1, 1) := by decide +kernel
theorem dX11_change_52 : decode cX11_change 52 = .ok (.iload_n 2, 1) := by decide +kernel
theorem dX11_change_53 : decode cX11_change 53 = .ok (.iload_n 3, 1) := by decide +kernel
theorem dX11_change_54 : decode cX11_change 54 = .ok (.invokevirtual 152, 3) := by decide +kernel
theorem dX11_change_57 : decode cX11_change 57 = .ok (.iload 4, 2) := by decide +kernel
theorem dX11_change_59 : decode cX11_change 59 = .ok (.ireturn, 1) := by decide +kernel
theorem dX11_turn_0 : decode cX11_turn 0 = .ok (.aload_n 0, 1) := by decide +kernel
theorem dX11_turn_1 : decode cX11_turn 1 = .ok (.aload_n 0, 1) := by decide +kernel
theorem dX11_turn_2 : decode cX11_turn 2 = .ok (.iload_n 1, 1) := by decide +kernel
theorem dX11_turn_3 : decode cX11_turn 3 = .ok (.iload_n 2, 1) := by decide +kernel
theorem dX11_turn_4 : decode cX11_turn 4 = .ok (.invokevirtual 156, 3) := by decide +kernel
theorem dX11_turn_7 : decode cX11_turn 7 = .ok (.ifCond .eq 12, 3) := by decide +kernel
theorem dX11_turn_10 : decode cX11_turn 10 = .ok (.aload_n 0, 1) := by decide +kernel
theorem dX11_turn_11 : decode cX11_turn 11 = .ok (.iload_n 1, 1) := by decide +kernel
theorem dX11_turn_12 : decode cX11_turn 12 = .ok (.iload_n 3, 1) := by decide +kernel
theorem dX11_turn_13 : decode cX11_turn 13 = .ok (.invokevirtual 156, 3) := by decide +kernel
theorem dX11_turn_16 : decode cX11_turn 16 = .ok (.ifCond .ne 7, 3) := by decide +kernel
theorem dX11_turn_19 : decode cX11_turn 19 = .ok (.iconst 1, 1) := by decide +kernel
theorem dX11_turn_20 : decode cX11_turn 20 = .ok (.goto 13, 3) := by decide +kernel
theorem dX11_turn_23 : decode cX11_turn 23 = .ok (.iload_n 3, 1) := by decide +kernel
theorem dX11_turn_24 : decode cX11_turn 24 = .ok (.iload_n 2, 1) := by decide +kernel
theorem dX11_turn_25 : decode cX11_turn 25 = .ok (.if_icmp .ge 7, 3) := by decide +kernel
theorem dX11_turn_28 : decode cX11_turn 28 = .ok (.iconst 2, 1) := by decide +kernel
theorem dX11_turn_29 : decode cX11_turn 29 = .ok (.goto 4, 3) := by decide +kernel
theorem dX11_turn_32 : decode cX11_turn 32 = .ok (.iconst 0, 1) := by decide +kernel
theorem dX11_turn_33 : decode cX11_turn 33 = .ok (.putfield 70, 3) := by decide +kernel
theorem dX11_turn_36 : decode cX11_turn 36 = .ok (.aload_n 0, 1) := by decide +kernel
theorem dX11_turn_37 : decode cX11_turn 37 = .ok (.getfield 70, 3) := by decide +kernel
theorem dX11_turn_40 : decode cX11_turn 40 = .ok (.ifCond .le 5, 3) := by decide +kernel
theorem dX11_turn_43 : decode cX11_turn 43 = .ok (.iconst 0, 1) := by decide +kernel
theorem dX11_turn_44 : decode cX11_turn 44 = .ok (.ireturn, 1) := by decide +kernel
theorem dX11_turn_45 : decode cX11_turn 45 = .ok (.aload_n 0, 1) := by decide +kernel
theorem dX11_turn_46 : decode cX11_turn 46 = .ok (.invokevirtual 149, 3) := by decide +kernel
theorem dX11_turn_49 : decode cX11_turn 49 = .ok (.iconst 0, 1) := by decide +kernel
theorem dX11_turn_50 : decode cX11_turn 50 = .ok (.istore 4, 2) := by decide +kernel
theorem dX11_turn_52 : decode cX11_turn 52 = .ok (.iconst 0, 1) := by decide +kernel
theorem dX11_turn_53 : decode cX11_turn 53 = .ok (.istore 5, 2) := by decide +kernel
theorem dX11_turn_55 : decode cX11_turn 55 = .ok (.iload_n 2, 1) := by decide +kernel
theorem dX11_turn_56 : decode cX11_turn 56 = .ok (.iload 5, 2) := by decide +kernel
theorem dX11_turn_58 : decode cX11_turn 58 = .ok (.iadd, 1) := by decide +kernel
theorem dX11_turn_59 : decode cX11_turn 59 = .ok (.iload_n 3, 1) := by decide +kernel
theorem dX11_turn_60 : decode cX11_turn 60 = .ok (.iload 5, 2) := by decide +kernel
theorem dX11_turn_62 : decode cX11_turn 62 = .ok (.isub, 1) := by decide +kernel
theorem dX11_turn_63 : decode cX11_turn 63 = .ok (.if_icmp .ge 73, 3) := by decide +kernel
theorem dX11_turn_66 : decode cX11_turn 66 = .ok (.aload_n 0, 1) := by decide +kernel
theorem dX11_turn_67 : decode cX11_turn 67 = .ok (.iload_n 1, 1) := by decide +kernel
theorem dX11_turn_68 : decode cX11_turn 68 = .ok (.iload_n 2, 1) := by decide +kernel
theorem dX11_turn_69 : decode cX11_turn 69 = .ok (.iload 5, 2) := by decide +kernel
theorem dX11_turn_71 : decode cX11_turn 71 = .ok (.iadd, 1) := by decide +kernel
theorem dX11_turn_72 : decode cX11_turn 72 = .ok (.invokevirtual 89, 3) := by decide +kernel
theorem dX11_turn_75 : decode cX11_turn 75 = .ok (.istore 6, 2) := by decide +kernel
theorem dX11_turn_77 : decode cX11_turn 77 = .ok (.iload 4, 2) := by decide +kernel
theorem dX11_turn_79 : decode cX11_turn 79 = .ok (.iload 6, 2) := by decide +kernel
theorem dX11_turn_81 : decode cX11_turn 81 = .ok (.aload_n 0, 1) := by decide +kernel
theorem dX11_turn_82 : decode cX11_turn 82 = .ok (.iload_n 1, 1) := by decide +kernel
theorem dX11_turn_83 : decode cX11_turn 83 = .ok (.iload_n 3, 1) := by decide +kernel
theorem dX11_turn_84 : decode cX11_turn 84 = .ok (.iload 5, 2) := by decide +kernel
theorem dX11_turn_86 : decode cX11_turn 86 = .ok (.isub, 1) := by decide +kernel
theorem dX11_turn_87 : decode cX11_turn 87 = .ok (.invokevirtual 89, 3) := by decide +kernel
theorem dX11_turn_90 : decode cX11_turn 90 = .ok (.if_icmp .ne 7, 3) := by decide +kernel
theorem dX11_turn_93 : decode cX11_turn 93 = .ok (.iconst 0, 1) := by decide +kernel
theorem dX11_turn_94 : decode cX11_turn 94 = .ok (.goto 4, 3) := by decide +kernel
theorem dX11_turn_97 : decode cX11_turn 97 = .ok (.iconst 2, 1) := by decide +kernel
theorem dX11_turn_98 : decode cX11_turn 98 = .ok (.iadd, 1) := by decide +kernel
theorem dX11_turn_99 : decode cX11_turn 99 = .ok (.istore 4, 2) := by decide +kernel
theorem dX11_turn_101 : decode cX11_turn 101 = .ok (.aload_n 0, 1) := by decide +kernel
theorem dX11_turn_102 : decode cX11_turn 102 = .ok (.iload_n 1, 1) := by decide +kernel
theorem dX11_turn_103 : decode cX11_turn 103 = .ok (.iload_n 2, 1) := by decide +kernel
theorem dX11_turn_104 : decode cX11_turn 104 = .ok (.iload 5, 2) := by decide +kernel
theorem dX11_turn_106 : decode cX11_turn 106 = .ok (.iadd, 1) := by decide +kernel
theorem dX11_turn_107 : decode cX11_turn 107 = .ok (.aload_n 0, 1) := by decide +kernel
theorem dX11_turn_108 : decode cX11_turn 108 = .ok (.iload_n 1, 1) := by decide +kernel
theorem dX11_turn_109 : decode cX11_turn 109 = .ok (.iload_n 3, 1) := by decide +kernel
theorem dX11_turn_110 : decode cX11_turn 110 = .ok (.iload 5, 2) := by decide +kernel
theorem dX11_turn_112 : decode cX11_turn 112 = .ok (.isub, 1) := by decide +kernel
theorem dX11_turn_113 : decode cX11_turn 113 = .ok (.invokevirtual 89, 3) := by decide +kernel
theorem dX11_turn_116 : decode cX11_turn 116 = .ok (.invokevirtual 152, 3) := by decide +kernel
theorem dX11_turn_119 : decode cX11_turn 119 = .ok (.aload_n 0, 1) := by decide +kernel
theorem dX11_turn_120 : decode cX11_turn 120 = .ok (.iload_n 1, 1) := by decide +kernel
theorem dX11_turn_121 : decode cX11_turn 121 = .ok (.iload_n 3, 1) := by decide +kernel
theorem dX11_turn_122 : decode cX11_turn 122 = .ok (.iload 5, 2) := by decide +kernel
theorem dX11_turn_124 : decode cX11_turn 124 = .ok (.isub, 1) := by decide +kernel
theorem dX11_turn_125 : decode cX11_turn 125 = .ok (.iload 6, 2) := by decide +kernel
theorem dX11_turn_127 : decode cX11_turn 127 = .ok (.invokevirtual 152, 3) := by decide +kernel
theorem dX11_turn_130 : decode cX11_turn 130 = .ok (.iinc 5 1, 3) := by decide +kernel
theorem dX11_turn_133 : decode cX11_turn 133 = .ok (.goto (-78), 3) := by decide +kernel
theorem dX11_turn_136 : decode cX11_turn 136 = .ok (.iload 4, 2) := by decide +kernel
theorem dX11_turn_138 : decode cX11_turn 138 = .ok (.ireturn, 1) := by decide +kernel
theorem dX11_copy_0 : decode cX11_copy 0 = .ok (.aload_n 0, 1) := by decide +kernel
theorem dX11_copy_1 : decode cX11_copy 1 = .ok (.aload_n 0, 1) := by decide +kernel
theorem dX11_copy_2 : decode cX11_copy 2 = .ok (.iload_n 1, 1) := by decide +kernel
theorem dX11_copy_3 : decode cX11_copy 3 = .ok (.iload_n 2, 1) := by decide +kernel
theorem dX11_copy_4 : decode cX11_copy 4 = .ok (.invokevirtual 156, 3) := by decide +kernel
theorem dX11_copy_7 : decode cX11_copy 7 = .ok (.ifCond .eq 20, 3) := by decide +kernel
theorem dX11_copy_10 : decode cX11_copy 10 = .ok (.aload_n 0, 1) := by decide +kernel
theorem dX11_copy_11 : decode cX11_copy 11 = .ok (.iload_n 1, 1) := by decide +kernel
theorem dX11_copy_12 : decode cX11_copy 12 = .ok (.iload_n 3, 1) := by decide +kernel
theorem dX11_copy_13 : decode cX11_copy 13 = .ok (.invokevirtual 156, 3) := by decide +kernel
theorem dX11_copy_16 : decode cX11_copy 16 = .ok (.ifCond .eq 11, 3) := by decide +kernel
theorem dX11_copy_19 : decode cX11_copy 19 = .ok (.iload 4, 2) := by decide +kernel
theorem dX11_copy_21 : decode cX11_copy 21 = .ok (.invokestatic 81, 3) := by decide +kernel
theorem dX11_copy_24 : decode cX11_copy 24 = .ok (.ifCond .ne 7, 3) := by decide +kernel
theorem dX11_copy_27 : decode cX11_copy 27 = .ok (.iconst 1, 1) := by decide +kernel
theorem dX11_copy_28 : decode cX11_copy 28 = .ok (.goto 13, 3) := by decide +kernel
theorem dX11_copy_31 : decode cX11_copy 31 = .ok (.iload_n 3, 1) := by decide +kernel
theorem dX11_copy_32 : decode cX11_copy 32 = .ok (.iload_n 2, 1) := by decide +kernel
theorem dX11_copy_33 : decode cX11_copy 33 = .ok (.if_icmp .ge 7, 3) := by decide +kernel
theorem dX11_copy_36 : decode cX11_copy 36 = .ok (.iconst 2, 1) := by decide +kernel
theorem dX11_copy_37 : decode cX11_copy 37 = .ok (.goto 4, 3) := by decide +kernel
theorem dX11_copy_40 : decode cX11_copy 40 = .ok (.iconst 0, 1) := by decide +kernel
theorem dX11_copy_41 : decode cX11_copy 41 = .ok (.putfield 70, 3) := by decide +kernel
theorem dX11_copy_44 : decode cX11_copy 44 = .ok (.aload_n 0, 1) := by decide +kernel
theorem dX11_copy_45 : decode cX11_copy 45 = .ok (.getfield 70, 3) := by decide +kernel
theorem dX11_copy_48 : decode cX11_copy 48 = .ok (.ifCond .ne 29, 3) := by decide +kernel
theorem dX11_copy_51 : decode cX11_copy 51 = .ok (.aload_n 0, 1) := by decide +kernel
theorem dX11_copy_52 : decode cX11_copy 52 = .ok (.aload_n 0, 1) := by decide +kernel
theorem dX11_copy_53 : decode cX11_copy 53 = .ok (.iload 4, 2) := by decide +kernel
theorem dX11_copy_55 : decode cX11_copy 55 = .ok (.invokevirtual 85, 3) := by decide +kernel
theorem dX11_copy_58 : decode cX11_copy 58 = .ok (.iload_n 3, 1) := by decide +kernel
theorem dX11_copy_59 : decode cX11_copy 59 = .ok (.iadd, 1) := by decide +kernel
theorem dX11_copy_60 : decode cX11_copy 60 = .ok (.iload_n 2, 1) := by decide +kernel
theorem dX11_copy_61 : decode cX11_copy 61 = .ok (.isub, 1) := by decide +kernel
theorem dX11_copy_62 : decode cX11_copy 62 = .ok (.iconst 1, 1) := by decide +kernel
theorem dX11_copy_63 : decode cX11_copy 63 = .ok (.iadd, 1) := by decide +kernel
theorem dX11_copy_64 : decode cX11_copy 64 = .ok (.bipush 24, 2) := by decide +kernel
theorem dX11_copy_66 : decode cX11_copy 66 = .ok (.if_icmp .le 7, 3) := by decide +kernel
theorem dX11_copy_69 : decode cX11_copy 69 = .ok (.iconst 3, 1) := by decide +kernel
theorem dX11_copy_70 : decode cX11_copy 70 = .ok (.goto 4, 3) := by decide +kernel
theorem dX11_copy_73 : decode cX11_copy 73 = .ok (.iconst 0, 1) := by decide +kernel
theorem dX11_copy_74 : decode cX11_copy 74 = .ok (.putfield 70, 3) := by decide +kernel
theorem dX11_copy_77 : decode cX11_copy 77 = .ok (.aload_n 0, 1) := by decide +kernel
theorem dX11_copy_78 : decode cX11_copy 78 = .ok (.getfield 70, 3) := by decide +kernel
theorem dX11_copy_81 : decode cX11_copy 81 = .ok (.ifCond .le 5, 3) := by decide +kernel
theorem dX11_copy_84 : decode cX11_copy 84 = .ok (.iconst 0, 1) := by decide +kernel
theorem dX11_copy_85 : decode cX11_copy 85 = .ok (.ireturn, 1) := by decide +kernel
theorem dX11_copy_86 : decode cX11_copy 86 = .ok (.aload_n 0, 1) := by decide +kernel
theorem dX11_copy_87 : decode cX11_copy 87 = .ok (.invokevirtual 149, 3) := by decide +kernel
theorem dX11_copy_90 : decode cX11_copy 90 = .ok (.aload_n 0, 1) := by decide +kernel
theorem dX11_copy_91 : decode cX11_copy 91 = .ok (.iload 4, 2) := by decide +kernel
theorem dX11_copy_93 : decode cX11_copy 93 = .ok (.invokevirtual 85, 3) := by decide +kernel
theorem dX11_copy_96 : decode cX11_copy 96 = .ok (.istore 5, 2) := by decide +kernel
theorem dX11_copy_98 : decode cX11_copy 98 = .ok (.iload_n 2, 1) := by decide +kernel
theorem dX11_copy_99 : decode cX11_copy 99 = .ok (.istore 6, 2) := by decide +kernel
theorem dX11_copy_101 : decode cX11_copy 101 = .ok (.iload 6, 2) := by decide +kernel
theorem dX11_copy_103 : decode cX11_copy 103 = .ok (.iload_n 3, 1) := by decide +kernel
theorem dX11_copy_104 : decode cX11_copy 104 = .ok (.if_icmp .gt 29, 3) := by decide +kernel
theorem dX11_copy_107 : decode cX11_copy 107 = .ok (.aload_n 0, 1) := by decide +kernel
theorem dX11_copy_108 : decode cX11_copy 108 = .ok (.iload 4, 2) := by decide +kernel
theorem dX11_copy_110 : decode cX11_copy 110 = .ok (.iload 5, 2) := by decide +kernel
theorem dX11_copy_112 : decode cX11_copy 112 = .ok (.iload 6, 2) := by decide +kernel
theorem dX11_copy_114 : decode cX11_copy 114 = .ok (.iadd, 1) := by decide +kernel
theorem dX11_copy_115 : decode cX11_copy 115 = .ok (.iload_n 2, 1) := by decide +kernel
theorem dX11_copy_116 : decode cX11_copy 116 = .ok (.isub, 1) := by decide +kernel
theorem dX11_copy_117 : decode cX11_copy 117 = .ok (.aload_n 0, 1) := by decide +kernel
theorem dX11_copy_118 : decode cX11_copy 118 = .ok (.iload_n 1, 1) := by decide +kernel
theorem dX11_copy_119 : decode cX11_copy 119 = .ok (.iload 6, 2) := by decide +kernel
theorem dX11_copy_121 : decode cX11_copy 121 = .ok (.invokevirtual 89, 3) := by decide +kernel
theorem dX11_copy_124 : decode cX11_copy 124 = .ok (.invokevirtual 152, 3) := by decide +kernel
theorem dX11_copy_127 : decode cX11_copy 127 = .ok (.iinc 6 1, 3) := by decide +kernel
theorem dX11_copy_130 : decode cX11_copy 130 = .ok (.goto (-29), 3) := by decide +kernel
theorem dX11_copy_133 : decode cX11_copy 133 = .ok (.aload_n 0, 1) := by decide +kernel
theorem dX11_copy_134 : decode cX11_copy 134 = .ok (.getfield 7, 3) := by decide +kernel
theorem dX11_copy_137 : decode cX11_copy 137 = .ok (.iconst 4, 1) := by decide +kernel
theorem dX11_copy_138 : decode cX11_copy 138 = .ok (.iload 4, 2) := by decide +kernel
theorem dX11_copy_140 : decode cX11_copy 140 = .ok (.iadd, 1) := by decide +kernel
theorem dX11_copy_141 : decode cX11_copy 141 = .ok (.dup2, 1) := by decide +kernel
theorem dX11_copy_142 : decode cX11_copy 142 = .ok (.iaload, 1) := by decide +kernel
theorem dX11_copy_143 : decode cX11_copy 143 = .ok (.iload_n 3, 1) := by decide +kernel
theorem dX11_copy_144 : decode cX11_copy 144 = .ok (.iload_n 2, 1) := by decide +kernel
theorem dX11_copy_145 : decode cX11_copy 145 = .ok (.isub, 1) := by decide +kernel
theorem dX11_copy_146 : decode cX11_copy 146 = .ok (.iconst 1, 1) := by decide +kernel
theorem dX11_copy_147 : decode cX11_copy 147 = .ok (.iadd, 1) := by decide +kernel
theorem dX11_copy_148 : decode cX11_copy 148 = .ok (.iadd, 1) := by decide +kernel
theorem dX11_copy_149 : decode cX11_copy 149 = .ok (.iastore, 1) := by decide +kernel
theorem dX11_copy_150 : decode cX11_copy 150 = .ok (.aload_n 0, 1) := by decide +kernel
theorem dX11_copy_151 : decode cX11_copy 151 = .ok (.iload 4, 2) := by decide +kernel
theorem dX11_copy_153 : decode cX11_copy 153 = .ok (.invokevirtual 85, 3) := by decide +kernel
theorem dX11_copy_156 : decode cX11_copy 156 = .ok (.ireturn, 1) := by decide +kernel
theorem dX11_exchange_0 : decode cX11_exchange 0 = .ok (.aload_n 0, 1) := by decide +kernel
theorem dX11_exchange_1 : decode cX11_exchange 1 = .ok (.iconst 0, 1) := by decide +kernel
theorem dX11_exchange_2 : decode cX11_exchange 2 = .ok (.putfield 70, 3) := by decide +kernel
theorem dX11_exchange_5 : decode cX11_exchange 5 = .ok (.aload_n 0, 1) := by decide +kernel
theorem dX11_exchange_6 : decode cX11_exchange 6 = .ok (.invokevirtual 149, 3) := by decide +kernel
theorem dX11_exchange_9 : decode cX11_exchange 9 = .ok (.iconst 0, 1) := by decide +kernel
theorem dX11_exchange_10 : decode cX11_exchange 10 = .ok (.istore_n 1, 1) := by decide +kernel
theorem dX11_exchange_11 : decode cX11_exchange 11 = .ok (.iload_n 1, 1) := by decide +kernel
theorem dX11_exchange_12 : decode cX11_exchange 12 = .ok (.bipush 24, 2) := by decide +kernel
theorem dX11_exchange_14 : decode cX11_exchange 14 = .ok (.if_icmp .ge 35, 3) := by decide +kernel
theorem dX11_exchange_17 : decode cX11_exchange 17 = .ok (.aload_n 0, 1) := by decide +kernel
theorem dX11_exchange_18 : decode cX11_exchange 18 = .ok (.iconst 0, 1) := by decide +kernel
theorem dX11_exchange_19 : decode cX11_exchange 19 = .ok (.iload_n 1, 1) := by decide +kernel
theorem dX11_exchange_20 : decode cX11_exchange 20 = .ok (.invokevirtual 89, 3) := by decide +kernel
theorem dX11_exchange_23 : decode cX11_exchange 23 = .ok (.istore_n 2, 1) := by decide +kernel
theorem dX11_exchange_24 : decode cX11_exchange 24 = .ok (.aload_n 0, 1) := by decide +kernel
theorem dX11_exchange_25 : decode cX11_exchange 25 = .ok (.iconst 0, 1) := by decide +kernel
theorem dX11_exchange_26 : decode cX11_exchange 26 = .ok (.iload_n 1, 1) := by decide +kernel
theorem dX11_exchange_27 : decode cX11_exchange 27 = .ok (.aload_n 0, 1) := by decide +kernel
theorem dX11_exchange_28 : decode cX11_exchange 28 = .ok (.iconst 1, 1) := by decide +kernel
theorem dX11_exchange_29 : decode cX11_exchange 29 = .ok (.iload_n 1, 1) := by decide +kernel
theorem dX11_exchange_30 : decode cX11_exchange 30 = .ok (.invokevirtual 89, 3) := by decide +kernel
theorem dX11_exchange_33 : decode cX11_exchange 33 = .ok (.invokevirtual 152, 3) := by decide +kernel
theorem dX11_exchange_36 : decode cX11_exchange 36 = .ok (.aload_n 0, 1) := by decide +kernel
theorem dX11_exchange_37 : decode cX11_exchange 37 = .ok (.iconst 1, 1) := by decide +kernel
theorem dX11_exchange_38 : decode cX11_exchange 38 = .ok (.iload_n 1, 1) := by decide +kernel
theorem dX11_exchange_39 : decode cX11_exchange 39 = .ok (.iload_n 2, 1) := by decide +kernel
theorem dX11_exchange_40 : decode cX11_exchange 40 = .ok (.invokevirtual 152, 3) := by decide +kernel
theorem dX11_exchange_43 : decode cX11_exchange 43 = .ok (.iinc 1 1, 3) := by decide +kernel
theorem dX11_exchange_46 : decode cX11_exchange 46 = .ok (.goto (-35), 3) := by decide +kernel
theorem dX11_exchange_49 : decode cX11_exchange 49 = .ok (.aload_n 0, 1) := by decide +kernel
theorem dX11_exchange_50 : decode cX11_exchange 50 = .ok (.iconst 0, 1) := by decide +kernel
theorem dX11_exchange_51 : decode cX11_exchange 51 = .ok (.invokevirtual 85, 3) := by decide +kernel
theorem dX11_exchange_54 : decode cX11_exchange 54 = .ok (.istore_n 1, 1) := by decide +kernel
theorem dX11_exchange_55 : decode cX11_exchange 55 = .ok (.aload_n 0, 1) := by decide +kernel
theorem dX11_exchange_56 : decode cX11_exchange 56 = .ok (.getfield 7, 3) := by decide +kernel
theorem dX11_exchange_59 : decode cX11_exchange 59 = .ok (.iconst 4, 1) := by decide +kernel
theorem dX11_exchange_60 : decode cX11_exchange 60 = .ok (.aload_n 0, 1) := by decide +kernel
theorem dX11_exchange_61 : decode cX11_exchange 61 = .ok (.iconst 1, 1) := by decide +kernel
theorem dX11_exchange_62 : decode cX11_exchange 62 = .ok (.invokevirtual 85, 3) := by decide +kernel
theorem dX11_exchange_65 : decode cX11_exchange 65 = .ok (.iastore, 1) := by decide +kernel
theorem dX11_exchange_66 : decode cX11_exchange 66 = .ok (.aload_n 0, 1) := by decide +kernel
theorem dX11_exchange_67 : decode cX11_exchange 67 = .ok (.getfield 7, 3) := by decide +kernel
theorem dX11_exchange_70 : decode cX11_exchange 70 = .ok (.iconst 5, 1) := by decide +kernel
theorem dX11_exchange_71 : decode cX11_exchange 71 = .ok (.iload_n 1, 1) := by decide +kernel
theorem dX11_exchange_72 : decode cX11_exchange 72 = .ok (.iastore, 1) := by decide +kernel
theorem dX11_exchange_73 : decode cX11_exchange 73 = .ok (.aload_n 0, 1) := by decide +kernel
theorem dX11_exchange_74 : decode cX11_exchange 74 = .ok (.invokevirtual 107, 3) := by decide +kernel
theorem dX11_exchange_77 : decode cX11_exchange 77 = .ok (.aload_n 0, 1) := by decide +kernel
theorem dX11_exchange_78 : decode cX11_exchange 78 = .ok (.getfield 97, 3) := by decide +kernel
theorem dX11_exchange_81 : decode cX11_exchange 81 = .ok (.ireturn, 1) := by decide +kernel
theorem dX11_isSetting_0 : decode cX11_isSetting 0 = .ok (.iload_n 0, 1) := by decide +kernel
theorem dX11_isSetting_1 : decode cX11_isSetting 1 = .ok (.iconst 0, 1) := by decide +kernel
theorem dX11_isSetting_2 : decode cX11_isSetting 2 = .ok (.iconst 3, 1) := by decide +kernel
theorem dX11_isSetting_3 : decode cX11_isSetting 3 = .ok (.invokestatic 77, 3) := by decide +kernel
theorem dX11_isSetting_6 : decode cX11_isSetting 6 = .ok (.ireturn, 1) := by decide +kernel
theorem dX11_isValue_0 : decode cX11_isValue 0 = .ok (.iload_n 0, 1) := by decide +kernel
theorem dX11_isValue_1 : decode cX11_isValue 1 = .ok (.ifCond .ne 12, 3) := by decide +kernel
theorem dX11_isValue_4 : decode cX11_isValue 4 = .ok (.iload_n 1, 1) := by decide +kernel
theorem dX11_isValue_5 : decode cX11_isValue 5 = .ok (.iconst 2, 1) := by decide +kernel
theorem dX11_isValue_6 : decode cX11_isValue 6 = .ok (.iconst 5, 1) := by decide +kernel
theorem dX11_isValue_7 : decode cX11_isValue 7 = .ok (.invokestatic 77, 3) := by decide +kernel
theorem dX11_isValue_10 : decode cX11_isValue 10 = .ok (.goto 20, 3) := by decide +kernel
theorem dX11_isValue_13 : decode cX11_isValue 13 = .ok (.iload_n 1, 1) := by decide +kernel
theorem dX11_isValue_14 : decode cX11_isValue 14 = .ok (.iconst 0, 1) := by decide +kernel
theorem dX11_isValue_15 : decode cX11_isValue 15 = .ok (.iload_n 0, 1) := by decide +kernel
theorem dX11_isValue_16 : decode cX11_isValue 16 = .ok (.iconst 3, 1) := by decide +kernel
theorem dX11_isValue_17 : decode cX11_isValue 17 = .ok (.if_icmp .ne 8, 3) := by decide +kernel
theorem dX11_isValue_20 : decode cX11_isValue 20 = .ok (.bipush 24, 2) := by decide +kernel
theorem dX11_isValue_22 : decode cX11_isValue 22 = .ok (.goto 5, 3) := by decide +kernel
theorem dX11_isValue_25 : decode cX11_isValue 25 = .ok (.bipush 9, 2) := by decide +kernel
theorem dX11_isValue_27 : decode cX11_isValue 27 = .ok (.invokestatic 77, 3) := by decide +kernel
theorem dX11_isValue_30 : decode cX11_isValue 30 = .ok (.ireturn, 1) := by decide +kernel
theorem dX11_set_0 : decode cX11_set 0 = .ok (.aload_n 0, 1) := by decide +kernel
theorem dX11_set_1 : decode cX11_set 1 = .ok (.iload_n 1, 1) := by decide +kernel
theorem dX11_set_2 : decode cX11_set 2 = .ok (.invokestatic 159, 3) := by decide +kernel
theorem dX11_set_5 : decode cX11_set 5 = .ok (.ifCond .ne 7, 3) := by decide +kernel
theorem dX11_set_8 : decode cX11_set 8 = .ok (.iconst 1, 1) := by decide +kernel
theorem dX11_set_9 : decode cX11_set 9 = .ok (.goto 16, 3) := by decide +kernel
theorem dX11_set_12 : decode cX11_set 12 = .ok (.iload_n 1, 1) := by decide +kernel
theorem dX11_set_13 : decode cX11_set 13 = .ok (.iload_n 2, 1) := by decide +kernel
theorem dX11_set_14 : decode cX11_set 14 = .ok (.invokestatic 162, 3) := by decide +kernel
theorem dX11_set_17 : decode cX11_set 17 = .ok (.ifCond .eq 7, 3) := by decide +kernel
theorem dX11_set_20 : decode cX11_set 20 = .ok (.iconst 0, 1) := by decide +kernel
theorem dX11_set_21 : decode cX11_set 21 = .ok (.goto 4, 3) := by decide +kernel
theorem dX11_set_24 : decode cX11_set 24 = .ok (.iconst 2, 1) := by decide +kernel
theorem dX11_set_25 : decode cX11_set 25 = .ok (.putfield 70, 3) := by decide +kernel
theorem dX11_set_28 : decode cX11_set 28 = .ok (.aload_n 0, 1) := by decide +kernel
theorem dX11_set_29 : decode cX11_set 29 = .ok (.getfield 70, 3) := by decide +kernel
theorem dX11_set_32 : decode cX11_set 32 = .ok (.ifCond .le 5, 3) := by decide +kernel
theorem dX11_set_35 : decode cX11_set 35 = .ok (.iconst 0, 1) := by decide +kernel
theorem dX11_set_36 : decode cX11_set 36 = .ok (.ireturn, 1) := by decide +kernel
theorem dX11_set_37 : decode cX11_set 37 = .ok (.aload_n 0, 1) := by decide +kernel
theorem dX11_set_38 : decode cX11_set 38 = .ok (.invokevirtual 149, 3) := by decide +kernel
theorem dX11_set_41 : decode cX11_set 41 = .ok (.aload_n 0, 1) := by decide +kernel
theorem dX11_set_42 : decode cX11_set 42 = .ok (.getfield 7, 3) := by decide +kernel
theorem dX11_set_45 : decode cX11_set 45 = .ok (.iload_n 1, 1) := by decide +kernel
theorem dX11_set_46 : decode cX11_set 46 = .ok (.iaload, 1) := by decide +kernel
theorem dX11_set_47 : decode cX11_set 47 = .ok (.istore_n 3, 1) := by decide +kernel
theorem dX11_set_48 : decode cX11_set 48 = .ok (.aload_n 0, 1) := by decide +kernel
theorem dX11_set_49 : decode cX11_set 49 = .ok (.getfield 7, 3) := by decide +kernel
theorem dX11_set_52 : decode cX11_set 52 = .ok (.iload_n 1, 1) := by decide +kernel
theorem dX11_set_53 : decode cX11_set 53 = .ok (.iload_n 2, 1) := by decide +kernel
theorem dX11_set_54 : decode cX11_set 54 = .ok (.iastore, 1) := by decide +kernel
theorem dX11_set_55 : decode cX11_set 55 = .ok (.iload_n 3, 1) := by decide +kernel
theorem dX11_set_56 : decode cX11_set 56 = .ok (.ireturn, 1) := by decide +kernel
theorem dX11_append_0 : decode cX11_append 0 = .ok (.aload_n 0, 1) := by decide +kernel
theorem dX11_append_1 : decode cX11_append 1 = .ok (.iload_n 1, 1) := by decide +kernel
theorem dX11_append_2 : decode cX11_append 2 = .ok (.bipush 33, 2) := by decide +kernel
theorem dX11_append_4 : decode cX11_append 4 = .ok (.bipush 126, 2) := by decide +kernel
theorem dX11_append_6 : decode cX11_append 6 = .ok (.invokestatic 77, 3) := by decide +kernel
theorem dX11_append_9 : decode cX11_append 9 = .ok (.ifCond .ne 7, 3) := by decide +kernel
theorem dX11_append_12 : decode cX11_append 12 = .ok (.iconst 1, 1) := by decide +kernel
theorem dX11_append_13 : decode cX11_append 13 = .ok (.goto 17, 3) := by decide +kernel
theorem dX11_append_16 : decode cX11_append 16 = .ok (.aload_n 0, 1) := by decide +kernel
theorem dX11_append_17 : decode cX11_append 17 = .ok (.getfield 165, 3) := by decide +kernel
theorem dX11_append_20 : decode cX11_append 20 = .ok (.bipush 60, 2) := by decide +kernel
theorem dX11_append_22 : decode cX11_append 22 = .ok (.if_icmp .ne 7, 3) := by decide +kernel
theorem dX11_append_25 : decode cX11_append 25 = .ok (.iconst 2, 1) := by decide +kernel
theorem dX11_append_26 : decode cX11_append 26 = .ok (.goto 4, 3) := by decide +kernel
theorem dX11_append_29 : decode cX11_append 29 = .ok (.iconst 0, 1) := by decide +kernel
theorem dX11_append_30 : decode cX11_append 30 = .ok (.putfield 70, 3) := by decide +kernel
theorem dX11_append_33 : decode cX11_append 33 = .ok (.aload_n 0, 1) := by decide +kernel
theorem dX11_append_34 : decode cX11_append 34 = .ok (.getfield 70, 3) := by decide +kernel
theorem dX11_append_37 : decode cX11_append 37 = .ok (.ifCond .le 5, 3) := by decide +kernel
theorem dX11_append_40 : decode cX11_append 40 = .ok (.iconst 0, 1) := by decide +kernel
theorem dX11_append_41 : decode cX11_append 41 = .ok (.ireturn, 1) := by decide +kernel
theorem dX11_append_42 : decode cX11_append 42 = .ok (.aload_n 0, 1) := by decide +kernel
theorem dX11_append_43 : decode cX11_append 43 = .ok (.getfield 22, 3) := by decide +kernel
theorem dX11_append_46 : decode cX11_append 46 = .ok (.aload_n 0, 1) := by decide +kernel
theorem dX11_append_47 : decode cX11_append 47 = .ok (.getfield 165, 3) := by decide +kernel
theorem dX11_append_50 : decode cX11_append 50 = .ok (.iload_n 1, 1) := by decide +kernel
theorem dX11_append_51 : decode cX11_append 51 = .ok (.iastore, 1) := by decide +kernel
theorem dX11_append_52 : decode cX11_append 52 = .ok (.aload_n 0, 1) := by decide +kernel
theorem dX11_append_53 : decode cX11_append 53 = .ok (.dup, 1) := by decide +kernel
theorem dX11_append_54 : decode cX11_append 54 = .ok (.getfield 165, 3) := by decide +kernel
theorem dX11_append_57 : decode cX11_append 57 = .ok (.iconst 1, 1) := by decide +kernel
theorem dX11_append_58 : decode cX11_append 58 = .ok (.iadd, 1) := by decide +kernel
theorem dX11_append_59 : decode cX11_append 59 = .ok (.putfield 165, 3) := by decide +kernel
theorem dX11_append_62 : decode cX11_append 62 = .ok (.aload_n 0, 1) := by decide +kernel
theorem dX11_append_63 : decode cX11_append 63 = .ok (.getfield 165, 3) := by decide +kernel
theorem dX11_append_66 : decode cX11_append 66 = .ok (.ireturn, 1) := by decide +kernel
theorem dX11_clearBuffer_0 : decode cX11_clearBuffer 0 = .ok (.aload_n 0, 1) := by decide +kernel
theorem dX11_clearBuffer_1 : decode cX11_clearBuffer 1 = .ok (.iconst 0, 1) := by decide +kernel
theorem dX11_clearBuffer_2 : decode cX11_clearBuffer 2 = .ok (.putfield 70, 3) := by decide +kernel
theorem dX11_clearBuffer_5 : decode cX11_clearBuffer 5 = .ok (.aload_n 0, 1) := by decide +kernel
theorem dX11_clearBuffer_6 : decode cX11_clearBuffer 6 = .ok (.getfield 165, 3) := by decide +kernel
theorem dX11_clearBuffer_9 : decode cX11_clearBuffer 9 = .ok (.istore_n 1, 1) := by decide +kernel
theorem dX11_clearBuffer_10 : decode cX11_clearBuffer 10 = .ok (.aload_n 0, 1) := by decide +kernel
theorem dX11_clearBuffer_11 : decode cX11_clearBuffer 11 = .ok (.iconst 0, 1) := by decide +kernel
theorem dX11_clearBuffer_12 : decode cX11_clearBuffer 12 = .ok (.putfield 165, 3) := by decide +kernel
theorem dX11_clearBuffer_15 : decode cX11_clearBuffer 15 = .ok (.iload_n 1, 1) := by decide +kernel
theorem dX11_clearBuffer_16 : decode cX11_clearBuffer 16 = .ok (.ireturn, 1) := by decide +kernel
theorem dX11_takes_0 : decode cX11_takes 0 = .ok (.aload_n 0, 1) := by decide +kernel
theorem dX11_takes_1 : decode cX11_takes 1 = .ok (.getfield 168, 3) := by decide +kernel
theorem dX11_takes_4 : decode cX11_takes 4 = .ok (.istore_n 2, 1) := by decide +kernel
theorem dX11_takes_5 : decode cX11_takes 5 = .ok (.aload_n 0, 1) := by decide +kernel
theorem dX11_takes_6 : decode cX11_takes 6 = .ok (.iconst 0, 1) := by decide +kernel
theorem dX11_takes_7 : decode cX11_takes 7 = .ok (.putfield 168, 3) := by decide +kernel
theorem dX11_takes_10 : decode cX11_takes 10 = .ok (.iload_n 1, 1) := by decide +kernel
theorem dX11_takes_11 : decode cX11_takes 11 = .ok (.bipush 47, 2) := by decide +kernel
theorem dX11_takes_13 : decode cX11_takes 13 = .ok (.if_icmp .ne 27, 3) := by decide +kernel
theorem dX11_takes_16 : decode cX11_takes 16 = .ok (.aload_n 0, 1) := by decide +kernel
theorem dX11_takes_17 : decode cX11_takes 17 = .ok (.dup, 1) := by decide +kernel
theorem dX11_takes_18 : decode cX11_takes 18 = .ok (.getfield 172, 3) := by decide +kernel
theorem dX11_takes_21 : decode cX11_takes 21 = .ok (.iconst 1, 1) := by decide +kernel
theorem dX11_takes_22 : decode cX11_takes 22 = .ok (.iadd, 1) := by decide +kernel
theorem dX11_takes_23 : decode cX11_takes 23 = .ok (.putfield 172, 3) := by decide +kernel
theorem dX11_takes_26 : decode cX11_takes 26 = .ok (.aload_n 0, 1) := by decide +kernel
theorem dX11_takes_27 : decode cX11_takes 27 = .ok (.getfield 172, 3) := by decide +kernel
theorem dX11_takes_30 : decode cX11_takes 30 = .ok (.iconst 1, 1) := by decide +kernel
theorem dX11_takes_31 : decode cX11_takes 31 = .ok (.if_icmp .ne 7, 3) := by decide +kernel
theorem dX11_takes_34 : decode cX11_takes 34 = .ok (.iconst 1, 1) := by decide +kernel
theorem dX11_takes_35 : decode cX11_takes 35 = .ok (.goto 4, 3) := by decide +kernel
theorem dX11_takes_38 : decode cX11_takes 38 = .ok (.iconst 0, 1) := by decide +kernel
theorem dX11_takes_39 : decode cX11_takes 39 = .ok (.ireturn, 1) := by decide +kernel
theorem dX11_takes_40 : decode cX11_takes 40 = .ok (.aload_n 0, 1) := by decide +kernel
theorem dX11_takes_41 : decode cX11_takes 41 = .ok (.getfield 67, 3) := by decide +kernel
theorem dX11_takes_44 : decode cX11_takes 44 = .ok (.aload_n 0, 1) := by decide +kernel
theorem dX11_takes_45 : decode cX11_takes 45 = .ok (.getfield 172, 3) := by decide +kernel
theorem dX11_takes_48 : decode cX11_takes 48 = .ok (.iaload, 1) := by decide +kernel
theorem dX11_takes_49 : decode cX11_takes 49 = .ok (.istore_n 3, 1) := by decide +kernel
theorem dX11_takes_50 : decode cX11_takes 50 = .ok (.iload_n 1, 1) := by decide +kernel
theorem dX11_takes_51 : decode cX11_takes 51 = .ok (.bipush 97, 2) := by decide +kernel
theorem dX11_takes_53 : decode cX11_takes 53 = .ok (.isub, 1) := by decide +kernel
theorem dX11_takes_54 : decode cX11_takes 54 = .ok (.invokestatic 146, 3) := by decide +kernel
theorem dX11_takes_57 : decode cX11_takes 57 = .ok (.ifCond .eq 7, 3) := by decide +kernel
theorem dX11_takes_60 : decode cX11_takes 60 = .ok (.iconst 1, 1) := by decide +kernel
theorem dX11_takes_61 : decode cX11_takes 61 = .ok (.goto 26, 3) := by decide +kernel
theorem dX11_takes_64 : decode cX11_takes 64 = .ok (.iload_n 2, 1) := by decide +kernel
theorem dX11_takes_65 : decode cX11_takes 65 = .ok (.ifCond .eq 21, 3) := by decide +kernel
theorem dX11_takes_68 : decode cX11_takes 68 = .ok (.iload_n 1, 1) := by decide +kernel
theorem dX11_takes_69 : decode cX11_takes 69 = .ok (.bipush 50, 2) := by decide +kernel
theorem dX11_takes_71 : decode cX11_takes 71 = .ok (.bipush 57, 2) := by decide +kernel
theorem dX11_takes_73 : decode cX11_takes 73 = .ok (.invokestatic 77, 3) := by decide +kernel
theorem dX11_takes_76 : decode cX11_takes 76 = .ok (.ifCond .eq 10, 3) := by decide +kernel
theorem dX11_takes_79 : decode cX11_takes 79 = .ok (.iload_n 1, 1) := by decide +kernel
theorem dX11_takes_80 : decode cX11_takes 80 = .ok (.bipush 49, 2) := by decide +kernel
theorem dX11_takes_82 : decode cX11_takes 82 = .ok (.isub, 1) := by decide +kernel
theorem dX11_takes_83 : decode cX11_takes 83 = .ok (.goto 4, 3) := by decide +kernel
theorem dX11_takes_86 : decode cX11_takes 86 = .ok (.iconst 0, 1) := by decide +kernel
theorem dX11_takes_87 : decode cX11_takes 87 = .ok (.istore 4, 2) := by decide +kernel
theorem dX11_takes_89 : decode cX11_takes 89 = .ok (.iload 4, 2) := by decide +kernel
theorem dX11_takes_91 : decode cX11_takes 91 = .ok (.ifCond .le 16, 3) := by decide +kernel
theorem dX11_takes_94 : decode cX11_takes 94 = .ok (.iload_n 3, 1) := by decide +kernel
theorem dX11_takes_95 : decode cX11_takes 95 = .ok (.iload 4, 2) := by decide +kernel
theorem dX11_takes_97 : decode cX11_takes 97 = .ok (.iadd, 1) := by decide +kernel
theorem dX11_takes_98 : decode cX11_takes 98 = .ok (.bipush 24, 2) := by decide +kernel
theorem dX11_takes_100 : decode cX11_takes 100 = .ok (.if_icmp .gt 7, 3) := by decide +kernel
theorem dX11_takes_103 : decode cX11_takes 103 = .ok (.iconst 1, 1) := by decide +kernel
theorem dX11_takes_104 : decode cX11_takes 104 = .ok (.goto 4, 3) := by decide +kernel
theorem dX11_takes_107 : decode cX11_takes 107 = .ok (.iconst 0, 1) := by decide +kernel
theorem dX11_takes_108 : decode cX11_takes 108 = .ok (.istore 5, 2) := by decide +kernel
theorem dX11_takes_110 : decode cX11_takes 110 = .ok (.aload_n 0, 1) := by decide +kernel
theorem dX11_takes_111 : decode cX11_takes 111 = .ok (.iload 5, 2) := by decide +kernel
theorem dX11_takes_113 : decode cX11_takes 113 = .ok (.ifCond .eq 17, 3) := by decide +kernel
theorem dX11_takes_116 : decode cX11_takes 116 = .ok (.iload_n 1, 1) := by decide +kernel
theorem dX11_takes_117 : decode cX11_takes 117 = .ok (.bipush 97, 2) := by decide +kernel
theorem dX11_takes_119 : decode cX11_takes 119 = .ok (.isub, 1) := by decide +kernel
theorem dX11_takes_120 : decode cX11_takes 120 = .ok (.invokestatic 146, 3) := by decide +kernel
theorem dX11_takes_123 : decode cX11_takes 123 = .ok (.ifCond .eq 7, 3) := by decide +kernel
theorem dX11_takes_126 : decode cX11_takes 126 = .ok (.iconst 1, 1) := by decide +kernel
theorem dX11_takes_127 : decode cX11_takes 127 = .ok (.goto 4, 3) := by decide +kernel
theorem dX11_takes_130 : decode cX11_takes 130 = .ok (.iconst 0, 1) := by decide +kernel
theorem dX11_takes_131 : decode cX11_takes 131 = .ok (.putfield 168, 3) := by decide +kernel
theorem dX11_takes_134 : decode cX11_takes 134 = .ok (.iconst 0, 1) := by decide +kernel
theorem dX11_takes_135 : decode cX11_takes 135 = .ok (.istore 6, 2) := by decide +kernel
theorem dX11_takes_137 : decode cX11_takes 137 = .ok (.iload 5, 2) := by decide +kernel
theorem dX11_takes_139 : decode cX11_takes 139 = .ok (.ifCond .eq 76, 3) := by decide +kernel
theorem dX11_takes_142 : decode cX11_takes 142 = .ok (.iload 6, 2) := by decide +kernel
theorem dX11_takes_144 : decode cX11_takes 144 = .ok (.iload 4, 2) := by decide +kernel
theorem dX11_takes_146 : decode cX11_takes 146 = .ok (.if_icmp .ge 69, 3) := by decide +kernel
theorem dX11_takes_149 : decode cX11_takes 149 = .ok (.aload_n 0, 1) := by decide +kernel
theorem dX11_takes_150 : decode cX11_takes 150 = .ok (.getfield 64, 3) := by decide +kernel
theorem dX11_takes_153 : decode cX11_takes 153 = .ok (.bipush 24, 2) := by decide +kernel
theorem dX11_takes_155 : decode cX11_takes 155 = .ok (.aload_n 0, 1) := by decide +kernel
theorem dX11_takes_156 : decode cX11_takes 156 = .ok (.getfield 172, 3) := by decide +kernel
theorem dX11_takes_159 : decode cX11_takes 159 = .ok (.imul, 1) := by decide +kernel
theorem dX11_takes_160 : decode cX11_takes 160 = .ok (.iload_n 3, 1) := by decide +kernel
theorem dX11_takes_161 : decode cX11_takes 161 = .ok (.iadd, 1) := by decide +kernel
theorem dX11_takes_162 : decode cX11_takes 162 = .ok (.iload 6, 2) := by decide +kernel
theorem dX11_takes_164 : decode cX11_takes 164 = .ok (.iadd, 1) := by decide +kernel
theorem dX11_takes_165 : decode cX11_takes 165 = .ok (.aload_n 0, 1) := by decide +kernel
theorem dX11_takes_166 : decode cX11_takes 166 = .ok (.getfield 168, 3) := by decide +kernel
theorem dX11_takes_169 : decode cX11_takes 169 = .ok (.ifCond .eq 10, 3) := by decide +kernel
theorem dX11_takes_172 : decode cX11_takes 172 = .ok (.iload_n 1, 1) := by decide +kernel
theorem dX11_takes_173 : decode cX11_takes 173 = .ok (.bipush 97, 2) := by decide +kernel
theorem dX11_takes_175 : decode cX11_takes 175 = .ok (.isub, 1) := by decide +kernel
theorem dX11_takes_176 : decode cX11_takes 176 = .ok (.goto 19, 3) := by decide +kernel
theorem dX11_takes_179 : decode cX11_takes 179 = .ok (.aload_n 0, 1) := by decide +kernel
theorem dX11_takes_180 : decode cX11_takes 180 = .ok (.getfield 64, 3) := by decide +kernel
theorem dX11_takes_183 : decode cX11_takes 183 = .ok (.bipush 24, 2) := by decide +kernel
theorem dX11_takes_185 : decode cX11_takes 185 = .ok (.aload_n 0, 1) := by decide +kernel
theorem dX11_takes_186 : decode cX11_takes 186 = .ok (.getfield 172, 3) := by decide +kernel
theorem dX11_takes_189 : decode cX11_takes 189 = .ok (.imul, 1) := by decide +kernel
theorem dX11_takes_190 : decode cX11_takes 190 = .ok (.iload_n 3, 1) := by decide +kernel
theorem dX11_takes_191 : decode cX11_takes 191 = .ok (.iadd, 1) := by decide +kernel
theorem dX11_takes_192 : decode cX11_takes 192 = .ok (.iconst 1, 1) := by decide +kernel
theorem dX11_takes_193 : decode cX11_takes 193 = .ok (.isub, 1) := by decide +kernel
theorem dX11_takes_194 : decode cX11_takes 194 = .ok (.iaload, 1) := by decide +kernel
theorem dX11_takes_195 : decode cX11_takes 195 = .ok (.iastore, 1) := by decide +kernel
theorem dX11_takes_196 : decode cX11_takes 196 = .ok (.aload_n 0, 1) := by decide +kernel
theorem dX11_takes_197 : decode cX11_takes 197 = .ok (.getfield 67, 3) := by decide +kernel
theorem dX11_takes_200 : decode cX11_takes 200 = .ok (.aload_n 0, 1) := by decide +kernel
theorem dX11_takes_201 : decode cX11_takes 201 = .ok (.getfield 172, 3) := by decide +kernel
theorem dX11_takes_204 : decode cX11_takes 204 = .ok (.dup2, 1) := by decide +kernel
theorem dX11_takes_205 : decode cX11_takes 205 = .ok (.iaload, 1) := by decide +kernel
theorem dX11_takes_206 : decode cX11_takes 206 = .ok (.iconst 1, 1) := by decide +kernel
theorem dX11_takes_207 : decode cX11_takes 207 = .ok (.iadd, 1) := by decide +kernel
theorem dX11_takes_208 : decode cX11_takes 208 = .ok (.iastore, 1) := by decide +kernel
theorem dX11_takes_209 : decode cX11_takes 209 = .ok (.iinc 6 1, 3) := by decide +kernel
theorem dX11_takes_212 : decode cX11_takes 212 = .ok (.goto (-75), 3) := by decide +kernel
theorem dX11_takes_215 : decode cX11_takes 215 = .ok (.iload 5, 2) := by decide +kernel
theorem dX11_takes_217 : decode cX11_takes 217 = .ok (.ireturn, 1) := by decide +kernel
theorem dX11_rightUpTo_0 : decode cX11_rightUpTo 0 = .ok (.aload_n 0, 1) := by decide +kernel
theorem dX11_rightUpTo_1 : decode cX11_rightUpTo 1 = .ok (.getfield 67, 3) := by decide +kernel
theorem dX11_rightUpTo_4 : decode cX11_rightUpTo 4 = .ok (.iconst 0, 1) := by decide +kernel
theorem dX11_rightUpTo_5 : decode cX11_rightUpTo 5 = .ok (.iconst 0, 1) := by decide +kernel
theorem dX11_rightUpTo_6 : decode cX11_rightUpTo 6 = .ok (.iastore, 1) := by decide +kernel
theorem dX11_rightUpTo_7 : decode cX11_rightUpTo 7 = .ok (.aload_n 0, 1) := by decide +kernel
theorem dX11_rightUpTo_8 : decode cX11_rightUpTo 8 = .ok (.getfield 67, 3) := by decide +kernel
theorem dX11_rightUpTo_11 : decode cX11_rightUpTo 11 = .ok (.iconst 1, 1) := by decide +kernel
theorem dX11_rightUpTo_12 : decode cX11_rightUpTo 12 = .ok (.iconst 0, 1) := by decide +kernel
theorem dX11_rightUpTo_13 : decode cX11_rightUpTo 13 = .ok (.iastore, 1) := by decide +kernel
theorem dX11_rightUpTo_14 : decode cX11_rightUpTo 14 = .ok (.aload_n 0, 1) := by decide +kernel
theorem dX11_rightUpTo_15 : decode cX11_rightUpTo 15 = .ok (.iconst 0, 1) := by decide +kernel
theorem dX11_rightUpTo_16 : decode cX11_rightUpTo 16 = .ok (.putfield 172, 3) := by decide +kernel
theorem dX11_rightUpTo_19 : decode cX11_rightUpTo 19 = .ok (.aload_n 0, 1) := by decide +kernel
theorem dX11_rightUpTo_20 : decode cX11_rightUpTo 20 = .ok (.iconst 0, 1) := by decide +kernel
theorem dX11_rightUpTo_21 : decode cX11_rightUpTo 21 = .ok (.putfield 168, 3) := by decide +kernel
theorem dX11_rightUpTo_24 : decode cX11_rightUpTo 24 = .ok (.iconst 0, 1) := by decide +kernel
theorem dX11_rightUpTo_25 : decode cX11_rightUpTo 25 = .ok (.istore_n 1, 1) := by decide +kernel
theorem dX11_rightUpTo_26 : decode cX11_rightUpTo 26 = .ok (.iload_n 1, 1) := by decide +kernel
theorem dX11_rightUpTo_27 : decode cX11_rightUpTo 27 = .ok (.aload_n 0, 1) := by decide +kernel
theorem dX11_rightUpTo_28 : decode cX11_rightUpTo 28 = .ok (.getfield 165, 3) := by decide +kernel
theorem dX11_rightUpTo_31 : decode cX11_rightUpTo 31 = .ok (.if_icmp .ge 22, 3) := by decide +kernel
theorem dX11_rightUpTo_34 : decode cX11_rightUpTo 34 = .ok (.aload_n 0, 1) := by decide +kernel
theorem dX11_rightUpTo_35 : decode cX11_rightUpTo 35 = .ok (.aload_n 0, 1) := by decide +kernel
theorem dX11_rightUpTo_36 : decode cX11_rightUpTo 36 = .ok (.getfield 22, 3) := by decide +kernel
theorem dX11_rightUpTo_39 : decode cX11_rightUpTo 39 = .ok (.iload_n 1, 1) := by decide +kernel
theorem dX11_rightUpTo_40 : decode cX11_rightUpTo 40 = .ok (.iaload, 1) := by decide +kernel
theorem dX11_rightUpTo_41 : decode cX11_rightUpTo 41 = .ok (.invokevirtual 175, 3) := by decide +kernel
theorem dX11_rightUpTo_44 : decode cX11_rightUpTo 44 = .ok (.ifCond .eq 9, 3) := by decide +kernel
theorem dX11_rightUpTo_47 : decode cX11_rightUpTo 47 = .ok (.iinc 1 1, 3) := by decide +kernel
theorem dX11_rightUpTo_50 : decode cX11_rightUpTo 50 = .ok (.goto (-24), 3) := by decide +kernel
theorem dX11_rightUpTo_53 : decode cX11_rightUpTo 53 = .ok (.iload_n 1, 1) := by decide +kernel
theorem dX11_rightUpTo_54 : decode cX11_rightUpTo 54 = .ok (.ireturn, 1) := by decide +kernel
theorem dX11_firstError_0 : decode cX11_firstError 0 = .ok (.aload_n 0, 1) := by decide +kernel
theorem dX11_firstError_1 : decode cX11_firstError 1 = .ok (.iconst 0, 1) := by decide +kernel
theorem dX11_firstError_2 : decode cX11_firstError 2 = .ok (.putfield 70, 3) := by decide +kernel
theorem dX11_firstError_5 : decode cX11_firstError 5 = .ok (.aload_n 0, 1) := by decide +kernel
theorem dX11_firstError_6 : decode cX11_firstError 6 = .ok (.invokevirtual 178, 3) := by decide +kernel
theorem dX11_firstError_9 : decode cX11_firstError 9 = .ok (.ireturn, 1) := by decide +kernel
theorem dX11_read_0 : decode cX11_read 0 = .ok (.aload_n 0, 1) := by decide +kernel
theorem dX11_read_1 : decode cX11_read 1 = .ok (.aload_n 0, 1) := by decide +kernel
theorem dX11_read_2 : decode cX11_read 2 = .ok (.invokevirtual 178, 3) := by decide +kernel
theorem dX11_read_5 : decode cX11_read 5 = .ok (.aload_n 0, 1) := by decide +kernel
theorem dX11_read_6 : decode cX11_read 6 = .ok (.getfield 165, 3) := by decide +kernel
theorem dX11_read_9 : decode cX11_read 9 = .ok (.if_icmp .ne 15, 3) := by decide +kernel
theorem dX11_read_12 : decode cX11_read 12 = .ok (.aload_n 0, 1) := by decide +kernel
theorem dX11_read_13 : decode cX11_read 13 = .ok (.getfield 172, 3) := by decide +kernel
theorem dX11_read_16 : decode cX11_read 16 = .ok (.iconst 1, 1) := by decide +kernel
theorem dX11_read_17 : decode cX11_read 17 = .ok (.if_icmp .ne 7, 3) := by decide +kernel
theorem dX11_read_20 : decode cX11_read 20 = .ok (.iconst 0, 1) := by decide +kernel
theorem dX11_read_21 : decode cX11_read 21 = .ok (.goto 4, 3) := by decide +kernel
theorem dX11_read_24 : decode cX11_read 24 = .ok (.iconst 1, 1) := by decide +kernel
theorem dX11_read_25 : decode cX11_read 25 = .ok (.putfield 70, 3) := by decide +kernel
theorem dX11_read_28 : decode cX11_read 28 = .ok (.aload_n 0, 1) := by decide +kernel
theorem dX11_read_29 : decode cX11_read 29 = .ok (.getfield 70, 3) := by decide +kernel
theorem dX11_read_32 : decode cX11_read 32 = .ok (.ifCond .le 5, 3) := by decide +kernel
theorem dX11_read_35 : decode cX11_read 35 = .ok (.iconst 0, 1) := by decide +kernel
theorem dX11_read_36 : decode cX11_read 36 = .ok (.ireturn, 1) := by decide +kernel
theorem dX11_read_37 : decode cX11_read 37 = .ok (.aload_n 0, 1) := by decide +kernel
theorem dX11_read_38 : decode cX11_read 38 = .ok (.invokevirtual 149, 3) := by decide +kernel
theorem dX11_read_41 : decode cX11_read 41 = .ok (.aload_n 0, 1) := by decide +kernel
theorem dX11_read_42 : decode cX11_read 42 = .ok (.iconst 0, 1) := by decide +kernel
theorem dX11_read_43 : decode cX11_read 43 = .ok (.putfield 165, 3) := by decide +kernel
theorem dX11_read_46 : decode cX11_read 46 = .ok (.iconst 0, 1) := by decide +kernel
theorem dX11_read_47 : decode cX11_read 47 = .ok (.istore_n 1, 1) := by decide +kernel
theorem dX11_read_48 : decode cX11_read 48 = .ok (.iload_n 1, 1) := by decide +kernel
theorem dX11_read_49 : decode cX11_read 49 = .ok (.iconst 2, 1) := by decide +kernel
theorem dX11_read_50 : decode cX11_read 50 = .ok (.if_icmp .ge 68, 3) := by decide +kernel
theorem dX11_read_53 : decode cX11_read 53 = .ok (.aload_n 0, 1) := by decide +kernel
theorem dX11_read_54 : decode cX11_read 54 = .ok (.getfield 7, 3) := by decide +kernel
theorem dX11_read_57 : decode cX11_read 57 = .ok (.iconst 4, 1) := by decide +kernel
theorem dX11_read_58 : decode cX11_read 58 = .ok (.iload_n 1, 1) := by decide +kernel
theorem dX11_read_59 : decode cX11_read 59 = .ok (.iadd, 1) := by decide +kernel
theorem dX11_read_60 : decode cX11_read 60 = .ok (.aload_n 0, 1) := by decide +kernel
theorem dX11_read_61 : decode cX11_read 61 = .ok (.getfield 67, 3) := by decide +kernel
theorem dX11_read_64 : decode cX11_read 64 = .ok (.iload_n 1, 1) := by decide +kernel
theorem dX11_read_65 : decode cX11_read 65 = .ok (.iaload, 1) := by decide +kernel
theorem dX11_read_66 : decode cX11_read 66 = .ok (.iastore, 1) := by decide +kernel
theorem dX11_read_67 : decode cX11_read 67 = .ok (.iconst 0, 1) := by decide +kernel
theorem dX11_read_68 : decode cX11_read 68 = .ok (.istore_n 2, 1) := by decide +kernel
theorem dX11_read_69 : decode cX11_read 69 = .ok (.iload_n 2, 1) := by decide +kernel
theorem dX11_read_70 : decode cX11_read 70 = .ok (.bipush 24, 2) := by decide +kernel
theorem dX11_read_72 : decode cX11_read 72 = .ok (.if_icmp .ge 40, 3) := by decide +kernel
theorem dX11_read_75 : decode cX11_read 75 = .ok (.aload_n 0, 1) := by decide +kernel
theorem dX11_read_76 : decode cX11_read 76 = .ok (.iload_n 1, 1) := by decide +kernel
theorem dX11_read_77 : decode cX11_read 77 = .ok (.iload_n 2, 1) := by decide +kernel
theorem dX11_read_78 : decode cX11_read 78 = .ok (.iload_n 2, 1) := by decide +kernel
theorem dX11_read_79 : decode cX11_read 79 = .ok (.aload_n 0, 1) := by decide +kernel
theorem dX11_read_80 : decode cX11_read 80 = .ok (.getfield 67, 3) := by decide +kernel
theorem dX11_read_83 : decode cX11_read 83 = .ok (.iload_n 1, 1) := by decide +kernel
theorem dX11_read_84 : decode cX11_read 84 = .ok (.iaload, 1) := by decide +kernel
theorem dX11_read_85 : decode cX11_read 85 = .ok (.if_icmp .ge 17, 3) := by decide +kernel
theorem dX11_read_88 : decode cX11_read 88 = .ok (.aload_n 0, 1) := by decide +kernel
theorem dX11_read_89 : decode cX11_read 89 = .ok (.getfield 64, 3) := by decide +kernel
theorem dX11_read_92 : decode cX11_read 92 = .ok (.bipush 24, 2) := by decide +kernel
theorem dX11_read_94 : decode cX11_read 94 = .ok (.iload_n 1, 1) := by decide +kernel
theorem dX11_read_95 : decode cX11_read 95 = .ok (.imul, 1) := by decide +kernel
theorem dX11_read_96 : decode cX11_read 96 = .ok (.iload_n 2, 1) := by decide +kernel
theorem dX11_read_97 : decode cX11_read 97 = .ok (.iadd, 1) := by decide +kernel
theorem dX11_read_98 : decode cX11_read 98 = .ok (.iaload, 1) := by decide +kernel
theorem dX11_read_99 : decode cX11_read 99 = .ok (.goto 4, 3) := by decide +kernel
theorem dX11_read_102 : decode cX11_read 102 = .ok (.iconst 0, 1) := by decide +kernel
theorem dX11_read_103 : decode cX11_read 103 = .ok (.invokevirtual 152, 3) := by decide +kernel
theorem dX11_read_106 : decode cX11_read 106 = .ok (.iinc 2 1, 3) := by decide +kernel
theorem dX11_read_109 : decode cX11_read 109 = .ok (.goto (-40), 3) := by decide +kernel
theorem dX11_read_112 : decode cX11_read 112 = .ok (.iinc 1 1, 3) := by decide +kernel
theorem dX11_read_115 : decode cX11_read 115 = .ok (.goto (-67), 3) := by decide +kernel
theorem dX11_read_118 : decode cX11_read 118 = .ok (.aload_n 0, 1) := by decide +kernel
theorem dX11_read_119 : decode cX11_read 119 = .ok (.invokevirtual 107, 3) := by decide +kernel
theorem dX11_read_122 : decode cX11_read 122 = .ok (.aload_n 0, 1) := by decide +kernel
theorem dX11_read_123 : decode cX11_read 123 = .ok (.getfield 97, 3) := by decide +kernel
theorem dX11_read_126 : decode cX11_read 126 = .ok (.ireturn, 1) := by decide +kernel
theorem dX11_isSnapshot_0 : decode cX11_isSnapshot 0 = .ok (.iload_n 0, 1) := by decide +kernel
theorem dX11_isSnapshot_1 : decode cX11_isSnapshot 1 = .ok (.iconst 0, 1) := by decide +kernel
theorem dX11_isSnapshot_2 : decode cX11_isSnapshot 2 = .ok (.iconst 1, 1) := by decide +kernel
theorem dX11_isSnapshot_3 : decode cX11_isSnapshot 3 = .ok (.invokestatic 77, 3) := by decide +kernel
theorem dX11_isSnapshot_6 : decode cX11_isSnapshot 6 = .ok (.ireturn, 1) := by decide +kernel
theorem dX11_keep_0 : decode cX11_keep 0 = .ok (.aload_n 0, 1) := by decide +kernel
theorem dX11_keep_1 : decode cX11_keep 1 = .ok (.iload_n 1, 1) := by decide +kernel
theorem dX11_keep_2 : decode cX11_keep 2 = .ok (.invokestatic 182, 3) := by decide +kernel
theorem dX11_keep_5 : decode cX11_keep 5 = .ok (.ifCond .eq 7, 3) := by decide +kernel
theorem dX11_keep_8 : decode cX11_keep 8 = .ok (.iconst 0, 1) := by decide +kernel
theorem dX11_keep_9 : decode cX11_keep 9 = .ok (.goto 4, 3) := by decide +kernel
theorem dX11_keep_12 : decode cX11_keep 12 = .ok (.iconst 1, 1) := by decide +kernel
theorem dX11_keep_13 : decode cX11_keep 13 = .ok (.putfield 70, 3) := by decide +kernel
theorem dX11_keep_16 : decode cX11_keep 16 = .ok (.aload_n 0, 1) := by decide +kernel
theorem dX11_keep_17 : decode cX11_keep 17 = .ok (.getfield 70, 3) := by decide +kernel
theorem dX11_keep_20 : decode cX11_keep 20 = .ok (.ifCond .le 5, 3) := by decide +kernel
theorem dX11_keep_23 : decode cX11_keep 23 = .ok (.iconst 0, 1) := by decide +kernel
theorem dX11_keep_24 : decode cX11_keep 24 = .ok (.ireturn, 1) := by decide +kernel
theorem dX11_keep_25 : decode cX11_keep 25 = .ok (.aload_n 0, 1) := by decide +kernel
theorem dX11_keep_26 : decode cX11_keep 26 = .ok (.getfield 19, 3) := by decide +kernel
theorem dX11_keep_29 : decode cX11_keep 29 = .ok (.iload_n 1, 1) := by decide +kernel
theorem dX11_keep_30 : decode cX11_keep 30 = .ok (.iconst 1, 1) := by decide +kernel
theorem dX11_keep_31 : decode cX11_keep 31 = .ok (.iastore, 1) := by decide +kernel
theorem dX11_keep_32 : decode cX11_keep 32 = .ok (.iconst 0, 1) := by decide +kernel
theorem dX11_keep_33 : decode cX11_keep 33 = .ok (.istore_n 2, 1) := by decide +kernel
theorem dX11_keep_34 : decode cX11_keep 34 = .ok (.iload_n 2, 1) := by decide +kernel
theorem dX11_keep_35 : decode cX11_keep 35 = .ok (.bipush 50, 2) := by decide +kernel
theorem dX11_keep_37 : decode cX11_keep 37 = .ok (.if_icmp .ge 28, 3) := by decide +kernel
theorem dX11_keep_40 : decode cX11_keep 40 = .ok (.aload_n 0, 1) := by decide +kernel
theorem dX11_keep_41 : decode cX11_keep 41 = .ok (.getfield 16, 3) := by decide +kernel
theorem dX11_keep_44 : decode cX11_keep 44 = .ok (.bipush 50, 2) := by decide +kernel
theorem dX11_keep_46 : decode cX11_keep 46 = .ok (.iload_n 1, 1) := by decide +kernel
theorem dX11_keep_47 : decode cX11_keep 47 = .ok (.imul, 1) := by decide +kernel
theorem dX11_keep_48 : decode cX11_keep 48 = .ok (.iload_n 2, 1) := by decide +kernel
theorem dX11_keep_49 : decode cX11_keep 49 = .ok (.iadd, 1) := by decide +kernel
theorem dX11_keep_50 : decode cX11_keep 50 = .ok (.aload_n 0, 1) := by decide +kernel
theorem dX11_keep_51 : decode cX11_keep 51 = .ok (.getfield 7, 3) := by decide +kernel
theorem dX11_keep_54 : decode cX11_keep 54 = .ok (.iconst 4, 1) := by decide +kernel
theorem dX11_keep_55 : decode cX11_keep 55 = .ok (.iload_n 2, 1) := by decide +kernel
theorem dX11_keep_56 : decode cX11_keep 56 = .ok (.iadd, 1) := by decide +kernel
theorem dX11_keep_57 : decode cX11_keep 57 = .ok (.iaload, 1) := by decide +kernel
theorem dX11_keep_58 : decode cX11_keep 58 = .ok (.iastore, 1) := by decide +kernel
theorem dX11_keep_59 : decode cX11_keep 59 = .ok (.iinc 2 1, 3) := by decide +kernel
theorem dX11_keep_62 : decode cX11_keep 62 = .ok (.goto (-28), 3) := by decide +kernel
theorem dX11_keep_65 : decode cX11_keep 65 = .ok (.aload_n 0, 1) := by decide +kernel
theorem dX11_keep_66 : decode cX11_keep 66 = .ok (.iconst 0, 1) := by decide +kernel
theorem dX11_keep_67 : decode cX11_keep 67 = .ok (.invokevirtual 85, 3) := by decide +kernel
theorem dX11_keep_70 : decode cX11_keep 70 = .ok (.aload_n 0, 1) := by decide +kernel
theorem dX11_keep_71 : decode cX11_keep 71 = .ok (.iconst 1, 1) := by decide +kernel
theorem dX11_keep_72 : decode cX11_keep 72 = .ok (.invokevirtual 85, 3) := by decide +kernel
theorem dX11_keep_75 : decode cX11_keep 75 = .ok (.iadd, 1) := by decide +kernel
theorem dX11_keep_76 : decode cX11_keep 76 = .ok (.ireturn, 1) := by decide +kernel
theorem dX11_restore_0 : decode cX11_restore 0 = .ok (.aload_n 0, 1) := by decide +kernel
theorem dX11_restore_1 : decode cX11_restore 1 = .ok (.iload_n 1, 1) := by decide +kernel
theorem dX11_restore_2 : decode cX11_restore 2 = .ok (.invokestatic 182, 3) := by decide +kernel
theorem dX11_restore_5 : decode cX11_restore 5 = .ok (.ifCond .eq 7, 3) := by decide +kernel
theorem dX11_restore_8 : decode cX11_restore 8 = .ok (.iconst 0, 1) := by decide +kernel
theorem dX11_restore_9 : decode cX11_restore 9 = .ok (.goto 4, 3) := by decide +kernel
theorem dX11_restore_12 : decode cX11_restore 12 = .ok (.iconst 1, 1) := by decide +kernel
theorem dX11_restore_13 : decode cX11_restore 13 = .ok (.putfield 70, 3) := by decide +kernel
theorem dX11_restore_16 : decode cX11_restore 16 = .ok (.aload_n 0, 1) := by decide +kernel
theorem dX11_restore_17 : decode cX11_restore 17 = .ok (.getfield 70, 3) := by decide +kernel
theorem dX11_restore_20 : decode cX11_restore 20 = .ok (.ifCond .ne 22, 3) := by decide +kernel
theorem dX11_restore_23 : decode cX11_restore 23 = .ok (.aload_n 0, 1) := by decide +kernel
theorem dX11_restore_24 : decode cX11_restore 24 = .ok (.aload_n 0, 1) := by decide +kernel
theorem dX11_restore_25 : decode cX11_restore 25 = .ok (.getfield 19, 3) := by decide +kernel
theorem dX11_restore_28 : decode cX11_restore 28 = .ok (.iload_n 1, 1) := by decide +kernel
theorem dX11_restore_29 : decode cX11_restore 29 = .ok (.iaload, 1) := by decide +kernel
theorem dX11_restore_30 : decode cX11_restore 30 = .ok (.iconst 1, 1) := by decide +kernel
theorem dX11_restore_31 : decode cX11_restore 31 = .ok (.if_icmp .ne 7, 3) := by decide +kernel
theorem dX11_restore_34 : decode cX11_restore 34 = .ok (.iconst 0, 1) := by decide +kernel
theorem dX11_restore_35 : decode cX11_restore 35 = .ok (.goto 4, 3) := by decide +kernel
theorem dX11_restore_38 : decode cX11_restore 38 = .ok (.iconst 2, 1) := by decide +kernel
theorem dX11_restore_39 : decode cX11_restore 39 = .ok (.putfield 70, 3) := by decide +kernel
theorem dX11_restore_42 : decode cX11_restore 42 = .ok (.aload_n 0, 1) := by decide +kernel
theorem dX11_restore_43 : decode cX11_restore 43 = .ok (.getfield 70, 3) := by decide +kernel
theorem dX11_restore_46 : decode cX11_restore 46 = .ok (.ifCond .le 5, 3) := by decide +kernel
theorem dX11_restore_49 : decode cX11_restore 49 = .ok (.iconst 0, 1) := by decide +kernel
theorem dX11_restore_50 : decode cX11_restore 50 = .ok (.ireturn, 1) := by decide +kernel
theorem dX11_restore_51 : decode cX11_restore 51 = .ok (.aload_n 0, 1) := by decide +kernel
theorem dX11_restore_52 : decode cX11_restore 52 = .ok (.invokevirtual 149, 3) := by decide +kernel
theorem dX11_restore_55 : decode cX11_restore 55 = .ok (.iconst 0, 1) := by decide +kernel
theorem dX11_restore_56 : decode cX11_restore 56 = .ok (.istore_n 2, 1) := by decide +kernel
theorem dX11_restore_57 : decode cX11_restore 57 = .ok (.iload_n 2, 1) := by decide +kernel
theorem dX11_restore_58 : decode cX11_restore 58 = .ok (.bipush 50, 2) := by decide +kernel
theorem dX11_restore_60 : decode cX11_restore 60 = .ok (.if_icmp .ge 28, 3) := by decide +kernel
theorem dX11_restore_63 : decode cX11_restore 63 = .ok (.aload_n 0, 1) := by decide +kernel
theorem dX11_restore_64 : decode cX11_restore 64 = .ok (.getfield 7, 3) := by decide +kernel
theorem dX11_restore_67 : decode cX11_restore 67 = .ok (.iconst 4, 1) := by decide +kernel
theorem dX11_restore_68 : decode cX11_restore 68 = .ok (.iload_n 2, 1) := by decide +kernel
theorem dX11_restore_69 : decode cX11_restore 69 = .ok (.iadd, 1) := by decide +kernel
theorem dX11_restore_70 : decode cX11_restore 70 = .ok (.aload_n 0, 1) := by decide +kernel
theorem dX11_restore_71 : decode cX11_restore 71 = .ok (.getfield 16, 3) := by decide +kernel
theorem dX11_restore_74 : decode cX11_restore 74 = .ok (.bipush 50, 2) := by decide +kernel
theorem dX11_restore_76 : decode cX11_restore 76 = .ok (.iload_n 1, 1) := by decide +kernel
theorem dX11_restore_77 : decode cX11_restore 77 = .ok (.imul, 1) := by decide +kernel
theorem dX11_restore_78 : decode cX11_restore 78 = .ok (.iload_n 2, 1) := by decide +kernel
theorem dX11_restore_79 : decode cX11_restore 79 = .ok (.iadd, 1) := by decide +kernel
theorem dX11_restore_80 : decode cX11_restore 80 = .ok (.iaload, 1) := by decide +kernel
theorem dX11_restore_81 : decode cX11_restore 81 = .ok (.iastore, 1) := by decide +kernel
theorem dX11_restore_82 : decode cX11_restore 82 = .ok (.iinc 2 1, 3) := by decide +kernel
theorem dX11_restore_85 : decode cX11_restore 85 = .ok (.goto (-28), 3) := by decide +kernel
theorem dX11_restore_88 : decode cX11_restore 88 = .ok (.aload_n 0, 1) := by decide +kernel
theorem dX11_restore_89 : decode cX11_restore 89 = .ok (.iconst 0, 1) := by decide +kernel
theorem dX11_restore_90 : decode cX11_restore 90 = .ok (.invokevirtual 85, 3) := by decide +kernel
theorem dX11_restore_93 : decode cX11_restore 93 = .ok (.aload_n 0, 1) := by decide +kernel
theorem dX11_restore_94 : decode cX11_restore 94 = .ok (.iconst 1, 1) := by decide +kernel
theorem dX11_restore_95 : decode cX11_restore 95 = .ok (.invokevirtual 85, 3) := by decide +kernel
theorem dX11_restore_98 : decode cX11_restore 98 = .ok (.iadd, 1) := by decide +kernel
theorem dX11_restore_99 : decode cX11_restore 99 = .ok (.ireturn, 1) := by decide +kernel
theorem dX11_undo_0 : decode cX11_undo 0 = .ok (.aload_n 0, 1) := by decide +kernel
theorem dX11_undo_1 : decode cX11_undo 1 = .ok (.aload_n 0, 1) := by decide +kernel
theorem dX11_undo_2 : decode cX11_undo 2 = .ok (.getfield 74, 3) := by decide +kernel
theorem dX11_undo_5 : decode cX11_undo 5 = .ok (.ifCond .le 7, 3) := by decide +kernel
theorem dX11_undo_8 : decode cX11_undo 8 = .ok (.iconst 0, 1) := by decide +kernel
theorem dX11_undo_9 : decode cX11_undo 9 = .ok (.goto 4, 3) := by decide +kernel
theorem dX11_undo_12 : decode cX11_undo 12 = .ok (.iconst 1, 1) := by decide +kernel
theorem dX11_undo_13 : decode cX11_undo 13 = .ok (.putfield 70, 3) := by decide +kernel
theorem dX11_undo_16 : decode cX11_undo 16 = .ok (.aload_n 0, 1) := by decide +kernel
theorem dX11_undo_17 : decode cX11_undo 17 = .ok (.getfield 70, 3) := by decide +kernel
theorem dX11_undo_20 : decode cX11_undo 20 = .ok (.ifCond .le 5, 3) := by decide +kernel
theorem dX11_undo_23 : decode cX11_undo 23 = .ok (.iconst 0, 1) := by decide +kernel
theorem dX11_undo_24 : decode cX11_undo 24 = .ok (.ireturn, 1) := by decide +kernel
theorem dX11_undo_25 : decode cX11_undo 25 = .ok (.aload_n 0, 1) := by decide +kernel
theorem dX11_undo_26 : decode cX11_undo 26 = .ok (.dup, 1) := by decide +kernel
theorem dX11_undo_27 : decode cX11_undo 27 = .ok (.getfield 74, 3) := by decide +kernel
theorem dX11_undo_30 : decode cX11_undo 30 = .ok (.iconst 1, 1) := by decide +kernel
theorem dX11_undo_31 : decode cX11_undo 31 = .ok (.isub, 1) := by decide +kernel
theorem dX11_undo_32 : decode cX11_undo 32 = .ok (.putfield 74, 3) := by decide +kernel
theorem dX11_undo_35 : decode cX11_undo 35 = .ok (.iconst 0, 1) := by decide +kernel
theorem dX11_undo_36 : decode cX11_undo 36 = .ok (.istore_n 1, 1) := by decide +kernel
theorem dX11_undo_37 : decode cX11_undo 37 = .ok (.iload_n 1, 1) := by decide +kernel
theorem dX11_undo_38 : decode cX11_undo 38 = .ok (.bipush 54, 2) := by decide +kernel
theorem dX11_undo_40 : decode cX11_undo 40 = .ok (.if_icmp .ge 29, 3) := by decide +kernel
theorem dX11_undo_43 : decode cX11_undo 43 = .ok (.aload_n 0, 1) := by decide +kernel
theorem dX11_undo_44 : decode cX11_undo 44 = .ok (.getfield 7, 3) := by decide +kernel
theorem dX11_undo_47 : decode cX11_undo 47 = .ok (.iload_n 1, 1) := by decide +kernel
theorem dX11_undo_48 : decode cX11_undo 48 = .ok (.aload_n 0, 1) := by decide +kernel
theorem dX11_undo_49 : decode cX11_undo 49 = .ok (.getfield 13, 3) := by decide +kernel
theorem dX11_undo_52 : decode cX11_undo 52 = .ok (.bipush 54, 2) := by decide +kernel
theorem dX11_undo_54 : decode cX11_undo 54 = .ok (.aload_n 0, 1) := by decide +kernel
theorem dX11_undo_55 : decode cX11_undo 55 = .ok (.getfield 74, 3) := by decide +kernel
theorem dX11_undo_58 : decode cX11_undo 58 = .ok (.imul, 1) := by decide +kernel
theorem dX11_undo_59 : decode cX11_undo 59 = .ok (.iload_n 1, 1) := by decide +kernel
theorem dX11_undo_60 : decode cX11_undo 60 = .ok (.iadd, 1) := by decide +kernel
theorem dX11_undo_61 : decode cX11_undo 61 = .ok (.iaload, 1) := by decide +kernel
theorem dX11_undo_62 : decode cX11_undo 62 = .ok (.iastore, 1) := by decide +kernel
theorem dX11_undo_63 : decode cX11_undo 63 = .ok (.iinc 1 1, 3) := by decide +kernel
theorem dX11_undo_66 : decode cX11_undo 66 = .ok (.goto (-29), 3) := by decide +kernel
theorem dX11_undo_69 : decode cX11_undo 69 = .ok (.aload_n 0, 1) := by decide +kernel
theorem dX11_undo_70 : decode cX11_undo 70 = .ok (.getfield 74, 3) := by decide +kernel
theorem dX11_undo_73 : decode cX11_undo 73 = .ok (.ireturn, 1) := by decide +kernel
theorem dX11_sign_0 : decode cX11_sign 0 = .ok (.aload_n 0, 1) := by decide +kernel
theorem dX11_sign_1 : decode cX11_sign 1 = .ok (.aload_n 0, 1) := by decide +kernel
theorem dX11_sign_2 : decode cX11_sign 2 = .ok (.iload_n 1, 1) := by decide +kernel
theorem dX11_sign_3 : decode cX11_sign 3 = .ok (.iload_n 2, 1) := by decide +kernel
theorem dX11_sign_4 : decode cX11_sign 4 = .ok (.invokevirtual 156, 3) := by decide +kernel
theorem dX11_sign_7 : decode cX11_sign 7 = .ok (.ifCond .eq 7, 3) := by decide +kernel
theorem dX11_sign_10 : decode cX11_sign 10 = .ok (.iconst 0, 1) := by decide +kernel
theorem dX11_sign_11 : decode cX11_sign 11 = .ok (.goto 4, 3) := by decide +kernel
theorem dX11_sign_14 : decode cX11_sign 14 = .ok (.iconst 1, 1) := by decide +kernel
theorem dX11_sign_15 : decode cX11_sign 15 = .ok (.putfield 70, 3) := by decide +kernel
theorem dX11_sign_18 : decode cX11_sign 18 = .ok (.aload_n 0, 1) := by decide +kernel
theorem dX11_sign_19 : decode cX11_sign 19 = .ok (.getfield 70, 3) := by decide +kernel
theorem dX11_sign_22 : decode cX11_sign 22 = .ok (.ifCond .le 7, 3) := by decide +kernel
theorem dX11_sign_25 : decode cX11_sign 25 = .ok (.iconst 0, 1) := by decide +kernel
theorem dX11_sign_26 : decode cX11_sign 26 = .ok (.goto 9, 3) := by decide +kernel
theorem dX11_sign_29 : decode cX11_sign 29 = .ok (.aload_n 0, 1) := by decide +kernel
theorem dX11_sign_30 : decode cX11_sign 30 = .ok (.iload_n 1, 1) := by decide +kernel
theorem dX11_sign_31 : decode cX11_sign 31 = .ok (.iload_n 2, 1) := by decide +kernel
theorem dX11_sign_32 : decode cX11_sign 32 = .ok (.invokevirtual 89, 3) := by decide +kernel
theorem dX11_sign_35 : decode cX11_sign 35 = .ok (.ireturn, 1) := by decide +kernel
theorem dX11_anchorNow_0 : decode cX11_anchorNow 0 = .ok (.aload_n 0, 1) := by decide +kernel
theorem dX11_anchorNow_1 : decode cX11_anchorNow 1 = .ok (.invokevirtual 137, 3) := by decide +kernel
theorem dX11_anchorNow_4 : decode cX11_anchorNow 4 = .ok (.iload_n 2, 1) := by decide +kernel
theorem dX11_anchorNow_5 : decode cX11_anchorNow 5 = .ok (.tableswitch 48 0 2 #[27, 34, 41], 27) := by decide +kernel
theorem dX11_anchorNow_32 : decode cX11_anchorNow 32 = .ok (.aload_n 0, 1) := by decide +kernel
theorem dX11_anchorNow_33 : decode cX11_anchorNow 33 = .ok (.getfield 25, 3) := by decide +kernel
theorem dX11_anchorNow_36 : decode cX11_anchorNow 36 = .ok (.iload_n 1, 1) := by decide +kernel
theorem dX11_anchorNow_37 : decode cX11_anchorNow 37 = .ok (.iaload, 1) := by decide +kernel
theorem dX11_anchorNow_38 : decode cX11_anchorNow 38 = .ok (.ireturn, 1) := by decide +kernel
theorem dX11_anchorNow_39 : decode cX11_anchorNow 39 = .ok (.aload_n 0, 1) := by decide +kernel
theorem dX11_anchorNow_40 : decode cX11_anchorNow 40 = .ok (.getfield 28, 3) := by decide +kernel
theorem dX11_anchorNow_43 : decode cX11_anchorNow 43 = .ok (.iload_n 1, 1) := by decide +kernel
theorem dX11_anchorNow_44 : decode cX11_anchorNow 44 = .ok (.iaload, 1) := by decide +kernel
theorem dX11_anchorNow_45 : decode cX11_anchorNow 45 = .ok (.ireturn, 1) := by decide +kernel
theorem dX11_anchorNow_46 : decode cX11_anchorNow 46 = .ok (.aload_n 0, 1) := by decide +kernel
theorem dX11_anchorNow_47 : decode cX11_anchorNow 47 = .ok (.getfield 43, 3) := by decide +kernel
theorem dX11_anchorNow_50 : decode cX11_anchorNow 50 = .ok (.iload_n 1, 1) := by decide +kernel
theorem dX11_anchorNow_51 : decode cX11_anchorNow 51 = .ok (.iaload, 1) := by decide +kernel
theorem dX11_anchorNow_52 : decode cX11_anchorNow 52 = .ok (.ireturn, 1) := by decide +kernel
theorem dX11_anchorNow_53 : decode cX11_anchorNow 53 = .ok (.aload_n 0, 1) := by decide +kernel
theorem dX11_anchorNow_54 : decode cX11_anchorNow 54 = .ok (.getfield 40, 3) := by decide +kernel
theorem dX11_anchorNow_57 : decode cX11_anchorNow 57 = .ok (.iload_n 1, 1) := by decide +kernel
theorem dX11_anchorNow_58 : decode cX11_anchorNow 58 = .ok (.iaload, 1) := by decide +kernel
theorem dX11_anchorNow_59 : decode cX11_anchorNow 59 = .ok (.ireturn, 1) := by decide +kernel
theorem dX11_anchor_0 : decode cX11_anchor 0 = .ok (.aload_n 0, 1) := by decide +kernel
theorem dX11_anchor_1 : decode cX11_anchor 1 = .ok (.invokevirtual 107, 3) := by decide +kernel
theorem dX11_anchor_4 : decode cX11_anchor 4 = .ok (.aload_n 0, 1) := by decide +kernel
theorem dX11_anchor_5 : decode cX11_anchor 5 = .ok (.iload_n 1, 1) := by decide +kernel
theorem dX11_anchor_6 : decode cX11_anchor 6 = .ok (.iconst 0, 1) := by decide +kernel
theorem dX11_anchor_7 : decode cX11_anchor 7 = .ok (.aload_n 0, 1) := by decide +kernel
theorem dX11_anchor_8 : decode cX11_anchor 8 = .ok (.getfield 97, 3) := by decide +kernel
theorem dX11_anchor_11 : decode cX11_anchor 11 = .ok (.iconst 1, 1) := by decide +kernel
theorem dX11_anchor_12 : decode cX11_anchor 12 = .ok (.isub, 1) := by decide +kernel
theorem dX11_anchor_13 : decode cX11_anchor 13 = .ok (.invokestatic 77, 3) := by decide +kernel
theorem dX11_anchor_16 : decode cX11_anchor 16 = .ok (.ifCond .ne 7, 3) := by decide +kernel
theorem dX11_anchor_19 : decode cX11_anchor 19 = .ok (.iconst 1, 1) := by decide +kernel
theorem dX11_anchor_20 : decode cX11_anchor 20 = .ok (.goto 17, 3) := by decide +kernel
theorem dX11_anchor_23 : decode cX11_anchor 23 = .ok (.iload_n 2, 1) := by decide +kernel
theorem dX11_anchor_24 : decode cX11_anchor 24 = .ok (.iconst 0, 1) := by decide +kernel
theorem dX11_anchor_25 : decode cX11_anchor 25 = .ok (.iconst 3, 1) := by decide +kernel
theorem dX11_anchor_26 : decode cX11_anchor 26 = .ok (.invokestatic 77, 3) := by decide +kernel
theorem dX11_anchor_29 : decode cX11_anchor 29 = .ok (.ifCond .eq 7, 3) := by decide +kernel
theorem dX11_anchor_32 : decode cX11_anchor 32 = .ok (.iconst 0, 1) := by decide +kernel
theorem dX11_anchor_33 : decode cX11_anchor 33 = .ok (.goto 4, 3) := by decide +kernel
theorem dX11_anchor_36 : decode cX11_anchor 36 = .ok (.iconst 2, 1) := by decide +kernel
theorem dX11_anchor_37 : decode cX11_anchor 37 = .ok (.putfield 70, 3) := by decide +kernel
theorem dX11_anchor_40 : decode cX11_anchor 40 = .ok (.aload_n 0, 1) := by decide +kernel
theorem dX11_anchor_41 : decode cX11_anchor 41 = .ok (.getfield 70, 3) := by decide +kernel
theorem dX11_anchor_44 : decode cX11_anchor 44 = .ok (.ifCond .le 7, 3) := by decide +kernel
theorem dX11_anchor_47 : decode cX11_anchor 47 = .ok (.iconst 0, 1) := by decide +kernel
theorem dX11_anchor_48 : decode cX11_anchor 48 = .ok (.goto 9, 3) := by decide +kernel
theorem dX11_anchor_51 : decode cX11_anchor 51 = .ok (.aload_n 0, 1) := by decide +kernel
theorem dX11_anchor_52 : decode cX11_anchor 52 = .ok (.iload_n 1, 1) := by decide +kernel
theorem dX11_anchor_53 : decode cX11_anchor 53 = .ok (.iload_n 2, 1) := by decide +kernel
theorem dX11_anchor_54 : decode cX11_anchor 54 = .ok (.invokevirtual 185, 3) := by decide +kernel
theorem dX11_anchor_57 : decode cX11_anchor 57 = .ok (.ireturn, 1) := by decide +kernel
theorem dX11_stretchOf_0 : decode cX11_stretchOf 0 = .ok (.iconst 0, 1) := by decide +kernel
theorem dX11_stretchOf_1 : decode cX11_stretchOf 1 = .ok (.istore_n 2, 1) := by decide +kernel
theorem dX11_stretchOf_2 : decode cX11_stretchOf 2 = .ok (.iconst 1, 1) := by decide +kernel
theorem dX11_stretchOf_3 : decode cX11_stretchOf 3 = .ok (.istore_n 3, 1) := by decide +kernel
theorem dX11_stretchOf_4 : decode cX11_stretchOf 4 = .ok (.iload_n 3, 1) := by decide +kernel
theorem dX11_stretchOf_5 : decode cX11_stretchOf 5 = .ok (.iload_n 1, 1) := by decide +kernel
theorem dX11_stretchOf_6 : decode cX11_stretchOf 6 = .ok (.if_icmp .gt 34, 3) := by decide +kernel
theorem dX11_stretchOf_9 : decode cX11_stretchOf 9 = .ok (.iload_n 2, 1) := by decide +kernel
theorem dX11_stretchOf_10 : decode cX11_stretchOf 10 = .ok (.aload_n 0, 1) := by decide +kernel
theorem dX11_stretchOf_11 : decode cX11_stretchOf 11 = .ok (.getfield 34, 3) := by decide +kernel
theorem dX11_stretchOf_14 : decode cX11_stretchOf 14 = .ok (.iload_n 3, 1) := by decide +kernel
theorem dX11_stretchOf_15 : decode cX11_stretchOf 15 = .ok (.iaload, 1) := by decide +kernel
theorem dX11_stretchOf_16 : decode cX11_stretchOf 16 = .ok (.aload_n 0, 1) := by decide +kernel
theorem dX11_stretchOf_17 : decode cX11_stretchOf 17 = .ok (.getfield 34, 3) := by decide +kernel
theorem dX11_stretchOf_20 : decode cX11_stretchOf 20 = .ok (.iload_n 3, 1) := by decide +kernel
theorem dX11_stretchOf_21 : decode cX11_stretchOf 21 = .ok (.iconst 1, 1) := by decide +kernel
theorem dX11_stretchOf_22 : decode cX11_stretchOf 22 = .ok (.isub, 1) := by decide +kernel
theorem dX11_stretchOf_23 : decode cX11_stretchOf 23 = .ok (.iaload, 1) := by decide +kernel
theorem dX11_stretchOf_24 : decode cX11_stretchOf 24 = .ok (.if_icmp .ge 7, 3) := by decide +kernel
theorem dX11_stretchOf_27 : decode cX11_stretchOf 27 = .ok (.iconst 0, 1) := by decide +kernel
theorem dX11_stretchOf_28 : decode cX11_stretchOf 28 = .ok (.goto 4, 3) := by decide +kernel
theorem dX11_stretchOf_31 : decode cX11_stretchOf 31 = .ok (.iconst 1, 1) := by decide +kernel
theorem dX11_stretchOf_32 : decode cX11_stretchOf 32 = .ok (.iadd, 1) := by decide +kernel
theorem dX11_stretchOf_33 : decode cX11_stretchOf 33 = .ok (.istore_n 2, 1) := by decide +kernel
theorem dX11_stretchOf_34 : decode cX11_stretchOf 34 = .ok (.iinc 3 1, 3) := by decide +kernel
theorem dX11_stretchOf_37 : decode cX11_stretchOf 37 = .ok (.goto (-33), 3) := by decide +kernel
theorem dX11_stretchOf_40 : decode cX11_stretchOf 40 = .ok (.iload_n 2, 1) := by decide +kernel
theorem dX11_stretchOf_41 : decode cX11_stretchOf 41 = .ok (.ireturn, 1) := by decide +kernel
theorem dX11_turnedNow_0 : decode cX11_turnedNow 0 = .ok (.aload_n 0, 1) := by decide +kernel
theorem dX11_turnedNow_1 : decode cX11_turnedNow 1 = .ok (.invokevirtual 107, 3) := by decide +kernel
theorem dX11_turnedNow_4 : decode cX11_turnedNow 4 = .ok (.iload_n 2, 1) := by decide +kernel
theorem dX11_turnedNow_5 : decode cX11_turnedNow 5 = .ok (.ifCond .ne 12, 3) := by decide +kernel
theorem dX11_turnedNow_8 : decode cX11_turnedNow 8 = .ok (.aload_n 0, 1) := by decide +kernel
theorem dX11_turnedNow_9 : decode cX11_turnedNow 9 = .ok (.getfield 31, 3) := by decide +kernel
theorem dX11_turnedNow_12 : decode cX11_turnedNow 12 = .ok (.iload_n 1, 1) := by decide +kernel
theorem dX11_turnedNow_13 : decode cX11_turnedNow 13 = .ok (.iaload, 1) := by decide +kernel
theorem dX11_turnedNow_14 : decode cX11_turnedNow 14 = .ok (.goto 22, 3) := by decide +kernel
theorem dX11_turnedNow_17 : decode cX11_turnedNow 17 = .ok (.iload_n 2, 1) := by decide +kernel
theorem dX11_turnedNow_18 : decode cX11_turnedNow 18 = .ok (.iconst 1, 1) := by decide +kernel
theorem dX11_turnedNow_19 : decode cX11_turnedNow 19 = .ok (.if_icmp .ne 12, 3) := by decide +kernel
theorem dX11_turnedNow_22 : decode cX11_turnedNow 22 = .ok (.aload_n 0, 1) := by decide +kernel
theorem dX11_turnedNow_23 : decode cX11_turnedNow 23 = .ok (.getfield 34, 3) := by decide +kernel
theorem dX11_turnedNow_26 : decode cX11_turnedNow 26 = .ok (.iload_n 1, 1) := by decide +kernel
theorem dX11_turnedNow_27 : decode cX11_turnedNow 27 = .ok (.iaload, 1) := by decide +kernel
theorem dX11_turnedNow_28 : decode cX11_turnedNow 28 = .ok (.goto 8, 3) := by decide +kernel
theorem dX11_turnedNow_31 : decode cX11_turnedNow 31 = .ok (.aload_n 0, 1) := by decide +kernel
theorem dX11_turnedNow_32 : decode cX11_turnedNow 32 = .ok (.iload_n 1, 1) := by decide +kernel
theorem dX11_turnedNow_33 : decode cX11_turnedNow 33 = .ok (.invokevirtual 188, 3) := by decide +kernel
theorem dX11_turnedNow_36 : decode cX11_turnedNow 36 = .ok (.ireturn, 1) := by decide +kernel
theorem dX11_turned_0 : decode cX11_turned 0 = .ok (.aload_n 0, 1) := by decide +kernel
theorem dX11_turned_1 : decode cX11_turned 1 = .ok (.invokevirtual 107, 3) := by decide +kernel
theorem dX11_turned_4 : decode cX11_turned 4 = .ok (.aload_n 0, 1) := by decide +kernel
theorem dX11_turned_5 : decode cX11_turned 5 = .ok (.iload_n 1, 1) := by decide +kernel
theorem dX11_turned_6 : decode cX11_turned 6 = .ok (.iconst 0, 1) := by decide +kernel
theorem dX11_turned_7 : decode cX11_turned 7 = .ok (.aload_n 0, 1) := by decide +kernel
theorem dX11_turned_8 : decode cX11_turned 8 = .ok (.getfield 100, 3) := by decide +kernel
theorem dX11_turned_11 : decode cX11_turned 11 = .ok (.iconst 1, 1) := by decide +kernel
theorem dX11_turned_12 : decode cX11_turned 12 = .ok (.isub, 1) := by decide +kernel
theorem dX11_turned_13 : decode cX11_turned 13 = .ok (.invokestatic 77, 3) := by decide +kernel
theorem dX11_turned_16 : decode cX11_turned 16 = .ok (.ifCond .ne 7, 3) := by decide +kernel
theorem dX11_turned_19 : decode cX11_turned 19 = .ok (.iconst 1, 1) := by decide +kernel
theorem dX11_turned_20 : decode cX11_turned 20 = .ok (.goto 17, 3) := by decide +kernel
theorem dX11_turned_23 : decode cX11_turned 23 = .ok (.iload_n 2, 1) := by decide +kernel
theorem dX11_turned_24 : decode cX11_turned 24 = .ok (.iconst 0, 1) := by decide +kernel
theorem dX11_turned_25 : decode cX11_turned 25 = .ok (.iconst 2, 1) := by decide +kernel
theorem dX11_turned_26 : decode cX11_turned 26 = .ok (.invokestatic 77, 3) := by decide +kernel
theorem dX11_turned_29 : decode cX11_turned 29 = .ok (.ifCond .eq 7, 3) := by decide +kernel
theorem dX11_turned_32 : decode cX11_turned 32 = .ok (.iconst 0, 1) := by decide +kernel
theorem dX11_turned_33 : decode cX11_turned 33 = .ok (.goto 4, 3) := by decide +kernel
theorem dX11_turned_36 : decode cX11_turned 36 = .ok (.iconst 2, 1) := by decide +kernel
theorem dX11_turned_37 : decode cX11_turned 37 = .ok (.putfield 70, 3) := by decide +kernel
theorem dX11_turned_40 : decode cX11_turned 40 = .ok (.aload_n 0, 1) := by decide +kernel
theorem dX11_turned_41 : decode cX11_turned 41 = .ok (.getfield 70, 3) := by decide +kernel
theorem dX11_turned_44 : decode cX11_turned 44 = .ok (.ifCond .le 7, 3) := by decide +kernel
theorem dX11_turned_47 : decode cX11_turned 47 = .ok (.iconst 0, 1) := by decide +kernel
theorem dX11_turned_48 : decode cX11_turned 48 = .ok (.goto 9, 3) := by decide +kernel
theorem dX11_turned_51 : decode cX11_turned 51 = .ok (.aload_n 0, 1) := by decide +kernel
theorem dX11_turned_52 : decode cX11_turned 52 = .ok (.iload_n 1, 1) := by decide +kernel
theorem dX11_turned_53 : decode cX11_turned 53 = .ok (.iload_n 2, 1) := by decide +kernel
theorem dX11_turned_54 : decode cX11_turned 54 = .ok (.invokevirtual 191, 3) := by decide +kernel
theorem dX11_turned_57 : decode cX11_turned 57 = .ok (.ireturn, 1) := by decide +kernel
theorem dX11_gapNow_0 : decode cX11_gapNow 0 = .ok (.aload_n 0, 1) := by decide +kernel
theorem dX11_gapNow_1 : decode cX11_gapNow 1 = .ok (.invokevirtual 143, 3) := by decide +kernel
theorem dX11_gapNow_4 : decode cX11_gapNow 4 = .ok (.iload_n 1, 1) := by decide +kernel
theorem dX11_gapNow_5 : decode cX11_gapNow 5 = .ok (.aload_n 0, 1) := by decide +kernel
theorem dX11_gapNow_6 : decode cX11_gapNow 6 = .ok (.getfield 122, 3) := by decide +kernel
theorem dX11_gapNow_9 : decode cX11_gapNow 9 = .ok (.if_icmp .lt 5, 3) := by decide +kernel
theorem dX11_gapNow_12 : decode cX11_gapNow 12 = .ok (.iconst (-1), 1) := by decide +kernel
theorem dX11_gapNow_13 : decode cX11_gapNow 13 = .ok (.ireturn, 1) := by decide +kernel
theorem dX11_gapNow_14 : decode cX11_gapNow 14 = .ok (.iload_n 2, 1) := by decide +kernel
theorem dX11_gapNow_15 : decode cX11_gapNow 15 = .ok (.tableswitch 69 0 3 #[29, 38, 47, 58], 29) := by decide +kernel
theorem dX11_gapNow_44 : decode cX11_gapNow 44 = .ok (.aload_n 0, 1) := by decide +kernel
theorem dX11_gapNow_45 : decode cX11_gapNow 45 = .ok (.getfield 49, 3) := by decide +kernel
theorem dX11_gapNow_48 : decode cX11_gapNow 48 = .ok (.iconst 2, 1) := by decide +kernel
theorem dX11_gapNow_49 : decode cX11_gapNow 49 = .ok (.iload_n 1, 1) := by decide +kernel
theorem dX11_gapNow_50 : decode cX11_gapNow 50 = .ok (.imul, 1) := by decide +kernel
theorem dX11_gapNow_51 : decode cX11_gapNow 51 = .ok (.iaload, 1) := by decide +kernel
theorem dX11_gapNow_52 : decode cX11_gapNow 52 = .ok (.ireturn, 1) := by decide +kernel
theorem dX11_gapNow_53 : decode cX11_gapNow 53 = .ok (.aload_n 0, 1) := by decide +kernel
theorem dX11_gapNow_54 : decode cX11_gapNow 54 = .ok (.getfield 52, 3) := by decide +kernel
theorem dX11_gapNow_57 : decode cX11_gapNow 57 = .ok (.iconst 2, 1) := by decide +kernel
theorem dX11_gapNow_58 : decode cX11_gapNow 58 = .ok (.iload_n 1, 1) := by decide +kernel
theorem dX11_gapNow_59 : decode cX11_gapNow 59 = .ok (.imul, 1) := by decide +kernel
theorem dX11_gapNow_60 : decode cX11_gapNow 60 = .ok (.iaload, 1) := by decide +kernel
theorem dX11_gapNow_61 : decode cX11_gapNow 61 = .ok (.ireturn, 1) := by decide +kernel
theorem dX11_gapNow_62 : decode cX11_gapNow 62 = .ok (.aload_n 0, 1) := by decide +kernel
theorem dX11_gapNow_63 : decode cX11_gapNow 63 = .ok (.getfield 49, 3) := by decide +kernel
theorem dX11_gapNow_66 : decode cX11_gapNow 66 = .ok (.iconst 2, 1) := by decide +kernel
theorem dX11_gapNow_67 : decode cX11_gapNow 67 = .ok (.iload_n 1, 1) := by decide +kernel
theorem dX11_gapNow_68 : decode cX11_gapNow 68 = .ok (.imul, 1) := by decide +kernel
theorem dX11_gapNow_69 : decode cX11_gapNow 69 = .ok (.iconst 1, 1) := by decide +kernel
theorem dX11_gapNow_70 : decode cX11_gapNow 70 = .ok (.iadd, 1) := by decide +kernel
theorem dX11_gapNow_71 : decode cX11_gapNow 71 = .ok (.iaload, 1) := by decide +kernel
theorem dX11_gapNow_72 : decode cX11_gapNow 72 = .ok (.ireturn, 1) := by decide +kernel
theorem dX11_gapNow_73 : decode cX11_gapNow 73 = .ok (.aload_n 0, 1) := by decide +kernel
theorem dX11_gapNow_74 : decode cX11_gapNow 74 = .ok (.getfield 52, 3) := by decide +kernel
theorem dX11_gapNow_77 : decode cX11_gapNow 77 = .ok (.iconst 2, 1) := by decide +kernel
theorem dX11_gapNow_78 : decode cX11_gapNow 78 = .ok (.iload_n 1, 1) := by decide +kernel
theorem dX11_gapNow_79 : decode cX11_gapNow 79 = .ok (.imul, 1) := by decide +kernel
theorem dX11_gapNow_80 : decode cX11_gapNow 80 = .ok (.iconst 1, 1) := by decide +kernel
theorem dX11_gapNow_81 : decode cX11_gapNow 81 = .ok (.iadd, 1) := by decide +kernel
theorem dX11_gapNow_82 : decode cX11_gapNow 82 = .ok (.iaload, 1) := by decide +kernel
theorem dX11_gapNow_83 : decode cX11_gapNow 83 = .ok (.ireturn, 1) := by decide +kernel
theorem dX11_gapNow_84 : decode cX11_gapNow 84 = .ok (.aload_n 0, 1) := by decide +kernel
theorem dX11_gapNow_85 : decode cX11_gapNow 85 = .ok (.getfield 55, 3) := by decide +kernel
theorem dX11_gapNow_88 : decode cX11_gapNow 88 = .ok (.iload_n 1, 1) := by decide +kernel
theorem dX11_gapNow_89 : decode cX11_gapNow 89 = .ok (.iaload, 1) := by decide +kernel
theorem dX11_gapNow_90 : decode cX11_gapNow 90 = .ok (.ireturn, 1) := by decide +kernel
theorem dX11_gap_0 : decode cX11_gap 0 = .ok (.aload_n 0, 1) := by decide +kernel
theorem dX11_gap_1 : decode cX11_gap 1 = .ok (.iload_n 1, 1) := by decide +kernel
theorem dX11_gap_2 : decode cX11_gap 2 = .ok (.ifCond .lt 16, 3) := by decide +kernel
theorem dX11_gap_5 : decode cX11_gap 5 = .ok (.iload_n 2, 1) := by decide +kernel
theorem dX11_gap_6 : decode cX11_gap 6 = .ok (.iconst 0, 1) := by decide +kernel
theorem dX11_gap_7 : decode cX11_gap 7 = .ok (.iconst 4, 1) := by decide +kernel
theorem dX11_gap_8 : decode cX11_gap 8 = .ok (.invokestatic 77, 3) := by decide +kernel
theorem dX11_gap_11 : decode cX11_gap 11 = .ok (.ifCond .eq 7, 3) := by decide +kernel
theorem dX11_gap_14 : decode cX11_gap 14 = .ok (.iconst 0, 1) := by decide +kernel
theorem dX11_gap_15 : decode cX11_gap 15 = .ok (.goto 4, 3) := by decide +kernel
theorem dX11_gap_18 : decode cX11_gap 18 = .ok (.iconst 1, 1) := by decide +kernel
theorem dX11_gap_19 : decode cX11_gap 19 = .ok (.putfield 70, 3) := by decide +kernel
theorem dX11_gap_22 : decode cX11_gap 22 = .ok (.aload_n 0, 1) := by decide +kernel
theorem dX11_gap_23 : decode cX11_gap 23 = .ok (.getfield 70, 3) := by decide +kernel
theorem dX11_gap_26 : decode cX11_gap 26 = .ok (.ifCond .le 7, 3) := by decide +kernel
theorem dX11_gap_29 : decode cX11_gap 29 = .ok (.iconst 0, 1) := by decide +kernel
theorem dX11_gap_30 : decode cX11_gap 30 = .ok (.goto 9, 3) := by decide +kernel
theorem dX11_gap_33 : decode cX11_gap 33 = .ok (.aload_n 0, 1) := by decide +kernel
theorem dX11_gap_34 : decode cX11_gap 34 = .ok (.iload_n 1, 1) := by decide +kernel
theorem dX11_gap_35 : decode cX11_gap 35 = .ok (.iload_n 2, 1) := by decide +kernel
theorem dX11_gap_36 : decode cX11_gap 36 = .ok (.invokevirtual 194, 3) := by decide +kernel
theorem dX11_gap_39 : decode cX11_gap 39 = .ok (.ireturn, 1) := by decide +kernel
theorem dX11_partnerNow_0 : decode cX11_partnerNow 0 = .ok (.aload_n 0, 1) := by decide +kernel
theorem dX11_partnerNow_1 : decode cX11_partnerNow 1 = .ok (.invokevirtual 143, 3) := by decide +kernel
theorem dX11_partnerNow_4 : decode cX11_partnerNow 4 = .ok (.aload_n 0, 1) := by decide +kernel
theorem dX11_partnerNow_5 : decode cX11_partnerNow 5 = .ok (.getfield 58, 3) := by decide +kernel
theorem dX11_partnerNow_8 : decode cX11_partnerNow 8 = .ok (.bipush 24, 2) := by decide +kernel
theorem dX11_partnerNow_10 : decode cX11_partnerNow 10 = .ok (.iload_n 1, 1) := by decide +kernel
theorem dX11_partnerNow_11 : decode cX11_partnerNow 11 = .ok (.imul, 1) := by decide +kernel
theorem dX11_partnerNow_12 : decode cX11_partnerNow 12 = .ok (.iload_n 2, 1) := by decide +kernel
theorem dX11_partnerNow_13 : decode cX11_partnerNow 13 = .ok (.iadd, 1) := by decide +kernel
theorem dX11_partnerNow_14 : decode cX11_partnerNow 14 = .ok (.iaload, 1) := by decide +kernel
theorem dX11_partnerNow_15 : decode cX11_partnerNow 15 = .ok (.ireturn, 1) := by decide +kernel
theorem dX11_partner_0 : decode cX11_partner 0 = .ok (.aload_n 0, 1) := by decide +kernel
theorem dX11_partner_1 : decode cX11_partner 1 = .ok (.aload_n 0, 1) := by decide +kernel
theorem dX11_partner_2 : decode cX11_partner 2 = .ok (.iload_n 1, 1) := by decide +kernel
theorem dX11_partner_3 : decode cX11_partner 3 = .ok (.iload_n 2, 1) := by decide +kernel
theorem dX11_partner_4 : decode cX11_partner 4 = .ok (.invokevirtual 156, 3) := by decide +kernel
theorem dX11_partner_7 : decode cX11_partner 7 = .ok (.ifCond .eq 7, 3) := by decide +kernel
theorem dX11_partner_10 : decode cX11_partner 10 = .ok (.iconst 0, 1) := by decide +kernel
theorem dX11_partner_11 : decode cX11_partner 11 = .ok (.goto 4, 3) := by decide +kernel
theorem dX11_partner_14 : decode cX11_partner 14 = .ok (.iconst 1, 1) := by decide +kernel
theorem dX11_partner_15 : decode cX11_partner 15 = .ok (.putfield 70, 3) := by decide +kernel
theorem dX11_partner_18 : decode cX11_partner 18 = .ok (.aload_n 0, 1) := by decide +kernel
theorem dX11_partner_19 : decode cX11_partner 19 = .ok (.getfield 70, 3) := by decide +kernel
theorem dX11_partner_22 : decode cX11_partner 22 = .ok (.ifCond .le 7, 3) := by decide +kernel
theorem dX11_partner_25 : decode cX11_partner 25 = .ok (.iconst 0, 1) := by decide +kernel
theorem dX11_partner_26 : decode cX11_partner 26 = .ok (.goto 9, 3) := by decide +kernel
theorem dX11_partner_29 : decode cX11_partner 29 = .ok (.aload_n 0, 1) := by decide +kernel
theorem dX11_partner_30 : decode cX11_partner 30 = .ok (.iload_n 1, 1) := by decide +kernel
theorem dX11_partner_31 : decode cX11_partner 31 = .ok (.iload_n 2, 1) := by decide +kernel
theorem dX11_partner_32 : decode cX11_partner 32 = .ok (.invokevirtual 197, 3) := by decide +kernel
theorem dX11_partner_35 : decode cX11_partner 35 = .ok (.ireturn, 1) := by decide +kernel
theorem dX11_standings_0 : decode cX11_standings 0 = .ok (.iconst 0, 1) := by decide +kernel
theorem dX11_standings_1 : decode cX11_standings 1 = .ok (.istore 4, 2) := by decide +kernel
theorem dX11_standings_3 : decode cX11_standings 3 = .ok (.iconst 0, 1) := by decide +kernel
theorem dX11_standings_4 : decode cX11_standings 4 = .ok (.istore 5, 2) := by decide +kernel
theorem dX11_standings_6 : decode cX11_standings 6 = .ok (.iload 5, 2) := by decide +kernel
theorem dX11_standings_8 : decode cX11_standings 8 = .ok (.iload_n 3, 1) := by decide +kernel
theorem dX11_standings_9 : decode cX11_standings 9 = .ok (.iadd, 1) := by decide +kernel
theorem dX11_standings_10 : decode cX11_standings 10 = .ok (.aload_n 0, 1) := by decide +kernel
theorem dX11_standings_11 : decode cX11_standings 11 = .ok (.iload_n 1, 1) := by decide +kernel
theorem dX11_standings_12 : decode cX11_standings 12 = .ok (.invokevirtual 85, 3) := by decide +kernel
theorem dX11_standings_15 : decode cX11_standings 15 = .ok (.if_icmp .gt 76, 3) := by decide +kernel
theorem dX11_standings_18 : decode cX11_standings 18 = .ok (.iconst 1, 1) := by decide +kernel
theorem dX11_standings_19 : decode cX11_standings 19 = .ok (.istore 6, 2) := by decide +kernel
theorem dX11_standings_21 : decode cX11_standings 21 = .ok (.iconst 0, 1) := by decide +kernel
theorem dX11_standings_22 : decode cX11_standings 22 = .ok (.istore 7, 2) := by decide +kernel
theorem dX11_standings_24 : decode cX11_standings 24 = .ok (.iload 7, 2) := by decide +kernel
theorem dX11_standings_26 : decode cX11_standings 26 = .ok (.iload_n 3, 1) := by decide +kernel
theorem dX11_standings_27 : decode cX11_standings 27 = .ok (.if_icmp .ge 43, 3) := by decide +kernel
theorem dX11_standings_30 : decode cX11_standings 30 = .ok (.iload 6, 2) := by decide +kernel
theorem dX11_standings_32 : decode cX11_standings 32 = .ok (.ifCond .eq 29, 3) := by decide +kernel
theorem dX11_standings_35 : decode cX11_standings 35 = .ok (.aload_n 0, 1) := by decide +kernel
theorem dX11_standings_36 : decode cX11_standings 36 = .ok (.iload_n 1, 1) := by decide +kernel
theorem dX11_standings_37 : decode cX11_standings 37 = .ok (.iload 5, 2) := by decide +kernel
theorem dX11_standings_39 : decode cX11_standings 39 = .ok (.iload 7, 2) := by decide +kernel
theorem dX11_standings_41 : decode cX11_standings 41 = .ok (.iadd, 1) := by decide +kernel
theorem dX11_standings_42 : decode cX11_standings 42 = .ok (.invokevirtual 89, 3) := by decide +kernel
theorem dX11_standings_45 : decode cX11_standings 45 = .ok (.aload_n 0, 1) := by decide +kernel
theorem dX11_standings_46 : decode cX11_standings 46 = .ok (.iload_n 1, 1) := by decide +kernel
theorem dX11_standings_47 : decode cX11_standings 47 = .ok (.iload_n 2, 1) := by decide +kernel
theorem dX11_standings_48 : decode cX11_standings 48 = .ok (.iload 7, 2) := by decide +kernel
theorem dX11_standings_50 : decode cX11_standings 50 = .ok (.iadd, 1) := by decide +kernel
theorem dX11_standings_51 : decode cX11_standings 51 = .ok (.invokevirtual 89, 3) := by decide +kernel
theorem dX11_standings_54 : decode cX11_standings 54 = .ok (.if_icmp .ne 7, 3) := by decide +kernel
theorem dX11_standings_57 : decode cX11_standings 57 = .ok (.iconst 1, 1) := by decide +kernel
theorem dX11_standings_58 : decode cX11_standings 58 = .ok (.goto 4, 3) := by decide +kernel
theorem dX11_standings_61 : decode cX11_standings 61 = .ok (.iconst 0, 1) := by decide +kernel
theorem dX11_standings_62 : decode cX11_standings 62 = .ok (.istore 6, 2) := by decide +kernel
theorem dX11_standings_64 : decode cX11_standings 64 = .ok (.iinc 7 1, 3) := by decide +kernel
theorem dX11_standings_67 : decode cX11_standings 67 = .ok (.goto (-43), 3) := by decide +kernel
theorem dX11_standings_70 : decode cX11_standings 70 = .ok (.iload 4, 2) := by decide +kernel
theorem dX11_standings_72 : decode cX11_standings 72 = .ok (.iload 6, 2) := by decide +kernel
theorem dX11_standings_74 : decode cX11_standings 74 = .ok (.ifCond .eq 7, 3) := by decide +kernel
theorem dX11_standings_77 : decode cX11_standings 77 = .ok (.iconst 1, 1) := by decide +kernel
theorem dX11_standings_78 : decode cX11_standings 78 = .ok (.goto 4, 3) := by decide +kernel
theorem dX11_standings_81 : decode cX11_standings 81 = .ok (.iconst 0, 1) := by decide +kernel
theorem dX11_standings_82 : decode cX11_standings 82 = .ok (.iadd, 1) := by decide +kernel
theorem dX11_standings_83 : decode cX11_standings 83 = .ok (.istore 4, 2) := by decide +kernel
theorem dX11_standings_85 : decode cX11_standings 85 = .ok (.iinc 5 1, 3) := by decide +kernel
theorem dX11_standings_88 : decode cX11_standings 88 = .ok (.goto (-82), 3) := by decide +kernel
theorem dX11_standings_91 : decode cX11_standings 91 = .ok (.iload 4, 2) := by decide +kernel
theorem dX11_standings_93 : decode cX11_standings 93 = .ok (.ireturn, 1) := by decide +kernel
theorem dX11_doubledNow_0 : decode cX11_doubledNow 0 = .ok (.aload_n 0, 1) := by decide +kernel
theorem dX11_doubledNow_1 : decode cX11_doubledNow 1 = .ok (.iload_n 1, 1) := by decide +kernel
theorem dX11_doubledNow_2 : decode cX11_doubledNow 2 = .ok (.invokevirtual 85, 3) := by decide +kernel
theorem dX11_doubledNow_5 : decode cX11_doubledNow 5 = .ok (.iconst 1, 1) := by decide +kernel
theorem dX11_doubledNow_6 : decode cX11_doubledNow 6 = .ok (.isub, 1) := by decide +kernel
theorem dX11_doubledNow_7 : decode cX11_doubledNow 7 = .ok (.istore_n 3, 1) := by decide +kernel
theorem dX11_doubledNow_8 : decode cX11_doubledNow 8 = .ok (.iload_n 3, 1) := by decide +kernel
theorem dX11_doubledNow_9 : decode cX11_doubledNow 9 = .ok (.ifCond .le 67, 3) := by decide +kernel
theorem dX11_doubledNow_12 : decode cX11_doubledNow 12 = .ok (.iconst 0, 1) := by decide +kernel
theorem dX11_doubledNow_13 : decode cX11_doubledNow 13 = .ok (.istore 4, 2) := by decide +kernel
theorem dX11_doubledNow_15 : decode cX11_doubledNow 15 = .ok (.iload 4, 2) := by decide +kernel
theorem dX11_doubledNow_17 : decode cX11_doubledNow 17 = .ok (.iload_n 3, 1) := by decide +kernel
theorem dX11_doubledNow_18 : decode cX11_doubledNow 18 = .ok (.iadd, 1) := by decide +kernel
theorem dX11_doubledNow_19 : decode cX11_doubledNow 19 = .ok (.aload_n 0, 1) := by decide +kernel
theorem dX11_doubledNow_20 : decode cX11_doubledNow 20 = .ok (.iload_n 1, 1) := by decide +kernel
theorem dX11_doubledNow_21 : decode cX11_doubledNow 21 = .ok (.invokevirtual 85, 3) := by decide +kernel
theorem dX11_doubledNow_24 : decode cX11_doubledNow 24 = .ok (.if_icmp .ge 46, 3) := by decide +kernel
theorem dX11_doubledNow_27 : decode cX11_doubledNow 27 = .ok (.aload_n 0, 1) := by decide +kernel
theorem dX11_doubledNow_28 : decode cX11_doubledNow 28 = .ok (.iload_n 1, 1) := by decide +kernel
theorem dX11_doubledNow_29 : decode cX11_doubledNow 29 = .ok (.iload 4, 2) := by decide +kernel
theorem dX11_doubledNow_31 : decode cX11_doubledNow 31 = .ok (.iload_n 3, 1) := by decide +kernel
theorem dX11_doubledNow_32 : decode cX11_doubledNow 32 = .ok (.invokevirtual 200, 3) := by decide +kernel
theorem dX11_doubledNow_35 : decode cX11_doubledNow 35 = .ok (.istore 5, 2) := by decide +kernel
theorem dX11_doubledNow_37 : decode cX11_doubledNow 37 = .ok (.iload 5, 2) := by decide +kernel
theorem dX11_doubledNow_39 : decode cX11_doubledNow 39 = .ok (.iconst 1, 1) := by decide +kernel
theorem dX11_doubledNow_40 : decode cX11_doubledNow 40 = .ok (.if_icmp .le 24, 3) := by decide +kernel
theorem dX11_doubledNow_43 : decode cX11_doubledNow 43 = .ok (.iload_n 2, 1) := by decide +kernel
theorem dX11_doubledNow_44 : decode cX11_doubledNow 44 = .ok (.ifCond .ne 7, 3) := by decide +kernel
theorem dX11_doubledNow_47 : decode cX11_doubledNow 47 = .ok (.iload_n 3, 1) := by decide +kernel
theorem dX11_doubledNow_48 : decode cX11_doubledNow 48 = .ok (.goto 15, 3) := by decide +kernel
theorem dX11_doubledNow_51 : decode cX11_doubledNow 51 = .ok (.iload_n 2, 1) := by decide +kernel
theorem dX11_doubledNow_52 : decode cX11_doubledNow 52 = .ok (.iconst 1, 1) := by decide +kernel
theorem dX11_doubledNow_53 : decode cX11_doubledNow 53 = .ok (.if_icmp .ne 8, 3) := by decide +kernel
theorem dX11_doubledNow_56 : decode cX11_doubledNow 56 = .ok (.iload 4, 2) := by decide +kernel
theorem dX11_doubledNow_58 : decode cX11_doubledNow 58 = .ok (.goto 5, 3) := by decide +kernel
theorem dX11_doubledNow_61 : decode cX11_doubledNow 61 = .ok (.iload 5, 2) := by decide +kernel
theorem dX11_doubledNow_63 : decode cX11_doubledNow 63 = .ok (.ireturn, 1) := by decide +kernel
theorem dX11_doubledNow_64 : decode cX11_doubledNow 64 = .ok (.iinc 4 1, 3) := by decide +kernel
theorem dX11_doubledNow_67 : decode cX11_doubledNow 67 = .ok (.goto (-52), 3) := by decide +kernel
theorem dX11_doubledNow_70 : decode cX11_doubledNow 70 = .ok (.iinc 3 (-1), 3) := by decide +kernel
theorem dX11_doubledNow_73 : decode cX11_doubledNow 73 = .ok (.goto (-65), 3) := by decide +kernel
theorem dX11_doubledNow_76 : decode cX11_doubledNow 76 = .ok (.iload_n 2, 1) := by decide +kernel
theorem dX11_doubledNow_77 : decode cX11_doubledNow 77 = .ok (.ifCond .ne 7, 3) := by decide +kernel
theorem dX11_doubledNow_80 : decode cX11_doubledNow 80 = .ok (.iconst 0, 1) := by decide +kernel
theorem dX11_doubledNow_81 : decode cX11_doubledNow 81 = .ok (.goto 4, 3) := by decide +kernel
theorem dX11_doubledNow_84 : decode cX11_doubledNow 84 = .ok (.iconst (-1), 1) := by decide +kernel
theorem dX11_doubledNow_85 : decode cX11_doubledNow 85 = .ok (.ireturn, 1) := by decide +kernel
theorem dX11_doubled_0 : decode cX11_doubled 0 = .ok (.aload_n 0, 1) := by decide +kernel
theorem dX11_doubled_1 : decode cX11_doubled 1 = .ok (.iload_n 1, 1) := by decide +kernel
theorem dX11_doubled_2 : decode cX11_doubled 2 = .ok (.invokestatic 81, 3) := by decide +kernel
theorem dX11_doubled_5 : decode cX11_doubled 5 = .ok (.ifCond .ne 7, 3) := by decide +kernel
theorem dX11_doubled_8 : decode cX11_doubled 8 = .ok (.iconst 1, 1) := by decide +kernel
theorem dX11_doubled_9 : decode cX11_doubled 9 = .ok (.goto 17, 3) := by decide +kernel
theorem dX11_doubled_12 : decode cX11_doubled 12 = .ok (.iload_n 2, 1) := by decide +kernel
theorem dX11_doubled_13 : decode cX11_doubled 13 = .ok (.iconst 0, 1) := by decide +kernel
theorem dX11_doubled_14 : decode cX11_doubled 14 = .ok (.iconst 2, 1) := by decide +kernel
theorem dX11_doubled_15 : decode cX11_doubled 15 = .ok (.invokestatic 77, 3) := by decide +kernel
theorem dX11_doubled_18 : decode cX11_doubled 18 = .ok (.ifCond .eq 7, 3) := by decide +kernel
theorem dX11_doubled_21 : decode cX11_doubled 21 = .ok (.iconst 0, 1) := by decide +kernel
theorem dX11_doubled_22 : decode cX11_doubled 22 = .ok (.goto 4, 3) := by decide +kernel
theorem dX11_doubled_25 : decode cX11_doubled 25 = .ok (.iconst 2, 1) := by decide +kernel
theorem dX11_doubled_26 : decode cX11_doubled 26 = .ok (.putfield 70, 3) := by decide +kernel
theorem dX11_doubled_29 : decode cX11_doubled 29 = .ok (.aload_n 0, 1) := by decide +kernel
theorem dX11_doubled_30 : decode cX11_doubled 30 = .ok (.getfield 70, 3) := by decide +kernel
theorem dX11_doubled_33 : decode cX11_doubled 33 = .ok (.ifCond .le 7, 3) := by decide +kernel
theorem dX11_doubled_36 : decode cX11_doubled 36 = .ok (.iconst 0, 1) := by decide +kernel
theorem dX11_doubled_37 : decode cX11_doubled 37 = .ok (.goto 9, 3) := by decide +kernel
theorem dX11_doubled_40 : decode cX11_doubled 40 = .ok (.aload_n 0, 1) := by decide +kernel
theorem dX11_doubled_41 : decode cX11_doubled 41 = .ok (.iload_n 1, 1) := by decide +kernel
theorem dX11_doubled_42 : decode cX11_doubled 42 = .ok (.iload_n 2, 1) := by decide +kernel
theorem dX11_doubled_43 : decode cX11_doubled 43 = .ok (.invokevirtual 203, 3) := by decide +kernel
theorem dX11_doubled_46 : decode cX11_doubled 46 = .ok (.ireturn, 1) := by decide +kernel
theorem dX11_turnedStretches_0 : decode cX11_turnedStretches 0 = .ok (.aload_n 0, 1) := by decide +kernel
theorem dX11_turnedStretches_1 : decode cX11_turnedStretches 1 = .ok (.invokevirtual 107, 3) := by decide +kernel
theorem dX11_turnedStretches_4 : decode cX11_turnedStretches 4 = .ok (.iconst 0, 1) := by decide +kernel
theorem dX11_turnedStretches_5 : decode cX11_turnedStretches 5 = .ok (.istore_n 2, 1) := by decide +kernel
theorem dX11_turnedStretches_6 : decode cX11_turnedStretches 6 = .ok (.iconst 0, 1) := by decide +kernel
theorem dX11_turnedStretches_7 : decode cX11_turnedStretches 7 = .ok (.istore_n 3, 1) := by decide +kernel
theorem dX11_turnedStretches_8 : decode cX11_turnedStretches 8 = .ok (.iconst 0, 1) := by decide +kernel
theorem dX11_turnedStretches_9 : decode cX11_turnedStretches 9 = .ok (.istore 4, 2) := by decide +kernel
theorem dX11_turnedStretches_11 : decode cX11_turnedStretches 11 = .ok (.iconst 0, 1) := by decide +kernel
theorem dX11_turnedStretches_12 : decode cX11_turnedStretches 12 = .ok (.istore 5, 2) := by decide +kernel
theorem dX11_turnedStretches_14 : decode cX11_turnedStretches 14 = .ok (.iload 5, 2) := by decide +kernel
theorem dX11_turnedStretches_16 : decode cX11_turnedStretches 16 = .ok (.aload_n 0, 1) := by decide +kernel
theorem dX11_turnedStretches_17 : decode cX11_turnedStretches 17 = .ok (.getfield 100, 3) := by decide +kernel
theorem dX11_turnedStretches_20 : decode cX11_turnedStretches 20 = .ok (.if_icmp .ge 81, 3) := by decide +kernel
theorem dX11_turnedStretches_23 : decode cX11_turnedStretches 23 = .ok (.iload 5, 2) := by decide +kernel
theorem dX11_turnedStretches_25 : decode cX11_turnedStretches 25 = .ok (.ifCond .le 26, 3) := by decide +kernel
theorem dX11_turnedStretches_28 : decode cX11_turnedStretches 28 = .ok (.aload_n 0, 1) := by decide +kernel
theorem dX11_turnedStretches_29 : decode cX11_turnedStretches 29 = .ok (.getfield 34, 3) := by decide +kernel
theorem dX11_turnedStretches_32 : decode cX11_turnedStretches 32 = .ok (.iload 5, 2) := by decide +kernel
theorem dX11_turnedStretches_34 : decode cX11_turnedStretches 34 = .ok (.iaload, 1) := by decide +kernel
theorem dX11_turnedStretches_35 : decode cX11_turnedStretches 35 = .ok (.aload_n 0, 1) := by decide +kernel
theorem dX11_turnedStretches_36 : decode cX11_turnedStretches 36 = .ok (.getfield 34, 3) := by decide +kernel
theorem dX11_turnedStretches_39 : decode cX11_turnedStretches 39 = .ok (.iload 5, 2) := by decide +kernel
theorem dX11_turnedStretches_41 : decode cX11_turnedStretches 41 = .ok (.iconst 1, 1) := by decide +kernel
theorem dX11_turnedStretches_42 : decode cX11_turnedStretches 42 = .ok (.isub, 1) := by decide +kernel
theorem dX11_turnedStretches_43 : decode cX11_turnedStretches 43 = .ok (.iaload, 1) := by decide +kernel
theorem dX11_turnedStretches_44 : decode cX11_turnedStretches 44 = .ok (.if_icmp .ge 7, 3) := by decide +kernel
theorem dX11_turnedStretches_47 : decode cX11_turnedStretches 47 = .ok (.iconst 1, 1) := by decide +kernel
theorem dX11_turnedStretches_48 : decode cX11_turnedStretches 48 = .ok (.goto 4, 3) := by decide +kernel
theorem dX11_turnedStretches_51 : decode cX11_turnedStretches 51 = .ok (.iconst 0, 1) := by decide +kernel
theorem dX11_turnedStretches_52 : decode cX11_turnedStretches 52 = .ok (.istore 6, 2) := by decide +kernel
theorem dX11_turnedStretches_54 : decode cX11_turnedStretches 54 = .ok (.iload_n 2, 1) := by decide +kernel
theorem dX11_turnedStretches_55 : decode cX11_turnedStretches 55 = .ok (.iload 6, 2) := by decide +kernel
theorem dX11_turnedStretches_57 : decode cX11_turnedStretches 57 = .ok (.ifCond .eq 7, 3) := by decide +kernel
theorem dX11_turnedStretches_60 : decode cX11_turnedStretches 60 = .ok (.iconst 0, 1) := by decide +kernel
theorem dX11_turnedStretches_61 : decode cX11_turnedStretches 61 = .ok (.goto 4, 3) := by decide +kernel
theorem dX11_turnedStretches_64 : decode cX11_turnedStretches 64 = .ok (.iconst 1, 1) := by decide +kernel
theorem dX11_turnedStretches_65 : decode cX11_turnedStretches 65 = .ok (.iadd, 1) := by decide +kernel
theorem dX11_turnedStretches_66 : decode cX11_turnedStretches 66 = .ok (.istore_n 2, 1) := by decide +kernel
theorem dX11_turnedStretches_67 : decode cX11_turnedStretches 67 = .ok (.iload 6, 2) := by decide +kernel
theorem dX11_turnedStretches_69 : decode cX11_turnedStretches 69 = .ok (.ifCond .eq 10, 3) := by decide +kernel
theorem dX11_turnedStretches_72 : decode cX11_turnedStretches 72 = .ok (.iload 4, 2) := by decide +kernel
theorem dX11_turnedStretches_74 : decode cX11_turnedStretches 74 = .ok (.iconst 1, 1) := by decide +kernel
theorem dX11_turnedStretches_75 : decode cX11_turnedStretches 75 = .ok (.iadd, 1) := by decide +kernel
theorem dX11_turnedStretches_76 : decode cX11_turnedStretches 76 = .ok (.goto 4, 3) := by decide +kernel
theorem dX11_turnedStretches_79 : decode cX11_turnedStretches 79 = .ok (.iconst 1, 1) := by decide +kernel
theorem dX11_turnedStretches_80 : decode cX11_turnedStretches 80 = .ok (.istore 4, 2) := by decide +kernel
theorem dX11_turnedStretches_82 : decode cX11_turnedStretches 82 = .ok (.iload 4, 2) := by decide +kernel
theorem dX11_turnedStretches_84 : decode cX11_turnedStretches 84 = .ok (.iload_n 3, 1) := by decide +kernel
theorem dX11_turnedStretches_85 : decode cX11_turnedStretches 85 = .ok (.if_icmp .le 8, 3) := by decide +kernel
theorem dX11_turnedStretches_88 : decode cX11_turnedStretches 88 = .ok (.iload 4, 2) := by decide +kernel
theorem dX11_turnedStretches_90 : decode cX11_turnedStretches 90 = .ok (.goto 4, 3) := by decide +kernel
theorem dX11_turnedStretches_93 : decode cX11_turnedStretches 93 = .ok (.iload_n 3, 1) := by decide +kernel
theorem dX11_turnedStretches_94 : decode cX11_turnedStretches 94 = .ok (.istore_n 3, 1) := by decide +kernel
theorem dX11_turnedStretches_95 : decode cX11_turnedStretches 95 = .ok (.iinc 5 1, 3) := by decide +kernel
theorem dX11_turnedStretches_98 : decode cX11_turnedStretches 98 = .ok (.goto (-84), 3) := by decide +kernel
theorem dX11_turnedStretches_101 : decode cX11_turnedStretches 101 = .ok (.iload_n 1, 1) := by decide +kernel
theorem dX11_turnedStretches_102 : decode cX11_turnedStretches 102 = .ok (.ifCond .eq 7, 3) := by decide +kernel
theorem dX11_turnedStretches_105 : decode cX11_turnedStretches 105 = .ok (.iload_n 3, 1) := by decide +kernel
theorem dX11_turnedStretches_106 : decode cX11_turnedStretches 106 = .ok (.goto 4, 3) := by decide +kernel
theorem dX11_turnedStretches_109 : decode cX11_turnedStretches 109 = .ok (.iload_n 2, 1) := by decide +kernel
theorem dX11_turnedStretches_110 : decode cX11_turnedStretches 110 = .ok (.ireturn, 1) := by decide +kernel
theorem dX11_likeOnes_0 : decode cX11_likeOnes 0 = .ok (.aload_n 0, 1) := by decide +kernel
theorem dX11_likeOnes_1 : decode cX11_likeOnes 1 = .ok (.invokevirtual 143, 3) := by decide +kernel
theorem dX11_likeOnes_4 : decode cX11_likeOnes 4 = .ok (.iconst 0, 1) := by decide +kernel
theorem dX11_likeOnes_5 : decode cX11_likeOnes 5 = .ok (.istore_n 1, 1) := by decide +kernel
theorem dX11_likeOnes_6 : decode cX11_likeOnes 6 = .ok (.iconst 0, 1) := by decide +kernel
theorem dX11_likeOnes_7 : decode cX11_likeOnes 7 = .ok (.istore_n 2, 1) := by decide +kernel
theorem dX11_likeOnes_8 : decode cX11_likeOnes 8 = .ok (.iload_n 2, 1) := by decide +kernel
theorem dX11_likeOnes_9 : decode cX11_likeOnes 9 = .ok (.aload_n 0, 1) := by decide +kernel
theorem dX11_likeOnes_10 : decode cX11_likeOnes 10 = .ok (.iconst 0, 1) := by decide +kernel
theorem dX11_likeOnes_11 : decode cX11_likeOnes 11 = .ok (.invokevirtual 85, 3) := by decide +kernel
theorem dX11_likeOnes_14 : decode cX11_likeOnes 14 = .ok (.if_icmp .ge 47, 3) := by decide +kernel
theorem dX11_likeOnes_17 : decode cX11_likeOnes 17 = .ok (.iload_n 1, 1) := by decide +kernel
theorem dX11_likeOnes_18 : decode cX11_likeOnes 18 = .ok (.aload_n 0, 1) := by decide +kernel
theorem dX11_likeOnes_19 : decode cX11_likeOnes 19 = .ok (.getfield 58, 3) := by decide +kernel
theorem dX11_likeOnes_22 : decode cX11_likeOnes 22 = .ok (.iload_n 2, 1) := by decide +kernel
theorem dX11_likeOnes_23 : decode cX11_likeOnes 23 = .ok (.iaload, 1) := by decide +kernel
theorem dX11_likeOnes_24 : decode cX11_likeOnes 24 = .ok (.iconst (-1), 1) := by decide +kernel
theorem dX11_likeOnes_25 : decode cX11_likeOnes 25 = .ok (.if_icmp .eq 27, 3) := by decide +kernel
theorem dX11_likeOnes_28 : decode cX11_likeOnes 28 = .ok (.aload_n 0, 1) := by decide +kernel
theorem dX11_likeOnes_29 : decode cX11_likeOnes 29 = .ok (.iconst 0, 1) := by decide +kernel
theorem dX11_likeOnes_30 : decode cX11_likeOnes 30 = .ok (.iload_n 2, 1) := by decide +kernel
theorem dX11_likeOnes_31 : decode cX11_likeOnes 31 = .ok (.invokevirtual 89, 3) := by decide +kernel
theorem dX11_likeOnes_34 : decode cX11_likeOnes 34 = .ok (.aload_n 0, 1) := by decide +kernel
theorem dX11_likeOnes_35 : decode cX11_likeOnes 35 = .ok (.iconst 1, 1) := by decide +kernel
theorem dX11_likeOnes_36 : decode cX11_likeOnes 36 = .ok (.aload_n 0, 1) := by decide +kernel
theorem dX11_likeOnes_37 : decode cX11_likeOnes 37 = .ok (.getfield 58, 3) := by decide +kernel
theorem dX11_likeOnes_40 : decode cX11_likeOnes 40 = .ok (.iload_n 2, 1) := by decide +kernel
theorem dX11_likeOnes_41 : decode cX11_likeOnes 41 = .ok (.iaload, 1) := by decide +kernel
theorem dX11_likeOnes_42 : decode cX11_likeOnes 42 = .ok (.invokevirtual 89, 3) := by decide +kernel
theorem dX11_likeOnes_45 : decode cX11_likeOnes 45 = .ok (.if_icmp .ne 7, 3) := by decide +kernel
theorem dX11_likeOnes_48 : decode cX11_likeOnes 48 = .ok (.iconst 1, 1) := by decide +kernel
theorem dX11_likeOnes_49 : decode cX11_likeOnes 49 = .ok (.goto 4, 3) := by decide +kernel
theorem dX11_likeOnes_52 : decode cX11_likeOnes 52 = .ok (.iconst 0, 1) := by decide +kernel
theorem dX11_likeOnes_53 : decode cX11_likeOnes 53 = .ok (.iadd, 1) := by decide +kernel
theorem dX11_likeOnes_54 : decode cX11_likeOnes 54 = .ok (.istore_n 1, 1) := by decide +kernel
theorem dX11_likeOnes_55 : decode cX11_likeOnes 55 = .ok (.iinc 2 1, 3) := by decide +kernel
theorem dX11_likeOnes_58 : decode cX11_likeOnes 58 = .ok (.goto (-50), 3) := by decide +kernel
theorem dX11_likeOnes_61 : decode cX11_likeOnes 61 = .ok (.iload_n 1, 1) := by decide +kernel
theorem dX11_likeOnes_62 : decode cX11_likeOnes 62 = .ok (.ireturn, 1) := by decide +kernel
theorem dX11_leftOut_0 : decode cX11_leftOut 0 = .ok (.aload_n 0, 1) := by decide +kernel
theorem dX11_leftOut_1 : decode cX11_leftOut 1 = .ok (.invokevirtual 143, 3) := by decide +kernel
theorem dX11_leftOut_4 : decode cX11_leftOut 4 = .ok (.iconst 0, 1) := by decide +kernel
theorem dX11_leftOut_5 : decode cX11_leftOut 5 = .ok (.istore_n 2, 1) := by decide +kernel
theorem dX11_leftOut_6 : decode cX11_leftOut 6 = .ok (.iconst 0, 1) := by decide +kernel
theorem dX11_leftOut_7 : decode cX11_leftOut 7 = .ok (.istore_n 3, 1) := by decide +kernel
theorem dX11_leftOut_8 : decode cX11_leftOut 8 = .ok (.iload_n 3, 1) := by decide +kernel
theorem dX11_leftOut_9 : decode cX11_leftOut 9 = .ok (.aload_n 0, 1) := by decide +kernel
theorem dX11_leftOut_10 : decode cX11_leftOut 10 = .ok (.iload_n 1, 1) := by decide +kernel
theorem dX11_leftOut_11 : decode cX11_leftOut 11 = .ok (.invokevirtual 85, 3) := by decide +kernel
theorem dX11_leftOut_14 : decode cX11_leftOut 14 = .ok (.if_icmp .ge 32, 3) := by decide +kernel
theorem dX11_leftOut_17 : decode cX11_leftOut 17 = .ok (.iload_n 2, 1) := by decide +kernel
theorem dX11_leftOut_18 : decode cX11_leftOut 18 = .ok (.aload_n 0, 1) := by decide +kernel
theorem dX11_leftOut_19 : decode cX11_leftOut 19 = .ok (.getfield 58, 3) := by decide +kernel
theorem dX11_leftOut_22 : decode cX11_leftOut 22 = .ok (.bipush 24, 2) := by decide +kernel
theorem dX11_leftOut_24 : decode cX11_leftOut 24 = .ok (.iload_n 1, 1) := by decide +kernel
theorem dX11_leftOut_25 : decode cX11_leftOut 25 = .ok (.imul, 1) := by decide +kernel
theorem dX11_leftOut_26 : decode cX11_leftOut 26 = .ok (.iload_n 3, 1) := by decide +kernel
theorem dX11_leftOut_27 : decode cX11_leftOut 27 = .ok (.iadd, 1) := by decide +kernel
theorem dX11_leftOut_28 : decode cX11_leftOut 28 = .ok (.iaload, 1) := by decide +kernel
theorem dX11_leftOut_29 : decode cX11_leftOut 29 = .ok (.iconst (-1), 1) := by decide +kernel
theorem dX11_leftOut_30 : decode cX11_leftOut 30 = .ok (.if_icmp .ne 7, 3) := by decide +kernel
theorem dX11_leftOut_33 : decode cX11_leftOut 33 = .ok (.iconst 1, 1) := by decide +kernel
theorem dX11_leftOut_34 : decode cX11_leftOut 34 = .ok (.goto 4, 3) := by decide +kernel
theorem dX11_leftOut_37 : decode cX11_leftOut 37 = .ok (.iconst 0, 1) := by decide +kernel
theorem dX11_leftOut_38 : decode cX11_leftOut 38 = .ok (.iadd, 1) := by decide +kernel
theorem dX11_leftOut_39 : decode cX11_leftOut 39 = .ok (.istore_n 2, 1) := by decide +kernel
theorem dX11_leftOut_40 : decode cX11_leftOut 40 = .ok (.iinc 3 1, 3) := by decide +kernel
theorem dX11_leftOut_43 : decode cX11_leftOut 43 = .ok (.goto (-35), 3) := by decide +kernel
theorem dX11_leftOut_46 : decode cX11_leftOut 46 = .ok (.iload_n 2, 1) := by decide +kernel
theorem dX11_leftOut_47 : decode cX11_leftOut 47 = .ok (.ireturn, 1) := by decide +kernel
theorem dX11_laidCount_0 : decode cX11_laidCount 0 = .ok (.aload_n 0, 1) := by decide +kernel
theorem dX11_laidCount_1 : decode cX11_laidCount 1 = .ok (.invokevirtual 143, 3) := by decide +kernel
theorem dX11_laidCount_4 : decode cX11_laidCount 4 = .ok (.iload_n 1, 1) := by decide +kernel
theorem dX11_laidCount_5 : decode cX11_laidCount 5 = .ok (.iconst 2, 1) := by decide +kernel
theorem dX11_laidCount_6 : decode cX11_laidCount 6 = .ok (.if_icmp .ne 10, 3) := by decide +kernel
theorem dX11_laidCount_9 : decode cX11_laidCount 9 = .ok (.aload_n 0, 1) := by decide +kernel
theorem dX11_laidCount_10 : decode cX11_laidCount 10 = .ok (.getfield 97, 3) := by decide +kernel
theorem dX11_laidCount_13 : decode cX11_laidCount 13 = .ok (.goto 31, 3) := by decide +kernel
theorem dX11_laidCount_16 : decode cX11_laidCount 16 = .ok (.iload_n 1, 1) := by decide +kernel
theorem dX11_laidCount_17 : decode cX11_laidCount 17 = .ok (.iconst 3, 1) := by decide +kernel
theorem dX11_laidCount_18 : decode cX11_laidCount 18 = .ok (.if_icmp .ne 10, 3) := by decide +kernel
theorem dX11_laidCount_21 : decode cX11_laidCount 21 = .ok (.aload_n 0, 1) := by decide +kernel
theorem dX11_laidCount_22 : decode cX11_laidCount 22 = .ok (.getfield 100, 3) := by decide +kernel
theorem dX11_laidCount_25 : decode cX11_laidCount 25 = .ok (.goto 19, 3) := by decide +kernel
theorem dX11_laidCount_28 : decode cX11_laidCount 28 = .ok (.iload_n 1, 1) := by decide +kernel
theorem dX11_laidCount_29 : decode cX11_laidCount 29 = .ok (.iconst 4, 1) := by decide +kernel
theorem dX11_laidCount_30 : decode cX11_laidCount 30 = .ok (.if_icmp .ne 10, 3) := by decide +kernel
theorem dX11_laidCount_33 : decode cX11_laidCount 33 = .ok (.aload_n 0, 1) := by decide +kernel
theorem dX11_laidCount_34 : decode cX11_laidCount 34 = .ok (.getfield 114, 3) := by decide +kernel
theorem dX11_laidCount_37 : decode cX11_laidCount 37 = .ok (.goto 7, 3) := by decide +kernel
theorem dX11_laidCount_40 : decode cX11_laidCount 40 = .ok (.aload_n 0, 1) := by decide +kernel
theorem dX11_laidCount_41 : decode cX11_laidCount 41 = .ok (.getfield 122, 3) := by decide +kernel
theorem dX11_laidCount_44 : decode cX11_laidCount 44 = .ok (.ireturn, 1) := by decide +kernel
theorem dX11_counted_0 : decode cX11_counted 0 = .ok (.iload_n 1, 1) := by decide +kernel
theorem dX11_counted_1 : decode cX11_counted 1 = .ok (.tableswitch 140 0 14 #[75, 75, 140, 140, 140, 140, 81, 86, 91, 91, 107, 112, 112, 121, 135], 75) := by decide +kernel
theorem dX11_counted_76 : decode cX11_counted 76 = .ok (.aload_n 0, 1) := by decide +kernel
theorem dX11_counted_77 : decode cX11_counted 77 = .ok (.iload_n 1, 1) := by decide +kernel
theorem dX11_counted_78 : decode cX11_counted 78 = .ok (.invokevirtual 85, 3) := by decide +kernel
theorem dX11_counted_81 : decode cX11_counted 81 = .ok (.ireturn, 1) := by decide +kernel
theorem dX11_counted_82 : decode cX11_counted 82 = .ok (.aload_n 0, 1) := by decide +kernel
theorem dX11_counted_83 : decode cX11_counted 83 = .ok (.invokevirtual 206, 3) := by decide +kernel
theorem dX11_counted_86 : decode cX11_counted 86 = .ok (.ireturn, 1) := by decide +kernel
theorem dX11_counted_87 : decode cX11_counted 87 = .ok (.aload_n 0, 1) := by decide +kernel
theorem dX11_counted_88 : decode cX11_counted 88 = .ok (.invokevirtual 209, 3) := by decide +kernel
theorem dX11_counted_91 : decode cX11_counted 91 = .ok (.ireturn, 1) := by decide +kernel
theorem dX11_counted_92 : decode cX11_counted 92 = .ok (.aload_n 0, 1) := by decide +kernel
theorem dX11_counted_93 : decode cX11_counted 93 = .ok (.iload_n 1, 1) := by decide +kernel
theorem dX11_counted_94 : decode cX11_counted 94 = .ok (.bipush 9, 2) := by decide +kernel
theorem dX11_counted_96 : decode cX11_counted 96 = .ok (.if_icmp .ne 7, 3) := by decide +kernel
theorem dX11_counted_99 : decode cX11_counted 99 = .ok (.iconst 1, 1) := by decide +kernel
theorem dX11_counted_100 : decode cX11_counted 100 = .ok (.goto 4, 3) := by decide +kernel
theorem dX11_counted_103 : decode cX11_counted 103 = .ok (.iconst 0, 1) := by decide +kernel
theorem dX11_counted_104 : decode cX11_counted 104 = .ok (.invokevirtual 212, 3) := by decide +kernel
theorem dX11_counted_107 : decode cX11_counted 107 = .ok (.ireturn, 1) := by decide +kernel
theorem dX11_counted_108 : decode cX11_counted 108 = .ok (.aload_n 0, 1) := by decide +kernel
theorem dX11_counted_109 : decode cX11_counted 109 = .ok (.invokevirtual 216, 3) := by decide +kernel
theorem dX11_counted_112 : decode cX11_counted 112 = .ok (.ireturn, 1) := by decide +kernel
theorem dX11_counted_113 : decode cX11_counted 113 = .ok (.aload_n 0, 1) := by decide +kernel
theorem dX11_counted_114 : decode cX11_counted 114 = .ok (.iload_n 1, 1) := by decide +kernel
theorem dX11_counted_115 : decode cX11_counted 115 = .ok (.bipush 11, 2) := by decide +kernel
theorem dX11_counted_117 : decode cX11_counted 117 = .ok (.isub, 1) := by decide +kernel
theorem dX11_counted_118 : decode cX11_counted 118 = .ok (.invokevirtual 219, 3) := by decide +kernel
theorem dX11_counted_121 : decode cX11_counted 121 = .ok (.ireturn, 1) := by decide +kernel
theorem dX11_counted_122 : decode cX11_counted 122 = .ok (.aload_n 0, 1) := by decide +kernel
theorem dX11_counted_123 : decode cX11_counted 123 = .ok (.getfield 19, 3) := by decide +kernel
theorem dX11_counted_126 : decode cX11_counted 126 = .ok (.iconst 0, 1) := by decide +kernel
theorem dX11_counted_127 : decode cX11_counted 127 = .ok (.iaload, 1) := by decide +kernel
theorem dX11_counted_128 : decode cX11_counted 128 = .ok (.aload_n 0, 1) := by decide +kernel
theorem dX11_counted_129 : decode cX11_counted 129 = .ok (.getfield 19, 3) := by decide +kernel
theorem dX11_counted_132 : decode cX11_counted 132 = .ok (.iconst 1, 1) := by decide +kernel
theorem dX11_counted_133 : decode cX11_counted 133 = .ok (.iaload, 1) := by decide +kernel
theorem dX11_counted_134 : decode cX11_counted 134 = .ok (.iadd, 1) := by decide +kernel
theorem dX11_counted_135 : decode cX11_counted 135 = .ok (.ireturn, 1) := by decide +kernel
theorem dX11_counted_136 : decode cX11_counted 136 = .ok (.aload_n 0, 1) := by decide +kernel
theorem dX11_counted_137 : decode cX11_counted 137 = .ok (.getfield 74, 3) := by decide +kernel
theorem dX11_counted_140 : decode cX11_counted 140 = .ok (.ireturn, 1) := by decide +kernel
theorem dX11_counted_141 : decode cX11_counted 141 = .ok (.aload_n 0, 1) := by decide +kernel
theorem dX11_counted_142 : decode cX11_counted 142 = .ok (.iload_n 1, 1) := by decide +kernel
theorem dX11_counted_143 : decode cX11_counted 143 = .ok (.invokevirtual 222, 3) := by decide +kernel
theorem dX11_counted_146 : decode cX11_counted 146 = .ok (.ireturn, 1) := by decide +kernel
theorem dX11_count_0 : decode cX11_count 0 = .ok (.aload_n 0, 1) := by decide +kernel
theorem dX11_count_1 : decode cX11_count 1 = .ok (.iload_n 1, 1) := by decide +kernel
theorem dX11_count_2 : decode cX11_count 2 = .ok (.iconst 0, 1) := by decide +kernel
theorem dX11_count_3 : decode cX11_count 3 = .ok (.bipush 14, 2) := by decide +kernel
theorem dX11_count_5 : decode cX11_count 5 = .ok (.invokestatic 77, 3) := by decide +kernel
theorem dX11_count_8 : decode cX11_count 8 = .ok (.ifCond .eq 7, 3) := by decide +kernel
theorem dX11_count_11 : decode cX11_count 11 = .ok (.iconst 0, 1) := by decide +kernel
theorem dX11_count_12 : decode cX11_count 12 = .ok (.goto 4, 3) := by decide +kernel
theorem dX11_count_15 : decode cX11_count 15 = .ok (.iconst 1, 1) := by decide +kernel
theorem dX11_count_16 : decode cX11_count 16 = .ok (.putfield 70, 3) := by decide +kernel
theorem dX11_count_19 : decode cX11_count 19 = .ok (.aload_n 0, 1) := by decide +kernel
theorem dX11_count_20 : decode cX11_count 20 = .ok (.getfield 70, 3) := by decide +kernel
theorem dX11_count_23 : decode cX11_count 23 = .ok (.ifCond .le 7, 3) := by decide +kernel
theorem dX11_count_26 : decode cX11_count 26 = .ok (.iconst 0, 1) := by decide +kernel
theorem dX11_count_27 : decode cX11_count 27 = .ok (.goto 8, 3) := by decide +kernel
theorem dX11_count_30 : decode cX11_count 30 = .ok (.aload_n 0, 1) := by decide +kernel
theorem dX11_count_31 : decode cX11_count 31 = .ok (.iload_n 1, 1) := by decide +kernel
theorem dX11_count_32 : decode cX11_count 32 = .ok (.invokevirtual 225, 3) := by decide +kernel
theorem dX11_count_35 : decode cX11_count 35 = .ok (.ireturn, 1) := by decide +kernel
theorem dX11_setting_0 : decode cX11_setting 0 = .ok (.aload_n 0, 1) := by decide +kernel
theorem dX11_setting_1 : decode cX11_setting 1 = .ok (.iload_n 1, 1) := by decide +kernel
theorem dX11_setting_2 : decode cX11_setting 2 = .ok (.invokestatic 159, 3) := by decide +kernel
theorem dX11_setting_5 : decode cX11_setting 5 = .ok (.ifCond .eq 7, 3) := by decide +kernel
theorem dX11_setting_8 : decode cX11_setting 8 = .ok (.iconst 0, 1) := by decide +kernel
theorem dX11_setting_9 : decode cX11_setting 9 = .ok (.goto 4, 3) := by decide +kernel
theorem dX11_setting_12 : decode cX11_setting 12 = .ok (.iconst 1, 1) := by decide +kernel
theorem dX11_setting_13 : decode cX11_setting 13 = .ok (.putfield 70, 3) := by decide +kernel
theorem dX11_setting_16 : decode cX11_setting 16 = .ok (.aload_n 0, 1) := by decide +kernel
theorem dX11_setting_17 : decode cX11_setting 17 = .ok (.getfield 70, 3) := by decide +kernel
theorem dX11_setting_20 : decode cX11_setting 20 = .ok (.ifCond .le 7, 3) := by decide +kernel
theorem dX11_setting_23 : decode cX11_setting 23 = .ok (.iconst 0, 1) := by decide +kernel
theorem dX11_setting_24 : decode cX11_setting 24 = .ok (.goto 9, 3) := by decide +kernel
theorem dX11_setting_27 : decode cX11_setting 27 = .ok (.aload_n 0, 1) := by decide +kernel
theorem dX11_setting_28 : decode cX11_setting 28 = .ok (.getfield 7, 3) := by decide +kernel
theorem dX11_setting_31 : decode cX11_setting 31 = .ok (.iload_n 1, 1) := by decide +kernel
theorem dX11_setting_32 : decode cX11_setting 32 = .ok (.iaload, 1) := by decide +kernel
theorem dX11_setting_33 : decode cX11_setting 33 = .ok (.ireturn, 1) := by decide +kernel
theorem dX11_setThen_0 : decode cX11_setThen 0 = .ok (.aload_n 0, 1) := by decide +kernel
theorem dX11_setThen_1 : decode cX11_setThen 1 = .ok (.getfield 7, 3) := by decide +kernel
theorem dX11_setThen_4 : decode cX11_setThen 4 = .ok (.iload_n 1, 1) := by decide +kernel
theorem dX11_setThen_5 : decode cX11_setThen 5 = .ok (.iaload, 1) := by decide +kernel
theorem dX11_setThen_6 : decode cX11_setThen 6 = .ok (.istore_n 3, 1) := by decide +kernel
theorem dX11_setThen_7 : decode cX11_setThen 7 = .ok (.aload_n 0, 1) := by decide +kernel
theorem dX11_setThen_8 : decode cX11_setThen 8 = .ok (.getfield 7, 3) := by decide +kernel
theorem dX11_setThen_11 : decode cX11_setThen 11 = .ok (.iload_n 1, 1) := by decide +kernel
theorem dX11_setThen_12 : decode cX11_setThen 12 = .ok (.iload_n 2, 1) := by decide +kernel
theorem dX11_setThen_13 : decode cX11_setThen 13 = .ok (.iastore, 1) := by decide +kernel
theorem dX11_setThen_14 : decode cX11_setThen 14 = .ok (.aload_n 0, 1) := by decide +kernel
theorem dX11_setThen_15 : decode cX11_setThen 15 = .ok (.invokevirtual 206, 3) := by decide +kernel
theorem dX11_setThen_18 : decode cX11_setThen 18 = .ok (.istore 4, 2) := by decide +kernel
theorem dX11_setThen_20 : decode cX11_setThen 20 = .ok (.aload_n 0, 1) := by decide +kernel
theorem dX11_setThen_21 : decode cX11_setThen 21 = .ok (.getfield 7, 3) := by decide +kernel
theorem dX11_setThen_24 : decode cX11_setThen 24 = .ok (.iload_n 1, 1) := by decide +kernel
theorem dX11_setThen_25 : decode cX11_setThen 25 = .ok (.iload_n 3, 1) := by decide +kernel
theorem dX11_setThen_26 : decode cX11_setThen 26 = .ok (.iastore, 1) := by decide +kernel
theorem dX11_setThen_27 : decode cX11_setThen 27 = .ok (.iload 4, 2) := by decide +kernel
theorem dX11_setThen_29 : decode cX11_setThen 29 = .ok (.ireturn, 1) := by decide +kernel
theorem dX11_ifSet_0 : decode cX11_ifSet 0 = .ok (.aload_n 0, 1) := by decide +kernel
theorem dX11_ifSet_1 : decode cX11_ifSet 1 = .ok (.iload_n 1, 1) := by decide +kernel
theorem dX11_ifSet_2 : decode cX11_ifSet 2 = .ok (.invokestatic 159, 3) := by decide +kernel
theorem dX11_ifSet_5 : decode cX11_ifSet 5 = .ok (.ifCond .ne 7, 3) := by decide +kernel
theorem dX11_ifSet_8 : decode cX11_ifSet 8 = .ok (.iconst 1, 1) := by decide +kernel
theorem dX11_ifSet_9 : decode cX11_ifSet 9 = .ok (.goto 16, 3) := by decide +kernel
theorem dX11_ifSet_12 : decode cX11_ifSet 12 = .ok (.iload_n 1, 1) := by decide +kernel
theorem dX11_ifSet_13 : decode cX11_ifSet 13 = .ok (.iload_n 2, 1) := by decide +kernel
theorem dX11_ifSet_14 : decode cX11_ifSet 14 = .ok (.invokestatic 162, 3) := by decide +kernel
theorem dX11_ifSet_17 : decode cX11_ifSet 17 = .ok (.ifCond .eq 7, 3) := by decide +kernel
theorem dX11_ifSet_20 : decode cX11_ifSet 20 = .ok (.iconst 0, 1) := by decide +kernel
theorem dX11_ifSet_21 : decode cX11_ifSet 21 = .ok (.goto 4, 3) := by decide +kernel
theorem dX11_ifSet_24 : decode cX11_ifSet 24 = .ok (.iconst 2, 1) := by decide +kernel
theorem dX11_ifSet_25 : decode cX11_ifSet 25 = .ok (.putfield 70, 3) := by decide +kernel
theorem dX11_ifSet_28 : decode cX11_ifSet 28 = .ok (.aload_n 0, 1) := by decide +kernel
theorem dX11_ifSet_29 : decode cX11_ifSet 29 = .ok (.getfield 70, 3) := by decide +kernel
theorem dX11_ifSet_32 : decode cX11_ifSet 32 = .ok (.ifCond .le 7, 3) := by decide +kernel
theorem dX11_ifSet_35 : decode cX11_ifSet 35 = .ok (.iconst 0, 1) := by decide +kernel
theorem dX11_ifSet_36 : decode cX11_ifSet 36 = .ok (.goto 9, 3) := by decide +kernel
theorem dX11_ifSet_39 : decode cX11_ifSet 39 = .ok (.aload_n 0, 1) := by decide +kernel
theorem dX11_ifSet_40 : decode cX11_ifSet 40 = .ok (.iload_n 1, 1) := by decide +kernel
theorem dX11_ifSet_41 : decode cX11_ifSet 41 = .ok (.iload_n 2, 1) := by decide +kernel
theorem dX11_ifSet_42 : decode cX11_ifSet 42 = .ok (.invokevirtual 228, 3) := by decide +kernel
theorem dX11_ifSet_45 : decode cX11_ifSet 45 = .ok (.ireturn, 1) := by decide +kernel
theorem dX11_changedThen_0 : decode cX11_changedThen 0 = .ok (.aload_n 0, 1) := by decide +kernel
theorem dX11_changedThen_1 : decode cX11_changedThen 1 = .ok (.iload_n 1, 1) := by decide +kernel
theorem dX11_changedThen_2 : decode cX11_changedThen 2 = .ok (.iload_n 2, 1) := by decide +kernel
theorem dX11_changedThen_3 : decode cX11_changedThen 3 = .ok (.invokevirtual 89, 3) := by decide +kernel
theorem dX11_changedThen_6 : decode cX11_changedThen 6 = .ok (.istore 4, 2) := by decide +kernel
theorem dX11_changedThen_8 : decode cX11_changedThen 8 = .ok (.aload_n 0, 1) := by decide +kernel
theorem dX11_changedThen_9 : decode cX11_changedThen 9 = .ok (.iload_n 1, 1) := by decide +kernel
theorem dX11_changedThen_10 : decode cX11_changedThen 10 = .ok (.iload_n 2, 1) := by decide +kernel
theorem dX11_changedThen_11 : decode cX11_changedThen 11 = .ok (.iload_n 3, 1) := by decide +kernel
theorem dX11_changedThen_12 : decode cX11_changedThen 12 = .ok (.invokevirtual 152, 3) := by decide +kernel
theorem dX11_changedThen_15 : decode cX11_changedThen 15 = .ok (.aload_n 0, 1) := by decide +kernel
theorem dX11_changedThen_16 : decode cX11_changedThen 16 = .ok (.invokevirtual 206, 3) := by decide +kernel
theorem dX11_changedThen_19 : decode cX11_changedThen 19 = .ok (.istore 5, 2) := by decide +kernel
theorem dX11_changedThen_21 : decode cX11_changedThen 21 = .ok (.aload_n 0, 1) := by decide +kernel
theorem dX11_changedThen_22 : decode cX11_changedThen 22 = .ok (.iload_n 1, 1) := by decide +kernel
theorem dX11_changedThen_23 : decode cX11_changedThen 23 = .ok (.iload_n 2, 1) := by decide +kernel
theorem dX11_changedThen_24 : decode cX11_changedThen 24 = .ok (.iload 4, 2) := by decide +kernel
theorem dX11_changedThen_26 : decode cX11_changedThen 26 = .ok (.invokevirtual 152, 3) := by decide +kernel
theorem dX11_changedThen_29 : decode cX11_changedThen 29 = .ok (.iload 5, 2) := by decide +kernel
theorem dX11_changedThen_31 : decode cX11_changedThen 31 = .ok (.ireturn, 1) := by decide +kernel
theorem dX11_ifChanged_0 : decode cX11_ifChanged 0 = .ok (.aload_n 0, 1) := by decide +kernel
theorem dX11_ifChanged_1 : decode cX11_ifChanged 1 = .ok (.aload_n 0, 1) := by decide +kernel
theorem dX11_ifChanged_2 : decode cX11_ifChanged 2 = .ok (.iload_n 1, 1) := by decide +kernel
theorem dX11_ifChanged_3 : decode cX11_ifChanged 3 = .ok (.iload_n 2, 1) := by decide +kernel
theorem dX11_ifChanged_4 : decode cX11_ifChanged 4 = .ok (.invokevirtual 156, 3) := by decide +kernel
theorem dX11_ifChanged_7 : decode cX11_ifChanged 7 = .ok (.ifCond .ne 7, 3) := by decide +kernel
theorem dX11_ifChanged_10 : decode cX11_ifChanged 10 = .ok (.iconst 1, 1) := by decide +kernel
theorem dX11_ifChanged_11 : decode cX11_ifChanged 11 = .ok (.goto 15, 3) := by decide +kernel
theorem dX11_ifChanged_14 : decode cX11_ifChanged 14 = .ok (.iload_n 3, 1) := by decide +kernel
theorem dX11_ifChanged_15 : decode cX11_ifChanged 15 = .ok (.invokestatic 146, 3) := by decide +kernel
theorem dX11_ifChanged_18 : decode cX11_ifChanged 18 = .ok (.ifCond .eq 7, 3) := by decide +kernel
theorem dX11_ifChanged_21 : decode cX11_ifChanged 21 = .ok (.iconst 0, 1) := by decide +kernel
theorem dX11_ifChanged_22 : decode cX11_ifChanged 22 = .ok (.goto 4, 3) := by decide +kernel
theorem dX11_ifChanged_25 : decode cX11_ifChanged 25 = .ok (.iconst 2, 1) := by decide +kernel
theorem dX11_ifChanged_26 : decode cX11_ifChanged 26 = .ok (.putfield 70, 3) := by decide +kernel
theorem dX11_ifChanged_29 : decode cX11_ifChanged 29 = .ok (.aload_n 0, 1) := by decide +kernel
theorem dX11_ifChanged_30 : decode cX11_ifChanged 30 = .ok (.getfield 70, 3) := by decide +kernel
theorem dX11_ifChanged_33 : decode cX11_ifChanged 33 = .ok (.ifCond .le 7, 3) := by decide +kernel
theorem dX11_ifChanged_36 : decode cX11_ifChanged 36 = .ok (.iconst 0, 1) := by decide +kernel
theorem dX11_ifChanged_37 : decode cX11_ifChanged 37 = .ok (.goto 10, 3) := by decide +kernel
theorem dX11_ifChanged_40 : decode cX11_ifChanged 40 = .ok (.aload_n 0, 1) := by decide +kernel
theorem dX11_ifChanged_41 : decode cX11_ifChanged 41 = .ok (.iload_n 1, 1) := by decide +kernel
theorem dX11_ifChanged_42 : decode cX11_ifChanged 42 = .ok (.iload_n 2, 1) := by decide +kernel
theorem dX11_ifChanged_43 : decode cX11_ifChanged 43 = .ok (.iload_n 3, 1) := by decide +kernel
theorem dX11_ifChanged_44 : decode cX11_ifChanged 44 = .ok (.invokevirtual 231, 3) := by decide +kernel
theorem dX11_ifChanged_47 : decode cX11_ifChanged 47 = .ok (.ireturn, 1) := by decide +kernel
theorem dX11_bestNow_0 : decode cX11_bestNow 0 = .ok (.iconst 5, 1) := by decide +kernel
theorem dX11_bestNow_1 : decode cX11_bestNow 1 = .ok (.istore_n 1, 1) := by decide +kernel
theorem dX11_bestNow_2 : decode cX11_bestNow 2 = .ok (.aload_n 0, 1) := by decide +kernel
theorem dX11_bestNow_3 : decode cX11_bestNow 3 = .ok (.iconst 0, 1) := by decide +kernel
theorem dX11_bestNow_4 : decode cX11_bestNow 4 = .ok (.iconst 5, 1) := by decide +kernel
theorem dX11_bestNow_5 : decode cX11_bestNow 5 = .ok (.invokevirtual 228, 3) := by decide +kernel
theorem dX11_bestNow_8 : decode cX11_bestNow 8 = .ok (.istore_n 2, 1) := by decide +kernel
theorem dX11_bestNow_9 : decode cX11_bestNow 9 = .ok (.iconst 4, 1) := by decide +kernel
theorem dX11_bestNow_10 : decode cX11_bestNow 10 = .ok (.istore_n 3, 1) := by decide +kernel
theorem dX11_bestNow_11 : decode cX11_bestNow 11 = .ok (.iload_n 3, 1) := by decide +kernel
theorem dX11_bestNow_12 : decode cX11_bestNow 12 = .ok (.iconst 1, 1) := by decide +kernel
theorem dX11_bestNow_13 : decode cX11_bestNow 13 = .ok (.if_icmp .le 42, 3) := by decide +kernel
theorem dX11_bestNow_16 : decode cX11_bestNow 16 = .ok (.aload_n 0, 1) := by decide +kernel
theorem dX11_bestNow_17 : decode cX11_bestNow 17 = .ok (.iconst 0, 1) := by decide +kernel
theorem dX11_bestNow_18 : decode cX11_bestNow 18 = .ok (.iload_n 3, 1) := by decide +kernel
theorem dX11_bestNow_19 : decode cX11_bestNow 19 = .ok (.invokevirtual 228, 3) := by decide +kernel
theorem dX11_bestNow_22 : decode cX11_bestNow 22 = .ok (.istore 4, 2) := by decide +kernel
theorem dX11_bestNow_24 : decode cX11_bestNow 24 = .ok (.iload 4, 2) := by decide +kernel
theorem dX11_bestNow_26 : decode cX11_bestNow 26 = .ok (.iload_n 2, 1) := by decide +kernel
theorem dX11_bestNow_27 : decode cX11_bestNow 27 = .ok (.if_icmp .ge 7, 3) := by decide +kernel
theorem dX11_bestNow_30 : decode cX11_bestNow 30 = .ok (.iload_n 3, 1) := by decide +kernel
theorem dX11_bestNow_31 : decode cX11_bestNow 31 = .ok (.goto 4, 3) := by decide +kernel
theorem dX11_bestNow_34 : decode cX11_bestNow 34 = .ok (.iload_n 1, 1) := by decide +kernel
theorem dX11_bestNow_35 : decode cX11_bestNow 35 = .ok (.istore_n 1, 1) := by decide +kernel
theorem dX11_bestNow_36 : decode cX11_bestNow 36 = .ok (.iload 4, 2) := by decide +kernel
theorem dX11_bestNow_38 : decode cX11_bestNow 38 = .ok (.iload_n 2, 1) := by decide +kernel
theorem dX11_bestNow_39 : decode cX11_bestNow 39 = .ok (.if_icmp .ge 8, 3) := by decide +kernel
theorem dX11_bestNow_42 : decode cX11_bestNow 42 = .ok (.iload 4, 2) := by decide +kernel
theorem dX11_bestNow_44 : decode cX11_bestNow 44 = .ok (.goto 4, 3) := by decide +kernel
theorem dX11_bestNow_47 : decode cX11_bestNow 47 = .ok (.iload_n 2, 1) := by decide +kernel
theorem dX11_bestNow_48 : decode cX11_bestNow 48 = .ok (.istore_n 2, 1) := by decide +kernel
theorem dX11_bestNow_49 : decode cX11_bestNow 49 = .ok (.iinc 3 (-1), 3) := by decide +kernel
theorem dX11_bestNow_52 : decode cX11_bestNow 52 = .ok (.goto (-41), 3) := by decide +kernel
theorem dX11_bestNow_55 : decode cX11_bestNow 55 = .ok (.iload_n 1, 1) := by decide +kernel
theorem dX11_bestNow_56 : decode cX11_bestNow 56 = .ok (.ireturn, 1) := by decide +kernel
theorem dX11_bestLength_0 : decode cX11_bestLength 0 = .ok (.aload_n 0, 1) := by decide +kernel
theorem dX11_bestLength_1 : decode cX11_bestLength 1 = .ok (.iconst 0, 1) := by decide +kernel
theorem dX11_bestLength_2 : decode cX11_bestLength 2 = .ok (.putfield 70, 3) := by decide +kernel
theorem dX11_bestLength_5 : decode cX11_bestLength 5 = .ok (.aload_n 0, 1) := by decide +kernel
theorem dX11_bestLength_6 : decode cX11_bestLength 6 = .ok (.invokevirtual 234, 3) := by decide +kernel
theorem dX11_bestLength_9 : decode cX11_bestLength 9 = .ok (.ireturn, 1) := by decide +kernel
theorem dX11_share_0 : decode cX11_share 0 = .ok (.aload_n 0, 1) := by decide +kernel
theorem dX11_share_1 : decode cX11_share 1 = .ok (.iconst 0, 1) := by decide +kernel
theorem dX11_share_2 : decode cX11_share 2 = .ok (.invokevirtual 85, 3) := by decide +kernel
theorem dX11_share_5 : decode cX11_share 5 = .ok (.aload_n 0, 1) := by decide +kernel
theorem dX11_share_6 : decode cX11_share 6 = .ok (.iconst 1, 1) := by decide +kernel
theorem dX11_share_7 : decode cX11_share 7 = .ok (.invokevirtual 85, 3) := by decide +kernel
theorem dX11_share_10 : decode cX11_share 10 = .ok (.iadd, 1) := by decide +kernel
theorem dX11_share_11 : decode cX11_share 11 = .ok (.istore_n 1, 1) := by decide +kernel
theorem dX11_share_12 : decode cX11_share 12 = .ok (.iload_n 1, 1) := by decide +kernel
theorem dX11_share_13 : decode cX11_share 13 = .ok (.ifCond .ne 7, 3) := by decide +kernel
theorem dX11_share_16 : decode cX11_share 16 = .ok (.dconst 1, 1) := by decide +kernel
theorem dX11_share_17 : decode cX11_share 17 = .ok (.goto 15, 3) := by decide +kernel
theorem dX11_share_20 : decode cX11_share 20 = .ok (.aload_n 0, 1) := by decide +kernel
theorem dX11_share_21 : decode cX11_share 21 = .ok (.invokevirtual 216, 3) := by decide +kernel
theorem dX11_share_24 : decode cX11_share 24 = .ok (.i2d, 1) := by decide +kernel
theorem dX11_share_25 : decode cX11_share 25 = .ok (.ldc2_w 237, 3) := by decide +kernel
theorem dX11_share_28 : decode cX11_share 28 = .ok (.dmul, 1) := by decide +kernel
theorem dX11_share_29 : decode cX11_share 29 = .ok (.iload_n 1, 1) := by decide +kernel
theorem dX11_share_30 : decode cX11_share 30 = .ok (.i2d, 1) := by decide +kernel
theorem dX11_share_31 : decode cX11_share 31 = .ok (.ddiv, 1) := by decide +kernel
theorem dX11_share_32 : decode cX11_share 32 = .ok (.dreturn, 1) := by decide +kernel
theorem dX11_likeShare_0 : decode cX11_likeShare 0 = .ok (.aload_n 0, 1) := by decide +kernel
theorem dX11_likeShare_1 : decode cX11_likeShare 1 = .ok (.iconst 0, 1) := by decide +kernel
theorem dX11_likeShare_2 : decode cX11_likeShare 2 = .ok (.putfield 70, 3) := by decide +kernel
theorem dX11_likeShare_5 : decode cX11_likeShare 5 = .ok (.aload_n 0, 1) := by decide +kernel
theorem dX11_likeShare_6 : decode cX11_likeShare 6 = .ok (.invokevirtual 239, 3) := by decide +kernel
theorem dX11_likeShare_9 : decode cX11_likeShare 9 = .ok (.dreturn, 1) := by decide +kernel
theorem dX11_mix_0 : decode cX11_mix 0 = .ok (.aload_n 0, 1) := by decide +kernel
theorem dX11_mix_1 : decode cX11_mix 1 = .ok (.ldc2_w 243, 3) := by decide +kernel
theorem dX11_mix_4 : decode cX11_mix 4 = .ok (.aload_n 0, 1) := by decide +kernel
theorem dX11_mix_5 : decode cX11_mix 5 = .ok (.getfield 245, 3) := by decide +kernel
theorem dX11_mix_8 : decode cX11_mix 8 = .ok (.lmul, 1) := by decide +kernel
theorem dX11_mix_9 : decode cX11_mix 9 = .ok (.lload_n 1, 1) := by decide +kernel
theorem dX11_mix_10 : decode cX11_mix 10 = .ok (.ladd, 1) := by decide +kernel
theorem dX11_mix_11 : decode cX11_mix 11 = .ok (.putfield 245, 3) := by decide +kernel
theorem dX11_mix_14 : decode cX11_mix 14 = .ok (.return_, 1) := by decide +kernel
theorem dX11_mixRow_0 : decode cX11_mixRow 0 = .ok (.iconst 0, 1) := by decide +kernel
theorem dX11_mixRow_1 : decode cX11_mixRow 1 = .ok (.istore_n 2, 1) := by decide +kernel
theorem dX11_mixRow_2 : decode cX11_mixRow 2 = .ok (.iload_n 2, 1) := by decide +kernel
theorem dX11_mixRow_3 : decode cX11_mixRow 3 = .ok (.aload_n 0, 1) := by decide +kernel
theorem dX11_mixRow_4 : decode cX11_mixRow 4 = .ok (.iload_n 1, 1) := by decide +kernel
theorem dX11_mixRow_5 : decode cX11_mixRow 5 = .ok (.invokevirtual 85, 3) := by decide +kernel
theorem dX11_mixRow_8 : decode cX11_mixRow 8 = .ok (.if_icmp .ge 20, 3) := by decide +kernel
theorem dX11_mixRow_11 : decode cX11_mixRow 11 = .ok (.aload_n 0, 1) := by decide +kernel
theorem dX11_mixRow_12 : decode cX11_mixRow 12 = .ok (.aload_n 0, 1) := by decide +kernel
theorem dX11_mixRow_13 : decode cX11_mixRow 13 = .ok (.iload_n 1, 1) := by decide +kernel
theorem dX11_mixRow_14 : decode cX11_mixRow 14 = .ok (.iload_n 2, 1) := by decide +kernel
theorem dX11_mixRow_15 : decode cX11_mixRow 15 = .ok (.invokevirtual 89, 3) := by decide +kernel
theorem dX11_mixRow_18 : decode cX11_mixRow 18 = .ok (.i2l, 1) := by decide +kernel
theorem dX11_mixRow_19 : decode cX11_mixRow 19 = .ok (.invokevirtual 249, 3) := by decide +kernel
theorem dX11_mixRow_22 : decode cX11_mixRow 22 = .ok (.iinc 2 1, 3) := by decide +kernel
theorem dX11_mixRow_25 : decode cX11_mixRow 25 = .ok (.goto (-23), 3) := by decide +kernel
theorem dX11_mixRow_28 : decode cX11_mixRow 28 = .ok (.iconst 0, 1) := by decide +kernel
theorem dX11_mixRow_29 : decode cX11_mixRow 29 = .ok (.istore_n 2, 1) := by decide +kernel
theorem dX11_mixRow_30 : decode cX11_mixRow 30 = .ok (.iload_n 2, 1) := by decide +kernel
theorem dX11_mixRow_31 : decode cX11_mixRow 31 = .ok (.aload_n 0, 1) := by decide +kernel
theorem dX11_mixRow_32 : decode cX11_mixRow 32 = .ok (.iload_n 1, 1) := by decide +kernel
theorem dX11_mixRow_33 : decode cX11_mixRow 33 = .ok (.invokevirtual 85, 3) := by decide +kernel
theorem dX11_mixRow_36 : decode cX11_mixRow 36 = .ok (.if_icmp .ge 20, 3) := by decide +kernel
theorem dX11_mixRow_39 : decode cX11_mixRow 39 = .ok (.aload_n 0, 1) := by decide +kernel
theorem dX11_mixRow_40 : decode cX11_mixRow 40 = .ok (.aload_n 0, 1) := by decide +kernel
theorem dX11_mixRow_41 : decode cX11_mixRow 41 = .ok (.iload_n 1, 1) := by decide +kernel
theorem dX11_mixRow_42 : decode cX11_mixRow 42 = .ok (.iload_n 2, 1) := by decide +kernel
theorem dX11_mixRow_43 : decode cX11_mixRow 43 = .ok (.invokevirtual 197, 3) := by decide +kernel
theorem dX11_mixRow_46 : decode cX11_mixRow 46 = .ok (.i2l, 1) := by decide +kernel
theorem dX11_mixRow_47 : decode cX11_mixRow 47 = .ok (.invokevirtual 249, 3) := by decide +kernel
theorem dX11_mixRow_50 : decode cX11_mixRow 50 = .ok (.iinc 2 1, 3) := by decide +kernel
theorem dX11_mixRow_53 : decode cX11_mixRow 53 = .ok (.goto (-23), 3) := by decide +kernel
theorem dX11_mixRow_56 : decode cX11_mixRow 56 = .ok (.iconst 0, 1) := by decide +kernel
theorem dX11_mixRow_57 : decode cX11_mixRow 57 = .ok (.istore_n 2, 1) := by decide +kernel
theorem dX11_mixRow_58 : decode cX11_mixRow 58 = .ok (.iload_n 2, 1) := by decide +kernel
theorem dX11_mixRow_59 : decode cX11_mixRow 59 = .ok (.iconst 3, 1) := by decide +kernel
theorem dX11_mixRow_60 : decode cX11_mixRow 60 = .ok (.if_icmp .ge 20, 3) := by decide +kernel
theorem dX11_mixRow_63 : decode cX11_mixRow 63 = .ok (.aload_n 0, 1) := by decide +kernel
theorem dX11_mixRow_64 : decode cX11_mixRow 64 = .ok (.aload_n 0, 1) := by decide +kernel
theorem dX11_mixRow_65 : decode cX11_mixRow 65 = .ok (.iload_n 1, 1) := by decide +kernel
theorem dX11_mixRow_66 : decode cX11_mixRow 66 = .ok (.iload_n 2, 1) := by decide +kernel
theorem dX11_mixRow_67 : decode cX11_mixRow 67 = .ok (.invokevirtual 203, 3) := by decide +kernel
theorem dX11_mixRow_70 : decode cX11_mixRow 70 = .ok (.i2l, 1) := by decide +kernel
theorem dX11_mixRow_71 : decode cX11_mixRow 71 = .ok (.invokevirtual 249, 3) := by decide +kernel
theorem dX11_mixRow_74 : decode cX11_mixRow 74 = .ok (.iinc 2 1, 3) := by decide +kernel
theorem dX11_mixRow_77 : decode cX11_mixRow 77 = .ok (.goto (-19), 3) := by decide +kernel
theorem dX11_mixRow_80 : decode cX11_mixRow 80 = .ok (.return_, 1) := by decide +kernel
theorem dX11_digest_0 : decode cX11_digest 0 = .ok (.aload_n 0, 1) := by decide +kernel
theorem dX11_digest_1 : decode cX11_digest 1 = .ok (.iconst 0, 1) := by decide +kernel
theorem dX11_digest_2 : decode cX11_digest 2 = .ok (.putfield 70, 3) := by decide +kernel
theorem dX11_digest_5 : decode cX11_digest 5 = .ok (.aload_n 0, 1) := by decide +kernel
theorem dX11_digest_6 : decode cX11_digest 6 = .ok (.ldc2_w 253, 3) := by decide +kernel
theorem dX11_digest_9 : decode cX11_digest 9 = .ok (.putfield 245, 3) := by decide +kernel
theorem dX11_digest_12 : decode cX11_digest 12 = .ok (.iconst 0, 1) := by decide +kernel
theorem dX11_digest_13 : decode cX11_digest 13 = .ok (.istore_n 1, 1) := by decide +kernel
theorem dX11_digest_14 : decode cX11_digest 14 = .ok (.iload_n 1, 1) := by decide +kernel
theorem dX11_digest_15 : decode cX11_digest 15 = .ok (.bipush 15, 2) := by decide +kernel
theorem dX11_digest_17 : decode cX11_digest 17 = .ok (.if_icmp .ge 19, 3) := by decide +kernel
theorem dX11_digest_20 : decode cX11_digest 20 = .ok (.aload_n 0, 1) := by decide +kernel
theorem dX11_digest_21 : decode cX11_digest 21 = .ok (.aload_n 0, 1) := by decide +kernel
theorem dX11_digest_22 : decode cX11_digest 22 = .ok (.iload_n 1, 1) := by decide +kernel
theorem dX11_digest_23 : decode cX11_digest 23 = .ok (.invokevirtual 225, 3) := by decide +kernel
theorem dX11_digest_26 : decode cX11_digest 26 = .ok (.i2l, 1) := by decide +kernel
theorem dX11_digest_27 : decode cX11_digest 27 = .ok (.invokevirtual 249, 3) := by decide +kernel
theorem dX11_digest_30 : decode cX11_digest 30 = .ok (.iinc 1 1, 3) := by decide +kernel
theorem dX11_digest_33 : decode cX11_digest 33 = .ok (.goto (-19), 3) := by decide +kernel
theorem dX11_digest_36 : decode cX11_digest 36 = .ok (.iconst 0, 1) := by decide +kernel
theorem dX11_digest_37 : decode cX11_digest 37 = .ok (.istore_n 1, 1) := by decide +kernel
theorem dX11_digest_38 : decode cX11_digest 38 = .ok (.iload_n 1, 1) := by decide +kernel
theorem dX11_digest_39 : decode cX11_digest 39 = .ok (.iconst 4, 1) := by decide +kernel
theorem dX11_digest_40 : decode cX11_digest 40 = .ok (.if_icmp .ge 20, 3) := by decide +kernel
theorem dX11_digest_43 : decode cX11_digest 43 = .ok (.aload_n 0, 1) := by decide +kernel
theorem dX11_digest_44 : decode cX11_digest 44 = .ok (.aload_n 0, 1) := by decide +kernel
theorem dX11_digest_45 : decode cX11_digest 45 = .ok (.getfield 7, 3) := by decide +kernel
theorem dX11_digest_48 : decode cX11_digest 48 = .ok (.iload_n 1, 1) := by decide +kernel
theorem dX11_digest_49 : decode cX11_digest 49 = .ok (.iaload, 1) := by decide +kernel
theorem dX11_digest_50 : decode cX11_digest 50 = .ok (.i2l, 1) := by decide +kernel
theorem dX11_digest_51 : decode cX11_digest 51 = .ok (.invokevirtual 249, 3) := by decide +kernel
theorem dX11_digest_54 : decode cX11_digest 54 = .ok (.iinc 1 1, 3) := by decide +kernel
theorem dX11_digest_57 : decode cX11_digest 57 = .ok (.goto (-19), 3) := by decide +kernel
theorem dX11_digest_60 : decode cX11_digest 60 = .ok (.aload_n 0, 1) := by decide +kernel
theorem dX11_digest_61 : decode cX11_digest 61 = .ok (.iconst 0, 1) := by decide +kernel
theorem dX11_digest_62 : decode cX11_digest 62 = .ok (.invokevirtual 255, 3) := by decide +kernel
theorem dX11_digest_65 : decode cX11_digest 65 = .ok (.aload_n 0, 1) := by decide +kernel
theorem dX11_digest_66 : decode cX11_digest 66 = .ok (.iconst 1, 1) := by decide +kernel
theorem dX11_digest_67 : decode cX11_digest 67 = .ok (.invokevirtual 255, 3) := by decide +kernel
theorem dX11_digest_70 : decode cX11_digest 70 = .ok (.aload_n 0, 1) := by decide +kernel
theorem dX11_digest_71 : decode cX11_digest 71 = .ok (.invokevirtual 143, 3) := by decide +kernel
theorem dX11_digest_74 : decode cX11_digest 74 = .ok (.aload_n 0, 1) := by decide +kernel
theorem dX11_digest_75 : decode cX11_digest 75 = .ok (.getfield 97, 3) := by decide +kernel
theorem dX11_digest_78 : decode cX11_digest 78 = .ok (.istore_n 1, 1) := by decide +kernel
theorem dX11_digest_79 : decode cX11_digest 79 = .ok (.iconst 0, 1) := by decide +kernel
theorem dX11_digest_80 : decode cX11_digest 80 = .ok (.istore_n 2, 1) := by decide +kernel
theorem dX11_digest_81 : decode cX11_digest 81 = .ok (.iload_n 2, 1) := by decide +kernel
theorem dX11_digest_82 : decode cX11_digest 82 = .ok (.iconst 4, 1) := by decide +kernel
theorem dX11_digest_83 : decode cX11_digest 83 = .ok (.iload_n 1, 1) := by decide +kernel
theorem dX11_digest_84 : decode cX11_digest 84 = .ok (.imul, 1) := by decide +kernel
theorem dX11_digest_85 : decode cX11_digest 85 = .ok (.if_icmp .ge 24, 3) := by decide +kernel
theorem dX11_digest_88 : decode cX11_digest 88 = .ok (.aload_n 0, 1) := by decide +kernel
theorem dX11_digest_89 : decode cX11_digest 89 = .ok (.aload_n 0, 1) := by decide +kernel
theorem dX11_digest_90 : decode cX11_digest 90 = .ok (.iload_n 2, 1) := by decide +kernel
theorem dX11_digest_91 : decode cX11_digest 91 = .ok (.iconst 4, 1) := by decide +kernel
theorem dX11_digest_92 : decode cX11_digest 92 = .ok (.idiv, 1) := by decide +kernel
theorem dX11_digest_93 : decode cX11_digest 93 = .ok (.iload_n 2, 1) := by decide +kernel
theorem dX11_digest_94 : decode cX11_digest 94 = .ok (.iconst 4, 1) := by decide +kernel
theorem dX11_digest_95 : decode cX11_digest 95 = .ok (.irem, 1) := by decide +kernel
theorem dX11_digest_96 : decode cX11_digest 96 = .ok (.invokevirtual 185, 3) := by decide +kernel
theorem dX11_digest_99 : decode cX11_digest 99 = .ok (.i2l, 1) := by decide +kernel
theorem dX11_digest_100 : decode cX11_digest 100 = .ok (.invokevirtual 249, 3) := by decide +kernel
theorem dX11_digest_103 : decode cX11_digest 103 = .ok (.iinc 2 1, 3) := by decide +kernel
theorem dX11_digest_106 : decode cX11_digest 106 = .ok (.goto (-25), 3) := by decide +kernel
theorem dX11_digest_109 : decode cX11_digest 109 = .ok (.aload_n 0, 1) := by decide +kernel
theorem dX11_digest_110 : decode cX11_digest 110 = .ok (.getfield 100, 3) := by decide +kernel
theorem dX11_digest_113 : decode cX11_digest 113 = .ok (.istore_n 2, 1) := by decide +kernel
theorem dX11_digest_114 : decode cX11_digest 114 = .ok (.iconst 0, 1) := by decide +kernel
theorem dX11_digest_115 : decode cX11_digest 115 = .ok (.istore_n 3, 1) := by decide +kernel
theorem dX11_digest_116 : decode cX11_digest 116 = .ok (.iload_n 3, 1) := by decide +kernel
theorem dX11_digest_117 : decode cX11_digest 117 = .ok (.iconst 3, 1) := by decide +kernel
theorem dX11_digest_118 : decode cX11_digest 118 = .ok (.iload_n 2, 1) := by decide +kernel
theorem dX11_digest_119 : decode cX11_digest 119 = .ok (.imul, 1) := by decide +kernel
theorem dX11_digest_120 : decode cX11_digest 120 = .ok (.if_icmp .ge 24, 3) := by decide +kernel
theorem dX11_digest_123 : decode cX11_digest 123 = .ok (.aload_n 0, 1) := by decide +kernel
theorem dX11_digest_124 : decode cX11_digest 124 = .ok (.aload_n 0, 1) := by decide +kernel
theorem dX11_digest_125 : decode cX11_digest 125 = .ok (.iload_n 3, 1) := by decide +kernel
theorem dX11_digest_126 : decode cX11_digest 126 = .ok (.iconst 3, 1) := by decide +kernel
theorem dX11_digest_127 : decode cX11_digest 127 = .ok (.idiv, 1) := by decide +kernel
theorem dX11_digest_128 : decode cX11_digest 128 = .ok (.iload_n 3, 1) := by decide +kernel
theorem dX11_digest_129 : decode cX11_digest 129 = .ok (.iconst 3, 1) := by decide +kernel
theorem dX11_digest_130 : decode cX11_digest 130 = .ok (.irem, 1) := by decide +kernel
theorem dX11_digest_131 : decode cX11_digest 131 = .ok (.invokevirtual 191, 3) := by decide +kernel
theorem dX11_digest_134 : decode cX11_digest 134 = .ok (.i2l, 1) := by decide +kernel
theorem dX11_digest_135 : decode cX11_digest 135 = .ok (.invokevirtual 249, 3) := by decide +kernel
theorem dX11_digest_138 : decode cX11_digest 138 = .ok (.iinc 3 1, 3) := by decide +kernel
theorem dX11_digest_141 : decode cX11_digest 141 = .ok (.goto (-25), 3) := by decide +kernel
theorem dX11_digest_144 : decode cX11_digest 144 = .ok (.aload_n 0, 1) := by decide +kernel
theorem dX11_digest_145 : decode cX11_digest 145 = .ok (.iconst 5, 1) := by decide +kernel
theorem dX11_digest_146 : decode cX11_digest 146 = .ok (.invokevirtual 222, 3) := by decide +kernel
theorem dX11_digest_149 : decode cX11_digest 149 = .ok (.istore_n 3, 1) := by decide +kernel
theorem dX11_digest_150 : decode cX11_digest 150 = .ok (.iconst 0, 1) := by decide +kernel
theorem dX11_digest_151 : decode cX11_digest 151 = .ok (.istore 4, 2) := by decide +kernel
theorem dX11_digest_153 : decode cX11_digest 153 = .ok (.iload 4, 2) := by decide +kernel
theorem dX11_digest_155 : decode cX11_digest 155 = .ok (.iconst 5, 1) := by decide +kernel
theorem dX11_digest_156 : decode cX11_digest 156 = .ok (.iload_n 3, 1) := by decide +kernel
theorem dX11_digest_157 : decode cX11_digest 157 = .ok (.imul, 1) := by decide +kernel
theorem dX11_digest_158 : decode cX11_digest 158 = .ok (.if_icmp .ge 26, 3) := by decide +kernel
theorem dX11_digest_161 : decode cX11_digest 161 = .ok (.aload_n 0, 1) := by decide +kernel
theorem dX11_digest_162 : decode cX11_digest 162 = .ok (.aload_n 0, 1) := by decide +kernel
theorem dX11_digest_163 : decode cX11_digest 163 = .ok (.iload 4, 2) := by decide +kernel
theorem dX11_digest_165 : decode cX11_digest 165 = .ok (.iconst 5, 1) := by decide +kernel
theorem dX11_digest_166 : decode cX11_digest 166 = .ok (.idiv, 1) := by decide +kernel
theorem dX11_digest_167 : decode cX11_digest 167 = .ok (.iload 4, 2) := by decide +kernel
theorem dX11_digest_169 : decode cX11_digest 169 = .ok (.iconst 5, 1) := by decide +kernel
theorem dX11_digest_170 : decode cX11_digest 170 = .ok (.irem, 1) := by decide +kernel
theorem dX11_digest_171 : decode cX11_digest 171 = .ok (.invokevirtual 194, 3) := by decide +kernel
theorem dX11_digest_174 : decode cX11_digest 174 = .ok (.i2l, 1) := by decide +kernel
theorem dX11_digest_175 : decode cX11_digest 175 = .ok (.invokevirtual 249, 3) := by decide +kernel
theorem dX11_digest_178 : decode cX11_digest 178 = .ok (.iinc 4 1, 3) := by decide +kernel
theorem dX11_digest_181 : decode cX11_digest 181 = .ok (.goto (-28), 3) := by decide +kernel
theorem dX11_digest_184 : decode cX11_digest 184 = .ok (.aload_n 0, 1) := by decide +kernel
theorem dX11_digest_185 : decode cX11_digest 185 = .ok (.aload_n 0, 1) := by decide +kernel
theorem dX11_digest_186 : decode cX11_digest 186 = .ok (.iconst 0, 1) := by decide +kernel
theorem dX11_digest_187 : decode cX11_digest 187 = .ok (.iconst 2, 1) := by decide +kernel
theorem dX11_digest_188 : decode cX11_digest 188 = .ok (.invokevirtual 228, 3) := by decide +kernel
theorem dX11_digest_191 : decode cX11_digest 191 = .ok (.i2l, 1) := by decide +kernel
theorem dX11_digest_192 : decode cX11_digest 192 = .ok (.invokevirtual 249, 3) := by decide +kernel
theorem dX11_digest_195 : decode cX11_digest 195 = .ok (.aload_n 0, 1) := by decide +kernel
theorem dX11_digest_196 : decode cX11_digest 196 = .ok (.aload_n 0, 1) := by decide +kernel
theorem dX11_digest_197 : decode cX11_digest 197 = .ok (.iconst 3, 1) := by decide +kernel
theorem dX11_digest_198 : decode cX11_digest 198 = .ok (.iconst 0, 1) := by decide +kernel
theorem dX11_digest_199 : decode cX11_digest 199 = .ok (.invokevirtual 228, 3) := by decide +kernel
theorem dX11_digest_202 : decode cX11_digest 202 = .ok (.i2l, 1) := by decide +kernel
theorem dX11_digest_203 : decode cX11_digest 203 = .ok (.invokevirtual 249, 3) := by decide +kernel
theorem dX11_digest_206 : decode cX11_digest 206 = .ok (.aload_n 0, 1) := by decide +kernel
theorem dX11_digest_207 : decode cX11_digest 207 = .ok (.iconst 0, 1) := by decide +kernel
theorem dX11_digest_208 : decode cX11_digest 208 = .ok (.invokevirtual 85, 3) := by decide +kernel
theorem dX11_digest_211 : decode cX11_digest 211 = .ok (.ifCond .le 15, 3) := by decide +kernel
theorem dX11_digest_214 : decode cX11_digest 214 = .ok (.aload_n 0, 1) := by decide +kernel
theorem dX11_digest_215 : decode cX11_digest 215 = .ok (.aload_n 0, 1) := by decide +kernel
theorem dX11_digest_216 : decode cX11_digest 216 = .ok (.iconst 0, 1) := by decide +kernel
theorem dX11_digest_217 : decode cX11_digest 217 = .ok (.iconst 0, 1) := by decide +kernel
theorem dX11_digest_218 : decode cX11_digest 218 = .ok (.iconst 0, 1) := by decide +kernel
theorem dX11_digest_219 : decode cX11_digest 219 = .ok (.invokevirtual 231, 3) := by decide +kernel
theorem dX11_digest_222 : decode cX11_digest 222 = .ok (.i2l, 1) := by decide +kernel
theorem dX11_digest_223 : decode cX11_digest 223 = .ok (.invokevirtual 249, 3) := by decide +kernel
theorem dX11_digest_226 : decode cX11_digest 226 = .ok (.aload_n 0, 1) := by decide +kernel
theorem dX11_digest_227 : decode cX11_digest 227 = .ok (.aload_n 0, 1) := by decide +kernel
theorem dX11_digest_228 : decode cX11_digest 228 = .ok (.invokevirtual 234, 3) := by decide +kernel
theorem dX11_digest_231 : decode cX11_digest 231 = .ok (.i2l, 1) := by decide +kernel
theorem dX11_digest_232 : decode cX11_digest 232 = .ok (.invokevirtual 249, 3) := by decide +kernel
theorem dX11_digest_235 : decode cX11_digest 235 = .ok (.aload_n 0, 1) := by decide +kernel
theorem dX11_digest_236 : decode cX11_digest 236 = .ok (.aload_n 0, 1) := by decide +kernel
theorem dX11_digest_237 : decode cX11_digest 237 = .ok (.invokevirtual 239, 3) := by decide +kernel
theorem dX11_digest_240 : decode cX11_digest 240 = .ok (.invokestatic 259, 3) := by decide +kernel
theorem dX11_digest_243 : decode cX11_digest 243 = .ok (.invokevirtual 249, 3) := by decide +kernel
theorem dX11_digest_246 : decode cX11_digest 246 = .ok (.aload_n 0, 1) := by decide +kernel
theorem dX11_digest_247 : decode cX11_digest 247 = .ok (.aload_n 0, 1) := by decide +kernel
theorem dX11_digest_248 : decode cX11_digest 248 = .ok (.getfield 165, 3) := by decide +kernel
theorem dX11_digest_251 : decode cX11_digest 251 = .ok (.i2l, 1) := by decide +kernel
theorem dX11_digest_252 : decode cX11_digest 252 = .ok (.invokevirtual 249, 3) := by decide +kernel
theorem dX11_digest_255 : decode cX11_digest 255 = .ok (.iconst 0, 1) := by decide +kernel
theorem dX11_digest_256 : decode cX11_digest 256 = .ok (.istore 4, 2) := by decide +kernel
theorem dX11_digest_258 : decode cX11_digest 258 = .ok (.iload 4, 2) := by decide +kernel
theorem dX11_digest_260 : decode cX11_digest 260 = .ok (.aload_n 0, 1) := by decide +kernel
theorem dX11_digest_261 : decode cX11_digest 261 = .ok (.getfield 165, 3) := by decide +kernel
theorem dX11_digest_264 : decode cX11_digest 264 = .ok (.if_icmp .ge 21, 3) := by decide +kernel
theorem dX11_digest_267 : decode cX11_digest 267 = .ok (.aload_n 0, 1) := by decide +kernel
theorem dX11_digest_268 : decode cX11_digest 268 = .ok (.aload_n 0, 1) := by decide +kernel
theorem dX11_digest_269 : decode cX11_digest 269 = .ok (.getfield 22, 3) := by decide +kernel
theorem dX11_digest_272 : decode cX11_digest 272 = .ok (.iload 4, 2) := by decide +kernel
theorem dX11_digest_274 : decode cX11_digest 274 = .ok (.iaload, 1) := by decide +kernel
theorem dX11_digest_275 : decode cX11_digest 275 = .ok (.i2l, 1) := by decide +kernel
theorem dX11_digest_276 : decode cX11_digest 276 = .ok (.invokevirtual 249, 3) := by decide +kernel
theorem dX11_digest_279 : decode cX11_digest 279 = .ok (.iinc 4 1, 3) := by decide +kernel
theorem dX11_digest_282 : decode cX11_digest 282 = .ok (.goto (-24), 3) := by decide +kernel
theorem dX11_digest_285 : decode cX11_digest 285 = .ok (.aload_n 0, 1) := by decide +kernel
theorem dX11_digest_286 : decode cX11_digest 286 = .ok (.getfield 245, 3) := by decide +kernel
theorem dX11_digest_289 : decode cX11_digest 289 = .ok (.lreturn, 1) := by decide +kernel
