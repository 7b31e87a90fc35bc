theorem dX10_init_0 : decode cX10_init 0 = .ok (.aload_n 0, 1) := by decide +kernel
theorem dX10_init_1 : decode cX10_init 1 = .ok (.invokespecial 1, 3) := by decide +kernel
theorem dX10_init_4 : decode cX10_init 4 = .ok (.aload_n 0, 1) := by decide +kernel
theorem dX10_init_5 : decode cX10_init 5 = .ok (.new 7, 3) := by decide +kernel
theorem dX10_init_8 : decode cX10_init 8 = .ok (.dup, 1) := by decide +kernel
theorem dX10_init_9 : decode cX10_init 9 = .ok (.invokespecial 9, 3) := by decide +kernel
theorem dX10_init_12 : decode cX10_init 12 = .ok (.putfield 10, 3) := by decide +kernel
theorem dX10_init_15 : decode cX10_init 15 = .ok (.aload_n 0, 1) := by decide +kernel
theorem dX10_init_16 : decode cX10_init 16 = .ok (.new 7, 3) := by decide +kernel
theorem dX10_init_19 : decode cX10_init 19 = .ok (.dup, 1) := by decide +kernel
theorem dX10_init_20 : decode cX10_init 20 = .ok (.invokespecial 9, 3) := by decide +kernel
theorem dX10_init_23 : decode cX10_init 23 = .ok (.putfield 16, 3) := by decide +kernel
theorem dX10_init_26 : decode cX10_init 26 = .ok (.aload_n 0, 1) := by decide +kernel
theorem dX10_init_27 : decode cX10_init 27 = .ok (.new 7, 3) := by decide +kernel
theorem dX10_init_30 : decode cX10_init 30 = .ok (.dup, 1) := by decide +kernel
theorem dX10_init_31 : decode cX10_init 31 = .ok (.invokespecial 9, 3) := by decide +kernel
theorem dX10_init_34 : decode cX10_init 34 = .ok (.putfield 19, 3) := by decide +kernel
theorem dX10_init_37 : decode cX10_init 37 = .ok (.aload_n 0, 1) := by decide +kernel
theorem dX10_init_38 : decode cX10_init 38 = .ok (.new 7, 3) := by decide +kernel
theorem dX10_init_41 : decode cX10_init 41 = .ok (.dup, 1) := by decide +kernel
theorem dX10_init_42 : decode cX10_init 42 = .ok (.invokespecial 9, 3) := by decide +kernel
theorem dX10_init_45 : decode cX10_init 45 = .ok (.putfield 22, 3) := by decide +kernel
theorem dX10_init_48 : decode cX10_init 48 = .ok (.aload_n 0, 1) := by decide +kernel
theorem dX10_init_49 : decode cX10_init 49 = .ok (.iconst 0, 1) := by decide +kernel
theorem dX10_init_50 : decode cX10_init 50 = .ok (.putfield 25, 3) := by decide +kernel
theorem dX10_init_53 : decode cX10_init 53 = .ok (.aload_n 0, 1) := by decide +kernel
theorem dX10_init_54 : decode cX10_init 54 = .ok (.iconst 0, 1) := by decide +kernel
theorem dX10_init_55 : decode cX10_init 55 = .ok (.putfield 29, 3) := by decide +kernel
theorem dX10_init_58 : decode cX10_init 58 = .ok (.aload_n 0, 1) := by decide +kernel
theorem dX10_init_59 : decode cX10_init 59 = .ok (.new 32, 3) := by decide +kernel
theorem dX10_init_62 : decode cX10_init 62 = .ok (.dup, 1) := by decide +kernel
theorem dX10_init_63 : decode cX10_init 63 = .ok (.invokespecial 34, 3) := by decide +kernel
theorem dX10_init_66 : decode cX10_init 66 = .ok (.putfield 35, 3) := by decide +kernel
theorem dX10_init_69 : decode cX10_init 69 = .ok (.aload_n 0, 1) := by decide +kernel
theorem dX10_init_70 : decode cX10_init 70 = .ok (.new 39, 3) := by decide +kernel
theorem dX10_init_73 : decode cX10_init 73 = .ok (.dup, 1) := by decide +kernel
theorem dX10_init_74 : decode cX10_init 74 = .ok (.invokespecial 41, 3) := by decide +kernel
theorem dX10_init_77 : decode cX10_init 77 = .ok (.putfield 42, 3) := by decide +kernel
theorem dX10_init_80 : decode cX10_init 80 = .ok (.aload_n 0, 1) := by decide +kernel
theorem dX10_init_81 : decode cX10_init 81 = .ok (.new 46, 3) := by decide +kernel
theorem dX10_init_84 : decode cX10_init 84 = .ok (.dup, 1) := by decide +kernel
theorem dX10_init_85 : decode cX10_init 85 = .ok (.invokespecial 48, 3) := by decide +kernel
theorem dX10_init_88 : decode cX10_init 88 = .ok (.putfield 49, 3) := by decide +kernel
theorem dX10_init_91 : decode cX10_init 91 = .ok (.aload_n 0, 1) := by decide +kernel
theorem dX10_init_92 : decode cX10_init 92 = .ok (.new 46, 3) := by decide +kernel
theorem dX10_init_95 : decode cX10_init 95 = .ok (.dup, 1) := by decide +kernel
theorem dX10_init_96 : decode cX10_init 96 = .ok (.invokespecial 48, 3) := by decide +kernel
theorem dX10_init_99 : decode cX10_init 99 = .ok (.putfield 53, 3) := by decide +kernel
theorem dX10_init_102 : decode cX10_init 102 = .ok (.aload_n 0, 1) := by decide +kernel
theorem dX10_init_103 : decode cX10_init 103 = .ok (.new 56, 3) := by decide +kernel
theorem dX10_init_106 : decode cX10_init 106 = .ok (.dup, 1) := by decide +kernel
theorem dX10_init_107 : decode cX10_init 107 = .ok (.invokespecial 58, 3) := by decide +kernel
theorem dX10_init_110 : decode cX10_init 110 = .ok (.putfield 59, 3) := by decide +kernel
theorem dX10_init_113 : decode cX10_init 113 = .ok (.aload_n 0, 1) := by decide +kernel
theorem dX10_init_114 : decode cX10_init 114 = .ok (.iconst 1, 1) := by decide +kernel
theorem dX10_init_115 : decode cX10_init 115 = .ok (.putfield 63, 3) := by decide +kernel
theorem dX10_init_118 : decode cX10_init 118 = .ok (.return_, 1) := by decide +kernel
theorem dX10_put_0 : decode cX10_put 0 = .ok (.iload_n 1, 1) := by decide +kernel
theorem dX10_put_1 : decode cX10_put 1 = .ok (.invokestatic 66, 3) := by decide +kernel
theorem dX10_put_4 : decode cX10_put 4 = .ok (.ifCond .eq 22, 3) := by decide +kernel
theorem dX10_put_7 : decode cX10_put 7 = .ok (.iload_n 2, 1) := by decide +kernel
theorem dX10_put_8 : decode cX10_put 8 = .ok (.ifCond .lt 18, 3) := by decide +kernel
theorem dX10_put_11 : decode cX10_put 11 = .ok (.iload_n 2, 1) := by decide +kernel
theorem dX10_put_12 : decode cX10_put 12 = .ok (.aload_n 0, 1) := by decide +kernel
theorem dX10_put_13 : decode cX10_put 13 = .ok (.getfield 10, 3) := by decide +kernel
theorem dX10_put_16 : decode cX10_put 16 = .ok (.iload_n 1, 1) := by decide +kernel
theorem dX10_put_17 : decode cX10_put 17 = .ok (.invokevirtual 70, 3) := by decide +kernel
theorem dX10_put_20 : decode cX10_put 20 = .ok (.invokevirtual 74, 3) := by decide +kernel
theorem dX10_put_23 : decode cX10_put 23 = .ok (.if_icmp .le 13, 3) := by decide +kernel
theorem dX10_put_26 : decode cX10_put 26 = .ok (.new 80, 3) := by decide +kernel
theorem dX10_put_29 : decode cX10_put 29 = .ok (.dup, 1) := by decide +kernel
theorem dX10_put_30 : decode cX10_put 30 = .ok (.ldc 82, 2) := by decide +kernel
theorem dX10_put_32 : decode cX10_put 32 = .ok (.invokespecial 84, 3) := by decide +kernel
theorem dX10_put_35 : decode cX10_put 35 = .ok (.athrow, 1) := by decide +kernel
theorem dX10_put_36 : decode cX10_put 36 = .ok (.iload_n 3, 1) := by decide +kernel
theorem dX10_put_37 : decode cX10_put 37 = .ok (.invokestatic 87, 3) := by decide +kernel
theorem dX10_put_40 : decode cX10_put 40 = .ok (.ifCond .ne 13, 3) := by decide +kernel
theorem dX10_put_43 : decode cX10_put 43 = .ok (.new 90, 3) := by decide +kernel
theorem dX10_put_46 : decode cX10_put 46 = .ok (.dup, 1) := by decide +kernel
theorem dX10_put_47 : decode cX10_put 47 = .ok (.ldc 92, 2) := by decide +kernel
theorem dX10_put_49 : decode cX10_put 49 = .ok (.invokespecial 94, 3) := by decide +kernel
theorem dX10_put_52 : decode cX10_put 52 = .ok (.athrow, 1) := by decide +kernel
theorem dX10_put_53 : decode cX10_put 53 = .ok (.aload_n 0, 1) := by decide +kernel
theorem dX10_put_54 : decode cX10_put 54 = .ok (.getfield 10, 3) := by decide +kernel
theorem dX10_put_57 : decode cX10_put 57 = .ok (.iload_n 1, 1) := by decide +kernel
theorem dX10_put_58 : decode cX10_put 58 = .ok (.invokevirtual 70, 3) := by decide +kernel
theorem dX10_put_61 : decode cX10_put 61 = .ok (.invokevirtual 74, 3) := by decide +kernel
theorem dX10_put_64 : decode cX10_put 64 = .ok (.bipush 24, 2) := by decide +kernel
theorem dX10_put_66 : decode cX10_put 66 = .ok (.if_icmp .lt 13, 3) := by decide +kernel
theorem dX10_put_69 : decode cX10_put 69 = .ok (.new 95, 3) := by decide +kernel
theorem dX10_put_72 : decode cX10_put 72 = .ok (.dup, 1) := by decide +kernel
theorem dX10_put_73 : decode cX10_put 73 = .ok (.ldc 97, 2) := by decide +kernel
theorem dX10_put_75 : decode cX10_put 75 = .ok (.invokespecial 99, 3) := by decide +kernel
theorem dX10_put_78 : decode cX10_put 78 = .ok (.athrow, 1) := by decide +kernel
theorem dX10_put_79 : decode cX10_put 79 = .ok (.aload_n 0, 1) := by decide +kernel
theorem dX10_put_80 : decode cX10_put 80 = .ok (.invokevirtual 100, 3) := by decide +kernel
theorem dX10_put_83 : decode cX10_put 83 = .ok (.aload_n 0, 1) := by decide +kernel
theorem dX10_put_84 : decode cX10_put 84 = .ok (.getfield 10, 3) := by decide +kernel
theorem dX10_put_87 : decode cX10_put 87 = .ok (.iload_n 1, 1) := by decide +kernel
theorem dX10_put_88 : decode cX10_put 88 = .ok (.invokevirtual 70, 3) := by decide +kernel
theorem dX10_put_91 : decode cX10_put 91 = .ok (.iload_n 2, 1) := by decide +kernel
theorem dX10_put_92 : decode cX10_put 92 = .ok (.iload_n 3, 1) := by decide +kernel
theorem dX10_put_93 : decode cX10_put 93 = .ok (.invokevirtual 103, 3) := by decide +kernel
theorem dX10_put_96 : decode cX10_put 96 = .ok (.aload_n 0, 1) := by decide +kernel
theorem dX10_put_97 : decode cX10_put 97 = .ok (.getfield 10, 3) := by decide +kernel
theorem dX10_put_100 : decode cX10_put 100 = .ok (.iload_n 1, 1) := by decide +kernel
theorem dX10_put_101 : decode cX10_put 101 = .ok (.invokevirtual 70, 3) := by decide +kernel
theorem dX10_put_104 : decode cX10_put 104 = .ok (.invokevirtual 74, 3) := by decide +kernel
theorem dX10_put_107 : decode cX10_put 107 = .ok (.ireturn, 1) := by decide +kernel
theorem dX10_take_0 : decode cX10_take 0 = .ok (.aload_n 0, 1) := by decide +kernel
theorem dX10_take_1 : decode cX10_take 1 = .ok (.iload_n 1, 1) := by decide +kernel
theorem dX10_take_2 : decode cX10_take 2 = .ok (.iload_n 2, 1) := by decide +kernel
theorem dX10_take_3 : decode cX10_take 3 = .ok (.invokevirtual 107, 3) := by decide +kernel
theorem dX10_take_6 : decode cX10_take 6 = .ok (.ifCond .ne 13, 3) := by decide +kernel
theorem dX10_take_9 : decode cX10_take 9 = .ok (.new 80, 3) := by decide +kernel
theorem dX10_take_12 : decode cX10_take 12 = .ok (.dup, 1) := by decide +kernel
theorem dX10_take_13 : decode cX10_take 13 = .ok (.ldc 82, 2) := by decide +kernel
theorem dX10_take_15 : decode cX10_take 15 = .ok (.invokespecial 84, 3) := by decide +kernel
theorem dX10_take_18 : decode cX10_take 18 = .ok (.athrow, 1) := by decide +kernel
theorem dX10_take_19 : decode cX10_take 19 = .ok (.iload_n 3, 1) := by decide +kernel
theorem dX10_take_20 : decode cX10_take 20 = .ok (.iconst 1, 1) := by decide +kernel
theorem dX10_take_21 : decode cX10_take 21 = .ok (.if_icmp .lt 20, 3) := by decide +kernel
theorem dX10_take_24 : decode cX10_take 24 = .ok (.iload_n 3, 1) := by decide +kernel
theorem dX10_take_25 : decode cX10_take 25 = .ok (.aload_n 0, 1) := by decide +kernel
theorem dX10_take_26 : decode cX10_take 26 = .ok (.getfield 10, 3) := by decide +kernel
theorem dX10_take_29 : decode cX10_take 29 = .ok (.iload_n 1, 1) := by decide +kernel
theorem dX10_take_30 : decode cX10_take 30 = .ok (.invokevirtual 70, 3) := by decide +kernel
theorem dX10_take_33 : decode cX10_take 33 = .ok (.invokevirtual 74, 3) := by decide +kernel
theorem dX10_take_36 : decode cX10_take 36 = .ok (.iload_n 2, 1) := by decide +kernel
theorem dX10_take_37 : decode cX10_take 37 = .ok (.isub, 1) := by decide +kernel
theorem dX10_take_38 : decode cX10_take 38 = .ok (.if_icmp .le 13, 3) := by decide +kernel
theorem dX10_take_41 : decode cX10_take 41 = .ok (.new 90, 3) := by decide +kernel
theorem dX10_take_44 : decode cX10_take 44 = .ok (.dup, 1) := by decide +kernel
theorem dX10_take_45 : decode cX10_take 45 = .ok (.ldc 111, 2) := by decide +kernel
theorem dX10_take_47 : decode cX10_take 47 = .ok (.invokespecial 94, 3) := by decide +kernel
theorem dX10_take_50 : decode cX10_take 50 = .ok (.athrow, 1) := by decide +kernel
theorem dX10_take_51 : decode cX10_take 51 = .ok (.aload_n 0, 1) := by decide +kernel
theorem dX10_take_52 : decode cX10_take 52 = .ok (.invokevirtual 100, 3) := by decide +kernel
theorem dX10_take_55 : decode cX10_take 55 = .ok (.aload_n 0, 1) := by decide +kernel
theorem dX10_take_56 : decode cX10_take 56 = .ok (.getfield 10, 3) := by decide +kernel
theorem dX10_take_59 : decode cX10_take 59 = .ok (.iload_n 1, 1) := by decide +kernel
theorem dX10_take_60 : decode cX10_take 60 = .ok (.invokevirtual 70, 3) := by decide +kernel
theorem dX10_take_63 : decode cX10_take 63 = .ok (.iload_n 2, 1) := by decide +kernel
theorem dX10_take_64 : decode cX10_take 64 = .ok (.iload_n 3, 1) := by decide +kernel
theorem dX10_take_65 : decode cX10_take 65 = .ok (.invokevirtual 113, 3) := by decide +kernel
theorem dX10_take_68 : decode cX10_take 68 = .ok (.aload_n 0, 1) := by decide +kernel
theorem dX10_take_69 : decode cX10_take 69 = .ok (.getfield 10, 3) := by decide +kernel
theorem dX10_take_72 : decode cX10_take 72 = .ok (.iload_n 1, 1) := by decide +kernel
theorem dX10_take_73 : decode cX10_take 73 = .ok (.invokevirtual 70, 3) := by decide +kernel
theorem dX10_take_76 : decode cX10_take 76 = .ok (.invokevirtual 74, 3) := by decide +kernel
theorem dX10_take_79 : decode cX10_take 79 = .ok (.ireturn, 1) := by decide +kernel
theorem dX10_change_0 : decode cX10_change 0 = .ok (.aload_n 0, 1) := by decide +kernel
theorem dX10_change_1 : decode cX10_change 1 = .ok (.iload_n 1, 1) := by decide +kernel
theorem dX10_change_2 : decode cX10_change 2 = .ok (.iload_n 2, 1) := by decide +kernel
theorem dX10_change_3 : decode cX10_change 3 = .ok (.invokevirtual 107, 3) := by decide +kernel
theorem dX10_change_6 : decode cX10_change 6 = .ok (.ifCond .ne 13, 3) := by decide +kernel
theorem dX10_change_9 : decode cX10_change 9 = .ok (.new 80, 3) := by decide +kernel
theorem dX10_change_12 : decode cX10_change 12 = .ok (.dup, 1) := by decide +kernel
theorem dX10_change_13 : decode cX10_change 13 = .ok (.ldc 82, 2) := by decide +kernel
theorem dX10_change_15 : decode cX10_change 15 = .ok (.invokespecial 84, 3) := by decide +kernel
theorem dX10_change_18 : decode cX10_change 18 = .ok (.athrow, 1) := by decide +kernel
theorem dX10_change_19 : decode cX10_change 19 = .ok (.iload_n 3, 1) := by decide +kernel
theorem dX10_change_20 : decode cX10_change 20 = .ok (.invokestatic 87, 3) := by decide +kernel
theorem dX10_change_23 : decode cX10_change 23 = .ok (.ifCond .ne 13, 3) := by decide +kernel
theorem dX10_change_26 : decode cX10_change 26 = .ok (.new 90, 3) := by decide +kernel
theorem dX10_change_29 : decode cX10_change 29 = .ok (.dup, 1) := by decide +kernel
theorem dX10_change_30 : decode cX10_change 30 = .ok (.ldc 92, 2) := by decide +kernel
theorem dX10_change_32 : decode cX10_change 32 = .ok (.invokespecial 94, 3) := by decide +kernel
theorem dX10_change_35 : decode cX10_change 35 = .ok (.athrow, 1) := by decide +kernel
theorem dX10_change_36 : decode cX10_change 36 = .ok (.aload_n 0, 1) := by decide +kernel
theorem dX10_change_37 : decode cX10_change 37 = .ok (.invokevirtual 100, 3) := by decide +kernel
theorem dX10_change_40 : decode cX10_change 40 = .ok (.aload_n 0, 1) := by decide +kernel
theorem dX10_change_41 : decode cX10_change 41 = .ok (.getfield 10, 3) := by decide +kernel
theorem dX10_change_44 : decode cX10_change 44 = .ok (.iload_n 1, 1) := by decide +kernel
theorem dX10_change_45 : decode cX10_change 45 = .ok (.invokevirtual 70, 3) := by decide +kernel
theorem dX10_change_48 : decode cX10_change 48 = .ok (.iload_n 2, 1) := by decide +kernel
theorem dX10_change_49 : decode cX10_change 49 = .ok (.invokevirtual 116, 3) := by decide +kernel
theorem dX10_change_52 : decode cX10_change 52 = .ok (.istore 4, 2) := by decide +kernel
theorem dX10_change_54 : decode cX10_change 54 = .ok (.aload_n 0, 1) := by decide +kernel
theorem dX10_change_55 : decode cX10_change 55 = .ok (.getfield 10, 3) := by decide +kernel
theorem dX10_change_58 : decode cX10_change 58 = .ok (.iload_n 1, 1) := by decide +kernel
theorem dX10_change_59 : decode cX10_change 59 = .ok (.invokevirtual 70, 3) := by decide +kernel
theorem dX10_change_62 : decode cX10_change 62 = .ok (.iload_n 2, 1) := by decide +kernel
theorem dX10_change_63 : decode cX10_change 63 = .ok (.iload_n 3, 1) := by decide +kernel
theorem dX10_change_64 : decode cX10_change 64 = .ok (.invokevirtual 120, 3) := by decide +kernel
theorem dX10_change_67 : decode cX10_change 67 = .ok (.iload 4, 2) := by decide +kernel
theorem dX10_change_69 : decode cX10_change 69 = .ok (.ireturn, 1) := by decide +kernel
theorem dX10_turn_0 : decode cX10_turn 0 = .ok (.aload_n 0, 1) := by decide +kernel
theorem dX10_turn_1 : decode cX10_turn 1 = .ok (.iload_n 1, 1) := by decide +kernel
theorem dX10_turn_2 : decode cX10_turn 2 = .ok (.iload_n 2, 1) := by decide +kernel
theorem dX10_turn_3 : decode cX10_turn 3 = .ok (.invokevirtual 107, 3) := by decide +kernel
theorem dX10_turn_6 : decode cX10_turn 6 = .ok (.ifCond .eq 12, 3) := by decide +kernel
theorem dX10_turn_9 : decode cX10_turn 9 = .ok (.aload_n 0, 1) := by decide +kernel
theorem dX10_turn_10 : decode cX10_turn 10 = .ok (.iload_n 1, 1) := by decide +kernel
theorem dX10_turn_11 : decode cX10_turn 11 = .ok (.iload_n 3, 1) := by decide +kernel
theorem dX10_turn_12 : decode cX10_turn 12 = .ok (.invokevirtual 107, 3) := by decide +kernel
theorem dX10_turn_15 : decode cX10_turn 15 = .ok (.ifCond .ne 13, 3) := by decide +kernel
theorem dX10_turn_18 : decode cX10_turn 18 = .ok (.new 80, 3) := by decide +kernel
theorem dX10_turn_21 : decode cX10_turn 21 = .ok (.dup, 1) := by decide +kernel
theorem dX10_turn_22 : decode cX10_turn 22 = .ok (.ldc 82, 2) := by decide +kernel
theorem dX10_turn_24 : decode cX10_turn 24 = .ok (.invokespecial 84, 3) := by decide +kernel
theorem dX10_turn_27 : decode cX10_turn 27 = .ok (.athrow, 1) := by decide +kernel
theorem dX10_turn_28 : decode cX10_turn 28 = .ok (.iload_n 3, 1) := by decide +kernel
theorem dX10_turn_29 : decode cX10_turn 29 = .ok (.iload_n 2, 1) := by decide +kernel
theorem dX10_turn_30 : decode cX10_turn 30 = .ok (.if_icmp .ge 13, 3) := by decide +kernel
theorem dX10_turn_33 : decode cX10_turn 33 = .ok (.new 90, 3) := by decide +kernel
theorem dX10_turn_36 : decode cX10_turn 36 = .ok (.dup, 1) := by decide +kernel
theorem dX10_turn_37 : decode cX10_turn 37 = .ok (.ldc 123, 2) := by decide +kernel
theorem dX10_turn_39 : decode cX10_turn 39 = .ok (.invokespecial 94, 3) := by decide +kernel
theorem dX10_turn_42 : decode cX10_turn 42 = .ok (.athrow, 1) := by decide +kernel
theorem dX10_turn_43 : decode cX10_turn 43 = .ok (.aload_n 0, 1) := by decide +kernel
theorem dX10_turn_44 : decode cX10_turn 44 = .ok (.invokevirtual 100, 3) := by decide +kernel
theorem dX10_turn_47 : decode cX10_turn 47 = .ok (.aload_n 0, 1) := by decide +kernel
theorem dX10_turn_48 : decode cX10_turn 48 = .ok (.getfield 10, 3) := by decide +kernel
theorem dX10_turn_51 : decode cX10_turn 51 = .ok (.iload_n 1, 1) := by decide +kernel
theorem dX10_turn_52 : decode cX10_turn 52 = .ok (.invokevirtual 70, 3) := by decide +kernel
theorem dX10_turn_55 : decode cX10_turn 55 = .ok (.iload_n 2, 1) := by decide +kernel
theorem dX10_turn_56 : decode cX10_turn 56 = .ok (.iload_n 3, 1) := by decide +kernel
theorem dX10_turn_57 : decode cX10_turn 57 = .ok (.invokevirtual 125, 3) := by decide +kernel
theorem dX10_turn_60 : decode cX10_turn 60 = .ok (.ireturn, 1) := by decide +kernel
theorem dX10_copy_0 : decode cX10_copy 0 = .ok (.iload 4, 2) := by decide +kernel
theorem dX10_copy_2 : decode cX10_copy 2 = .ok (.invokestatic 66, 3) := by decide +kernel
theorem dX10_copy_5 : decode cX10_copy 5 = .ok (.ifCond .eq 21, 3) := by decide +kernel
theorem dX10_copy_8 : decode cX10_copy 8 = .ok (.aload_n 0, 1) := by decide +kernel
theorem dX10_copy_9 : decode cX10_copy 9 = .ok (.iload_n 1, 1) := by decide +kernel
theorem dX10_copy_10 : decode cX10_copy 10 = .ok (.iload_n 2, 1) := by decide +kernel
theorem dX10_copy_11 : decode cX10_copy 11 = .ok (.invokevirtual 107, 3) := by decide +kernel
theorem dX10_copy_14 : decode cX10_copy 14 = .ok (.ifCond .eq 12, 3) := by decide +kernel
theorem dX10_copy_17 : decode cX10_copy 17 = .ok (.aload_n 0, 1) := by decide +kernel
theorem dX10_copy_18 : decode cX10_copy 18 = .ok (.iload_n 1, 1) := by decide +kernel
theorem dX10_copy_19 : decode cX10_copy 19 = .ok (.iload_n 3, 1) := by decide +kernel
theorem dX10_copy_20 : decode cX10_copy 20 = .ok (.invokevirtual 107, 3) := by decide +kernel
theorem dX10_copy_23 : decode cX10_copy 23 = .ok (.ifCond .ne 13, 3) := by decide +kernel
theorem dX10_copy_26 : decode cX10_copy 26 = .ok (.new 80, 3) := by decide +kernel
theorem dX10_copy_29 : decode cX10_copy 29 = .ok (.dup, 1) := by decide +kernel
theorem dX10_copy_30 : decode cX10_copy 30 = .ok (.ldc 82, 2) := by decide +kernel
theorem dX10_copy_32 : decode cX10_copy 32 = .ok (.invokespecial 84, 3) := by decide +kernel
theorem dX10_copy_35 : decode cX10_copy 35 = .ok (.athrow, 1) := by decide +kernel
theorem dX10_copy_36 : decode cX10_copy 36 = .ok (.iload_n 3, 1) := by decide +kernel
theorem dX10_copy_37 : decode cX10_copy 37 = .ok (.iload_n 2, 1) := by decide +kernel
theorem dX10_copy_38 : decode cX10_copy 38 = .ok (.if_icmp .ge 13, 3) := by decide +kernel
theorem dX10_copy_41 : decode cX10_copy 41 = .ok (.new 90, 3) := by decide +kernel
theorem dX10_copy_44 : decode cX10_copy 44 = .ok (.dup, 1) := by decide +kernel
theorem dX10_copy_45 : decode cX10_copy 45 = .ok (.ldc 123, 2) := by decide +kernel
theorem dX10_copy_47 : decode cX10_copy 47 = .ok (.invokespecial 94, 3) := by decide +kernel
theorem dX10_copy_50 : decode cX10_copy 50 = .ok (.athrow, 1) := by decide +kernel
theorem dX10_copy_51 : decode cX10_copy 51 = .ok (.aload_n 0, 1) := by decide +kernel
theorem dX10_copy_52 : decode cX10_copy 52 = .ok (.getfield 10, 3) := by decide +kernel
theorem dX10_copy_55 : decode cX10_copy 55 = .ok (.iload 4, 2) := by decide +kernel
theorem dX10_copy_57 : decode cX10_copy 57 = .ok (.invokevirtual 70, 3) := by decide +kernel
theorem dX10_copy_60 : decode cX10_copy 60 = .ok (.invokevirtual 74, 3) := by decide +kernel
theorem dX10_copy_63 : decode cX10_copy 63 = .ok (.iload_n 3, 1) := by decide +kernel
theorem dX10_copy_64 : decode cX10_copy 64 = .ok (.iadd, 1) := by decide +kernel
theorem dX10_copy_65 : decode cX10_copy 65 = .ok (.iload_n 2, 1) := by decide +kernel
theorem dX10_copy_66 : decode cX10_copy 66 = .ok (.isub, 1) := by decide +kernel
theorem dX10_copy_67 : decode cX10_copy 67 = .ok (.iconst 1, 1) := by decide +kernel
theorem dX10_copy_68 : decode cX10_copy 68 = .ok (.iadd, 1) := by decide +kernel
theorem dX10_copy_69 : decode cX10_copy 69 = .ok (.bipush 24, 2) := by decide +kernel
theorem dX10_copy_71 : decode cX10_copy 71 = .ok (.if_icmp .le 13, 3) := by decide +kernel
theorem dX10_copy_74 : decode cX10_copy 74 = .ok (.new 95, 3) := by decide +kernel
theorem dX10_copy_77 : decode cX10_copy 77 = .ok (.dup, 1) := by decide +kernel
theorem dX10_copy_78 : decode cX10_copy 78 = .ok (.ldc 129, 2) := by decide +kernel
theorem dX10_copy_80 : decode cX10_copy 80 = .ok (.invokespecial 99, 3) := by decide +kernel
theorem dX10_copy_83 : decode cX10_copy 83 = .ok (.athrow, 1) := by decide +kernel
theorem dX10_copy_84 : decode cX10_copy 84 = .ok (.aload_n 0, 1) := by decide +kernel
theorem dX10_copy_85 : decode cX10_copy 85 = .ok (.invokevirtual 100, 3) := by decide +kernel
theorem dX10_copy_88 : decode cX10_copy 88 = .ok (.iload_n 2, 1) := by decide +kernel
theorem dX10_copy_89 : decode cX10_copy 89 = .ok (.istore 5, 2) := by decide +kernel
theorem dX10_copy_91 : decode cX10_copy 91 = .ok (.iload 5, 2) := by decide +kernel
theorem dX10_copy_93 : decode cX10_copy 93 = .ok (.iload_n 3, 1) := by decide +kernel
theorem dX10_copy_94 : decode cX10_copy 94 = .ok (.if_icmp .gt 34, 3) := by decide +kernel
theorem dX10_copy_97 : decode cX10_copy 97 = .ok (.aload_n 0, 1) := by decide +kernel
theorem dX10_copy_98 : decode cX10_copy 98 = .ok (.getfield 10, 3) := by decide +kernel
theorem dX10_copy_101 : decode cX10_copy 101 = .ok (.iload 4, 2) := by decide +kernel
theorem dX10_copy_103 : decode cX10_copy 103 = .ok (.invokevirtual 70, 3) := by decide +kernel
theorem dX10_copy_106 : decode cX10_copy 106 = .ok (.aload_n 0, 1) := by decide +kernel
theorem dX10_copy_107 : decode cX10_copy 107 = .ok (.getfield 10, 3) := by decide +kernel
theorem dX10_copy_110 : decode cX10_copy 110 = .ok (.iload_n 1, 1) := by decide +kernel
theorem dX10_copy_111 : decode cX10_copy 111 = .ok (.invokevirtual 70, 3) := by decide +kernel
theorem dX10_copy_114 : decode cX10_copy 114 = .ok (.iload 5, 2) := by decide +kernel
theorem dX10_copy_116 : decode cX10_copy 116 = .ok (.invokevirtual 116, 3) := by decide +kernel
theorem dX10_copy_119 : decode cX10_copy 119 = .ok (.invokevirtual 131, 3) := by decide +kernel
theorem dX10_copy_122 : decode cX10_copy 122 = .ok (.iinc 5 1, 3) := by decide +kernel
theorem dX10_copy_125 : decode cX10_copy 125 = .ok (.goto (-34), 3) := by decide +kernel
theorem dX10_copy_128 : decode cX10_copy 128 = .ok (.aload_n 0, 1) := by decide +kernel
theorem dX10_copy_129 : decode cX10_copy 129 = .ok (.getfield 10, 3) := by decide +kernel
theorem dX10_copy_132 : decode cX10_copy 132 = .ok (.iload 4, 2) := by decide +kernel
theorem dX10_copy_134 : decode cX10_copy 134 = .ok (.invokevirtual 70, 3) := by decide +kernel
theorem dX10_copy_137 : decode cX10_copy 137 = .ok (.invokevirtual 74, 3) := by decide +kernel
theorem dX10_copy_140 : decode cX10_copy 140 = .ok (.ireturn, 1) := by decide +kernel
theorem dX10_exchange_0 : decode cX10_exchange 0 = .ok (.aload_n 0, 1) := by decide +kernel
theorem dX10_exchange_1 : decode cX10_exchange 1 = .ok (.invokevirtual 100, 3) := by decide +kernel
theorem dX10_exchange_4 : decode cX10_exchange 4 = .ok (.aload_n 0, 1) := by decide +kernel
theorem dX10_exchange_5 : decode cX10_exchange 5 = .ok (.getfield 10, 3) := by decide +kernel
theorem dX10_exchange_8 : decode cX10_exchange 8 = .ok (.invokevirtual 135, 3) := by decide +kernel
theorem dX10_exchange_11 : decode cX10_exchange 11 = .ok (.aload_n 0, 1) := by decide +kernel
theorem dX10_exchange_12 : decode cX10_exchange 12 = .ok (.invokevirtual 138, 3) := by decide +kernel
theorem dX10_exchange_15 : decode cX10_exchange 15 = .ok (.aload_n 0, 1) := by decide +kernel
theorem dX10_exchange_16 : decode cX10_exchange 16 = .ok (.getfield 49, 3) := by decide +kernel
theorem dX10_exchange_19 : decode cX10_exchange 19 = .ok (.getfield 141, 3) := by decide +kernel
theorem dX10_exchange_22 : decode cX10_exchange 22 = .ok (.getfield 145, 3) := by decide +kernel
theorem dX10_exchange_25 : decode cX10_exchange 25 = .ok (.ireturn, 1) := by decide +kernel
theorem dX10_set_0 : decode cX10_set 0 = .ok (.iload_n 1, 1) := by decide +kernel
theorem dX10_set_1 : decode cX10_set 1 = .ok (.invokestatic 151, 3) := by decide +kernel
theorem dX10_set_4 : decode cX10_set 4 = .ok (.ifCond .ne 13, 3) := by decide +kernel
theorem dX10_set_7 : decode cX10_set 7 = .ok (.new 80, 3) := by decide +kernel
theorem dX10_set_10 : decode cX10_set 10 = .ok (.dup, 1) := by decide +kernel
theorem dX10_set_11 : decode cX10_set 11 = .ok (.ldc 154, 2) := by decide +kernel
theorem dX10_set_13 : decode cX10_set 13 = .ok (.invokespecial 84, 3) := by decide +kernel
theorem dX10_set_16 : decode cX10_set 16 = .ok (.athrow, 1) := by decide +kernel
theorem dX10_set_17 : decode cX10_set 17 = .ok (.iload_n 1, 1) := by decide +kernel
theorem dX10_set_18 : decode cX10_set 18 = .ok (.iload_n 2, 1) := by decide +kernel
theorem dX10_set_19 : decode cX10_set 19 = .ok (.invokestatic 156, 3) := by decide +kernel
theorem dX10_set_22 : decode cX10_set 22 = .ok (.ifCond .ne 13, 3) := by decide +kernel
theorem dX10_set_25 : decode cX10_set 25 = .ok (.new 90, 3) := by decide +kernel
theorem dX10_set_28 : decode cX10_set 28 = .ok (.dup, 1) := by decide +kernel
theorem dX10_set_29 : decode cX10_set 29 = .ok (.ldc 159, 2) := by decide +kernel
theorem dX10_set_31 : decode cX10_set 31 = .ok (.invokespecial 94, 3) := by decide +kernel
theorem dX10_set_34 : decode cX10_set 34 = .ok (.athrow, 1) := by decide +kernel
theorem dX10_set_35 : decode cX10_set 35 = .ok (.aload_n 0, 1) := by decide +kernel
theorem dX10_set_36 : decode cX10_set 36 = .ok (.invokevirtual 100, 3) := by decide +kernel
theorem dX10_set_39 : decode cX10_set 39 = .ok (.aload_n 0, 1) := by decide +kernel
theorem dX10_set_40 : decode cX10_set 40 = .ok (.getfield 10, 3) := by decide +kernel
theorem dX10_set_43 : decode cX10_set 43 = .ok (.getfield 161, 3) := by decide +kernel
theorem dX10_set_46 : decode cX10_set 46 = .ok (.iload_n 1, 1) := by decide +kernel
theorem dX10_set_47 : decode cX10_set 47 = .ok (.invokevirtual 165, 3) := by decide +kernel
theorem dX10_set_50 : decode cX10_set 50 = .ok (.istore_n 3, 1) := by decide +kernel
theorem dX10_set_51 : decode cX10_set 51 = .ok (.aload_n 0, 1) := by decide +kernel
theorem dX10_set_52 : decode cX10_set 52 = .ok (.getfield 10, 3) := by decide +kernel
theorem dX10_set_55 : decode cX10_set 55 = .ok (.getfield 161, 3) := by decide +kernel
theorem dX10_set_58 : decode cX10_set 58 = .ok (.iload_n 1, 1) := by decide +kernel
theorem dX10_set_59 : decode cX10_set 59 = .ok (.iload_n 2, 1) := by decide +kernel
theorem dX10_set_60 : decode cX10_set 60 = .ok (.invokevirtual 170, 3) := by decide +kernel
theorem dX10_set_63 : decode cX10_set 63 = .ok (.iload_n 3, 1) := by decide +kernel
theorem dX10_set_64 : decode cX10_set 64 = .ok (.ireturn, 1) := by decide +kernel
theorem dX10_append_0 : decode cX10_append 0 = .ok (.iload_n 1, 1) := by decide +kernel
theorem dX10_append_1 : decode cX10_append 1 = .ok (.bipush 33, 2) := by decide +kernel
theorem dX10_append_3 : decode cX10_append 3 = .ok (.if_icmp .lt 9, 3) := by decide +kernel
theorem dX10_append_6 : decode cX10_append 6 = .ok (.iload_n 1, 1) := by decide +kernel
theorem dX10_append_7 : decode cX10_append 7 = .ok (.bipush 126, 2) := by decide +kernel
theorem dX10_append_9 : decode cX10_append 9 = .ok (.if_icmp .le 13, 3) := by decide +kernel
theorem dX10_append_12 : decode cX10_append 12 = .ok (.new 90, 3) := by decide +kernel
theorem dX10_append_15 : decode cX10_append 15 = .ok (.dup, 1) := by decide +kernel
theorem dX10_append_16 : decode cX10_append 16 = .ok (.ldc 173, 2) := by decide +kernel
theorem dX10_append_18 : decode cX10_append 18 = .ok (.invokespecial 94, 3) := by decide +kernel
theorem dX10_append_21 : decode cX10_append 21 = .ok (.athrow, 1) := by decide +kernel
theorem dX10_append_22 : decode cX10_append 22 = .ok (.aload_n 0, 1) := by decide +kernel
theorem dX10_append_23 : decode cX10_append 23 = .ok (.getfield 42, 3) := by decide +kernel
theorem dX10_append_26 : decode cX10_append 26 = .ok (.invokevirtual 175, 3) := by decide +kernel
theorem dX10_append_29 : decode cX10_append 29 = .ok (.bipush 60, 2) := by decide +kernel
theorem dX10_append_31 : decode cX10_append 31 = .ok (.if_icmp .lt 13, 3) := by decide +kernel
theorem dX10_append_34 : decode cX10_append 34 = .ok (.new 95, 3) := by decide +kernel
theorem dX10_append_37 : decode cX10_append 37 = .ok (.dup, 1) := by decide +kernel
theorem dX10_append_38 : decode cX10_append 38 = .ok (.ldc 176, 2) := by decide +kernel
theorem dX10_append_40 : decode cX10_append 40 = .ok (.invokespecial 99, 3) := by decide +kernel
theorem dX10_append_43 : decode cX10_append 43 = .ok (.athrow, 1) := by decide +kernel
theorem dX10_append_44 : decode cX10_append 44 = .ok (.aload_n 0, 1) := by decide +kernel
theorem dX10_append_45 : decode cX10_append 45 = .ok (.getfield 42, 3) := by decide +kernel
theorem dX10_append_48 : decode cX10_append 48 = .ok (.iload_n 1, 1) := by decide +kernel
theorem dX10_append_49 : decode cX10_append 49 = .ok (.invokevirtual 178, 3) := by decide +kernel
theorem dX10_append_52 : decode cX10_append 52 = .ok (.aload_n 0, 1) := by decide +kernel
theorem dX10_append_53 : decode cX10_append 53 = .ok (.getfield 42, 3) := by decide +kernel
theorem dX10_append_56 : decode cX10_append 56 = .ok (.invokevirtual 175, 3) := by decide +kernel
theorem dX10_append_59 : decode cX10_append 59 = .ok (.ireturn, 1) := by decide +kernel
theorem dX10_clearBuffer_0 : decode cX10_clearBuffer 0 = .ok (.aload_n 0, 1) := by decide +kernel
theorem dX10_clearBuffer_1 : decode cX10_clearBuffer 1 = .ok (.getfield 42, 3) := by decide +kernel
theorem dX10_clearBuffer_4 : decode cX10_clearBuffer 4 = .ok (.invokevirtual 175, 3) := by decide +kernel
theorem dX10_clearBuffer_7 : decode cX10_clearBuffer 7 = .ok (.istore_n 1, 1) := by decide +kernel
theorem dX10_clearBuffer_8 : decode cX10_clearBuffer 8 = .ok (.aload_n 0, 1) := by decide +kernel
theorem dX10_clearBuffer_9 : decode cX10_clearBuffer 9 = .ok (.getfield 42, 3) := by decide +kernel
theorem dX10_clearBuffer_12 : decode cX10_clearBuffer 12 = .ok (.invokevirtual 181, 3) := by decide +kernel
theorem dX10_clearBuffer_15 : decode cX10_clearBuffer 15 = .ok (.iload_n 1, 1) := by decide +kernel
theorem dX10_clearBuffer_16 : decode cX10_clearBuffer 16 = .ok (.ireturn, 1) := by decide +kernel
theorem dX10_firstError_0 : decode cX10_firstError 0 = .ok (.aload_n 0, 1) := by decide +kernel
theorem dX10_firstError_1 : decode cX10_firstError 1 = .ok (.getfield 42, 3) := by decide +kernel
theorem dX10_firstError_4 : decode cX10_firstError 4 = .ok (.invokevirtual 184, 3) := by decide +kernel
theorem dX10_firstError_7 : decode cX10_firstError 7 = .ok (.ireturn, 1) := by decide +kernel
theorem dX10_read_0 : decode cX10_read 0 = .ok (.aload_n 0, 1) := by decide +kernel
theorem dX10_read_1 : decode cX10_read 1 = .ok (.getfield 42, 3) := by decide +kernel
theorem dX10_read_4 : decode cX10_read 4 = .ok (.invokevirtual 187, 3) := by decide +kernel
theorem dX10_read_7 : decode cX10_read 7 = .ok (.ifCond .ne 13, 3) := by decide +kernel
theorem dX10_read_10 : decode cX10_read 10 = .ok (.new 90, 3) := by decide +kernel
theorem dX10_read_13 : decode cX10_read 13 = .ok (.dup, 1) := by decide +kernel
theorem dX10_read_14 : decode cX10_read 14 = .ok (.ldc 191, 2) := by decide +kernel
theorem dX10_read_16 : decode cX10_read 16 = .ok (.invokespecial 94, 3) := by decide +kernel
theorem dX10_read_19 : decode cX10_read 19 = .ok (.athrow, 1) := by decide +kernel
theorem dX10_read_20 : decode cX10_read 20 = .ok (.aload_n 0, 1) := by decide +kernel
theorem dX10_read_21 : decode cX10_read 21 = .ok (.invokevirtual 100, 3) := by decide +kernel
theorem dX10_read_24 : decode cX10_read 24 = .ok (.aload_n 0, 1) := by decide +kernel
theorem dX10_read_25 : decode cX10_read 25 = .ok (.getfield 42, 3) := by decide +kernel
theorem dX10_read_28 : decode cX10_read 28 = .ok (.aload_n 0, 1) := by decide +kernel
theorem dX10_read_29 : decode cX10_read 29 = .ok (.getfield 10, 3) := by decide +kernel
theorem dX10_read_32 : decode cX10_read 32 = .ok (.invokevirtual 193, 3) := by decide +kernel
theorem dX10_read_35 : decode cX10_read 35 = .ok (.aload_n 0, 1) := by decide +kernel
theorem dX10_read_36 : decode cX10_read 36 = .ok (.getfield 42, 3) := by decide +kernel
theorem dX10_read_39 : decode cX10_read 39 = .ok (.invokevirtual 181, 3) := by decide +kernel
theorem dX10_read_42 : decode cX10_read 42 = .ok (.aload_n 0, 1) := by decide +kernel
theorem dX10_read_43 : decode cX10_read 43 = .ok (.invokevirtual 138, 3) := by decide +kernel
theorem dX10_read_46 : decode cX10_read 46 = .ok (.aload_n 0, 1) := by decide +kernel
theorem dX10_read_47 : decode cX10_read 47 = .ok (.getfield 49, 3) := by decide +kernel
theorem dX10_read_50 : decode cX10_read 50 = .ok (.getfield 141, 3) := by decide +kernel
theorem dX10_read_53 : decode cX10_read 53 = .ok (.getfield 145, 3) := by decide +kernel
theorem dX10_read_56 : decode cX10_read 56 = .ok (.ireturn, 1) := by decide +kernel
theorem dX10_keep_0 : decode cX10_keep 0 = .ok (.iload_n 1, 1) := by decide +kernel
theorem dX10_keep_1 : decode cX10_keep 1 = .ok (.invokestatic 197, 3) := by decide +kernel
theorem dX10_keep_4 : decode cX10_keep 4 = .ok (.ifCond .ne 13, 3) := by decide +kernel
theorem dX10_keep_7 : decode cX10_keep 7 = .ok (.new 80, 3) := by decide +kernel
theorem dX10_keep_10 : decode cX10_keep 10 = .ok (.dup, 1) := by decide +kernel
theorem dX10_keep_11 : decode cX10_keep 11 = .ok (.ldc 200, 2) := by decide +kernel
theorem dX10_keep_13 : decode cX10_keep 13 = .ok (.invokespecial 84, 3) := by decide +kernel
theorem dX10_keep_16 : decode cX10_keep 16 = .ok (.athrow, 1) := by decide +kernel
theorem dX10_keep_17 : decode cX10_keep 17 = .ok (.aload_n 0, 1) := by decide +kernel
theorem dX10_keep_18 : decode cX10_keep 18 = .ok (.iload_n 1, 1) := by decide +kernel
theorem dX10_keep_19 : decode cX10_keep 19 = .ok (.invokevirtual 202, 3) := by decide +kernel
theorem dX10_keep_22 : decode cX10_keep 22 = .ok (.aload_n 0, 1) := by decide +kernel
theorem dX10_keep_23 : decode cX10_keep 23 = .ok (.getfield 10, 3) := by decide +kernel
theorem dX10_keep_26 : decode cX10_keep 26 = .ok (.invokevirtual 206, 3) := by decide +kernel
theorem dX10_keep_29 : decode cX10_keep 29 = .ok (.aload_n 0, 1) := by decide +kernel
theorem dX10_keep_30 : decode cX10_keep 30 = .ok (.aload_n 0, 1) := by decide +kernel
theorem dX10_keep_31 : decode cX10_keep 31 = .ok (.getfield 25, 3) := by decide +kernel
theorem dX10_keep_34 : decode cX10_keep 34 = .ok (.ifCond .ne 7, 3) := by decide +kernel
theorem dX10_keep_37 : decode cX10_keep 37 = .ok (.iload_n 1, 1) := by decide +kernel
theorem dX10_keep_38 : decode cX10_keep 38 = .ok (.ifCond .ne 7, 3) := by decide +kernel
theorem dX10_keep_41 : decode cX10_keep 41 = .ok (.iconst 1, 1) := by decide +kernel
theorem dX10_keep_42 : decode cX10_keep 42 = .ok (.goto 4, 3) := by decide +kernel
theorem dX10_keep_45 : decode cX10_keep 45 = .ok (.iconst 0, 1) := by decide +kernel
theorem dX10_keep_46 : decode cX10_keep 46 = .ok (.putfield 25, 3) := by decide +kernel
theorem dX10_keep_49 : decode cX10_keep 49 = .ok (.aload_n 0, 1) := by decide +kernel
theorem dX10_keep_50 : decode cX10_keep 50 = .ok (.aload_n 0, 1) := by decide +kernel
theorem dX10_keep_51 : decode cX10_keep 51 = .ok (.getfield 29, 3) := by decide +kernel
theorem dX10_keep_54 : decode cX10_keep 54 = .ok (.ifCond .ne 8, 3) := by decide +kernel
theorem dX10_keep_57 : decode cX10_keep 57 = .ok (.iload_n 1, 1) := by decide +kernel
theorem dX10_keep_58 : decode cX10_keep 58 = .ok (.iconst 1, 1) := by decide +kernel
theorem dX10_keep_59 : decode cX10_keep 59 = .ok (.if_icmp .ne 7, 3) := by decide +kernel
theorem dX10_keep_62 : decode cX10_keep 62 = .ok (.iconst 1, 1) := by decide +kernel
theorem dX10_keep_63 : decode cX10_keep 63 = .ok (.goto 4, 3) := by decide +kernel
theorem dX10_keep_66 : decode cX10_keep 66 = .ok (.iconst 0, 1) := by decide +kernel
theorem dX10_keep_67 : decode cX10_keep 67 = .ok (.putfield 29, 3) := by decide +kernel
theorem dX10_keep_70 : decode cX10_keep 70 = .ok (.aload_n 0, 1) := by decide +kernel
theorem dX10_keep_71 : decode cX10_keep 71 = .ok (.getfield 10, 3) := by decide +kernel
theorem dX10_keep_74 : decode cX10_keep 74 = .ok (.invokevirtual 209, 3) := by decide +kernel
theorem dX10_keep_77 : decode cX10_keep 77 = .ok (.ireturn, 1) := by decide +kernel
theorem dX10_restore_0 : decode cX10_restore 0 = .ok (.iload_n 1, 1) := by decide +kernel
theorem dX10_restore_1 : decode cX10_restore 1 = .ok (.invokestatic 197, 3) := by decide +kernel
theorem dX10_restore_4 : decode cX10_restore 4 = .ok (.ifCond .ne 13, 3) := by decide +kernel
theorem dX10_restore_7 : decode cX10_restore 7 = .ok (.new 80, 3) := by decide +kernel
theorem dX10_restore_10 : decode cX10_restore 10 = .ok (.dup, 1) := by decide +kernel
theorem dX10_restore_11 : decode cX10_restore 11 = .ok (.ldc 200, 2) := by decide +kernel
theorem dX10_restore_13 : decode cX10_restore 13 = .ok (.invokespecial 84, 3) := by decide +kernel
theorem dX10_restore_16 : decode cX10_restore 16 = .ok (.athrow, 1) := by decide +kernel
theorem dX10_restore_17 : decode cX10_restore 17 = .ok (.iload_n 1, 1) := by decide +kernel
theorem dX10_restore_18 : decode cX10_restore 18 = .ok (.ifCond .ne 13, 3) := by decide +kernel
theorem dX10_restore_21 : decode cX10_restore 21 = .ok (.aload_n 0, 1) := by decide +kernel
theorem dX10_restore_22 : decode cX10_restore 22 = .ok (.getfield 25, 3) := by decide +kernel
theorem dX10_restore_25 : decode cX10_restore 25 = .ok (.ifCond .eq 13, 3) := by decide +kernel
theorem dX10_restore_28 : decode cX10_restore 28 = .ok (.goto 20, 3) := by decide +kernel
theorem dX10_restore_31 : decode cX10_restore 31 = .ok (.aload_n 0, 1) := by decide +kernel
theorem dX10_restore_32 : decode cX10_restore 32 = .ok (.getfield 29, 3) := by decide +kernel
theorem dX10_restore_35 : decode cX10_restore 35 = .ok (.ifCond .ne 13, 3) := by decide +kernel
theorem dX10_restore_38 : decode cX10_restore 38 = .ok (.new 95, 3) := by decide +kernel
theorem dX10_restore_41 : decode cX10_restore 41 = .ok (.dup, 1) := by decide +kernel
theorem dX10_restore_42 : decode cX10_restore 42 = .ok (.ldc 212, 2) := by decide +kernel
theorem dX10_restore_44 : decode cX10_restore 44 = .ok (.invokespecial 99, 3) := by decide +kernel
theorem dX10_restore_47 : decode cX10_restore 47 = .ok (.athrow, 1) := by decide +kernel
theorem dX10_restore_48 : decode cX10_restore 48 = .ok (.aload_n 0, 1) := by decide +kernel
theorem dX10_restore_49 : decode cX10_restore 49 = .ok (.invokevirtual 100, 3) := by decide +kernel
theorem dX10_restore_52 : decode cX10_restore 52 = .ok (.aload_n 0, 1) := by decide +kernel
theorem dX10_restore_53 : decode cX10_restore 53 = .ok (.getfield 10, 3) := by decide +kernel
theorem dX10_restore_56 : decode cX10_restore 56 = .ok (.aload_n 0, 1) := by decide +kernel
theorem dX10_restore_57 : decode cX10_restore 57 = .ok (.iload_n 1, 1) := by decide +kernel
theorem dX10_restore_58 : decode cX10_restore 58 = .ok (.invokevirtual 202, 3) := by decide +kernel
theorem dX10_restore_61 : decode cX10_restore 61 = .ok (.invokevirtual 206, 3) := by decide +kernel
theorem dX10_restore_64 : decode cX10_restore 64 = .ok (.aload_n 0, 1) := by decide +kernel
theorem dX10_restore_65 : decode cX10_restore 65 = .ok (.getfield 10, 3) := by decide +kernel
theorem dX10_restore_68 : decode cX10_restore 68 = .ok (.invokevirtual 209, 3) := by decide +kernel
theorem dX10_restore_71 : decode cX10_restore 71 = .ok (.ireturn, 1) := by decide +kernel
theorem dX10_undo_0 : decode cX10_undo 0 = .ok (.aload_n 0, 1) := by decide +kernel
theorem dX10_undo_1 : decode cX10_undo 1 = .ok (.getfield 35, 3) := by decide +kernel
theorem dX10_undo_4 : decode cX10_undo 4 = .ok (.invokevirtual 214, 3) := by decide +kernel
theorem dX10_undo_7 : decode cX10_undo 7 = .ok (.ifCond .ne 13, 3) := by decide +kernel
theorem dX10_undo_10 : decode cX10_undo 10 = .ok (.new 95, 3) := by decide +kernel
theorem dX10_undo_13 : decode cX10_undo 13 = .ok (.dup, 1) := by decide +kernel
theorem dX10_undo_14 : decode cX10_undo 14 = .ok (.ldc 215, 2) := by decide +kernel
theorem dX10_undo_16 : decode cX10_undo 16 = .ok (.invokespecial 99, 3) := by decide +kernel
theorem dX10_undo_19 : decode cX10_undo 19 = .ok (.athrow, 1) := by decide +kernel
theorem dX10_undo_20 : decode cX10_undo 20 = .ok (.aload_n 0, 1) := by decide +kernel
theorem dX10_undo_21 : decode cX10_undo 21 = .ok (.getfield 35, 3) := by decide +kernel
theorem dX10_undo_24 : decode cX10_undo 24 = .ok (.aload_n 0, 1) := by decide +kernel
theorem dX10_undo_25 : decode cX10_undo 25 = .ok (.getfield 10, 3) := by decide +kernel
theorem dX10_undo_28 : decode cX10_undo 28 = .ok (.invokevirtual 217, 3) := by decide +kernel
theorem dX10_undo_31 : decode cX10_undo 31 = .ok (.aload_n 0, 1) := by decide +kernel
theorem dX10_undo_32 : decode cX10_undo 32 = .ok (.iconst 1, 1) := by decide +kernel
theorem dX10_undo_33 : decode cX10_undo 33 = .ok (.putfield 63, 3) := by decide +kernel
theorem dX10_undo_36 : decode cX10_undo 36 = .ok (.aload_n 0, 1) := by decide +kernel
theorem dX10_undo_37 : decode cX10_undo 37 = .ok (.getfield 35, 3) := by decide +kernel
theorem dX10_undo_40 : decode cX10_undo 40 = .ok (.invokevirtual 214, 3) := by decide +kernel
theorem dX10_undo_43 : decode cX10_undo 43 = .ok (.ireturn, 1) := by decide +kernel
theorem dX10_sign_0 : decode cX10_sign 0 = .ok (.aload_n 0, 1) := by decide +kernel
theorem dX10_sign_1 : decode cX10_sign 1 = .ok (.iload_n 1, 1) := by decide +kernel
theorem dX10_sign_2 : decode cX10_sign 2 = .ok (.iload_n 2, 1) := by decide +kernel
theorem dX10_sign_3 : decode cX10_sign 3 = .ok (.invokevirtual 107, 3) := by decide +kernel
theorem dX10_sign_6 : decode cX10_sign 6 = .ok (.ifCond .ne 13, 3) := by decide +kernel
theorem dX10_sign_9 : decode cX10_sign 9 = .ok (.new 80, 3) := by decide +kernel
theorem dX10_sign_12 : decode cX10_sign 12 = .ok (.dup, 1) := by decide +kernel
theorem dX10_sign_13 : decode cX10_sign 13 = .ok (.ldc 82, 2) := by decide +kernel
theorem dX10_sign_15 : decode cX10_sign 15 = .ok (.invokespecial 84, 3) := by decide +kernel
theorem dX10_sign_18 : decode cX10_sign 18 = .ok (.athrow, 1) := by decide +kernel
theorem dX10_sign_19 : decode cX10_sign 19 = .ok (.aload_n 0, 1) := by decide +kernel
theorem dX10_sign_20 : decode cX10_sign 20 = .ok (.getfield 10, 3) := by decide +kernel
theorem dX10_sign_23 : decode cX10_sign 23 = .ok (.iload_n 1, 1) := by decide +kernel
theorem dX10_sign_24 : decode cX10_sign 24 = .ok (.invokevirtual 70, 3) := by decide +kernel
theorem dX10_sign_27 : decode cX10_sign 27 = .ok (.iload_n 2, 1) := by decide +kernel
theorem dX10_sign_28 : decode cX10_sign 28 = .ok (.invokevirtual 116, 3) := by decide +kernel
theorem dX10_sign_31 : decode cX10_sign 31 = .ok (.ireturn, 1) := by decide +kernel
theorem dX10_anchor_0 : decode cX10_anchor 0 = .ok (.aload_n 0, 1) := by decide +kernel
theorem dX10_anchor_1 : decode cX10_anchor 1 = .ok (.invokevirtual 138, 3) := by decide +kernel
theorem dX10_anchor_4 : decode cX10_anchor 4 = .ok (.iload_n 1, 1) := by decide +kernel
theorem dX10_anchor_5 : decode cX10_anchor 5 = .ok (.ifCond .lt 17, 3) := by decide +kernel
theorem dX10_anchor_8 : decode cX10_anchor 8 = .ok (.iload_n 1, 1) := by decide +kernel
theorem dX10_anchor_9 : decode cX10_anchor 9 = .ok (.aload_n 0, 1) := by decide +kernel
theorem dX10_anchor_10 : decode cX10_anchor 10 = .ok (.getfield 49, 3) := by decide +kernel
theorem dX10_anchor_13 : decode cX10_anchor 13 = .ok (.getfield 141, 3) := by decide +kernel
theorem dX10_anchor_16 : decode cX10_anchor 16 = .ok (.getfield 145, 3) := by decide +kernel
theorem dX10_anchor_19 : decode cX10_anchor 19 = .ok (.if_icmp .lt 13, 3) := by decide +kernel
theorem dX10_anchor_22 : decode cX10_anchor 22 = .ok (.new 80, 3) := by decide +kernel
theorem dX10_anchor_25 : decode cX10_anchor 25 = .ok (.dup, 1) := by decide +kernel
theorem dX10_anchor_26 : decode cX10_anchor 26 = .ok (.ldc 220, 2) := by decide +kernel
theorem dX10_anchor_28 : decode cX10_anchor 28 = .ok (.invokespecial 84, 3) := by decide +kernel
theorem dX10_anchor_31 : decode cX10_anchor 31 = .ok (.athrow, 1) := by decide +kernel
theorem dX10_anchor_32 : decode cX10_anchor 32 = .ok (.iload_n 2, 1) := by decide +kernel
theorem dX10_anchor_33 : decode cX10_anchor 33 = .ok (.ifCond .lt 8, 3) := by decide +kernel
theorem dX10_anchor_36 : decode cX10_anchor 36 = .ok (.iload_n 2, 1) := by decide +kernel
theorem dX10_anchor_37 : decode cX10_anchor 37 = .ok (.iconst 4, 1) := by decide +kernel
theorem dX10_anchor_38 : decode cX10_anchor 38 = .ok (.if_icmp .lt 13, 3) := by decide +kernel
theorem dX10_anchor_41 : decode cX10_anchor 41 = .ok (.new 90, 3) := by decide +kernel
theorem dX10_anchor_44 : decode cX10_anchor 44 = .ok (.dup, 1) := by decide +kernel
theorem dX10_anchor_45 : decode cX10_anchor 45 = .ok (.ldc 222, 2) := by decide +kernel
theorem dX10_anchor_47 : decode cX10_anchor 47 = .ok (.invokespecial 94, 3) := by decide +kernel
theorem dX10_anchor_50 : decode cX10_anchor 50 = .ok (.athrow, 1) := by decide +kernel
theorem dX10_anchor_51 : decode cX10_anchor 51 = .ok (.aload_n 0, 1) := by decide +kernel
theorem dX10_anchor_52 : decode cX10_anchor 52 = .ok (.getfield 49, 3) := by decide +kernel
theorem dX10_anchor_55 : decode cX10_anchor 55 = .ok (.iload_n 1, 1) := by decide +kernel
theorem dX10_anchor_56 : decode cX10_anchor 56 = .ok (.iload_n 2, 1) := by decide +kernel
theorem dX10_anchor_57 : decode cX10_anchor 57 = .ok (.invokevirtual 224, 3) := by decide +kernel
theorem dX10_anchor_60 : decode cX10_anchor 60 = .ok (.ireturn, 1) := by decide +kernel
theorem dX10_turned_0 : decode cX10_turned 0 = .ok (.aload_n 0, 1) := by decide +kernel
theorem dX10_turned_1 : decode cX10_turned 1 = .ok (.invokevirtual 138, 3) := by decide +kernel
theorem dX10_turned_4 : decode cX10_turned 4 = .ok (.iload_n 1, 1) := by decide +kernel
theorem dX10_turned_5 : decode cX10_turned 5 = .ok (.ifCond .lt 17, 3) := by decide +kernel
theorem dX10_turned_8 : decode cX10_turned 8 = .ok (.iload_n 1, 1) := by decide +kernel
theorem dX10_turned_9 : decode cX10_turned 9 = .ok (.aload_n 0, 1) := by decide +kernel
theorem dX10_turned_10 : decode cX10_turned 10 = .ok (.getfield 59, 3) := by decide +kernel
theorem dX10_turned_13 : decode cX10_turned 13 = .ok (.getfield 227, 3) := by decide +kernel
theorem dX10_turned_16 : decode cX10_turned 16 = .ok (.getfield 145, 3) := by decide +kernel
theorem dX10_turned_19 : decode cX10_turned 19 = .ok (.if_icmp .lt 13, 3) := by decide +kernel
theorem dX10_turned_22 : decode cX10_turned 22 = .ok (.new 80, 3) := by decide +kernel
theorem dX10_turned_25 : decode cX10_turned 25 = .ok (.dup, 1) := by decide +kernel
theorem dX10_turned_26 : decode cX10_turned 26 = .ok (.ldc 228, 2) := by decide +kernel
theorem dX10_turned_28 : decode cX10_turned 28 = .ok (.invokespecial 84, 3) := by decide +kernel
theorem dX10_turned_31 : decode cX10_turned 31 = .ok (.athrow, 1) := by decide +kernel
theorem dX10_turned_32 : decode cX10_turned 32 = .ok (.iload_n 2, 1) := by decide +kernel
theorem dX10_turned_33 : decode cX10_turned 33 = .ok (.ifCond .lt 8, 3) := by decide +kernel
theorem dX10_turned_36 : decode cX10_turned 36 = .ok (.iload_n 2, 1) := by decide +kernel
theorem dX10_turned_37 : decode cX10_turned 37 = .ok (.iconst 3, 1) := by decide +kernel
theorem dX10_turned_38 : decode cX10_turned 38 = .ok (.if_icmp .lt 13, 3) := by decide +kernel
theorem dX10_turned_41 : decode cX10_turned 41 = .ok (.new 90, 3) := by decide +kernel
theorem dX10_turned_44 : decode cX10_turned 44 = .ok (.dup, 1) := by decide +kernel
theorem dX10_turned_45 : decode cX10_turned 45 = .ok (.ldc 222, 2) := by decide +kernel
theorem dX10_turned_47 : decode cX10_turned 47 = .ok (.invokespecial 94, 3) := by decide +kernel
theorem dX10_turned_50 : decode cX10_turned 50 = .ok (.athrow, 1) := by decide +kernel
theorem dX10_turned_51 : decode cX10_turned 51 = .ok (.aload_n 0, 1) := by decide +kernel
theorem dX10_turned_52 : decode cX10_turned 52 = .ok (.getfield 59, 3) := by decide +kernel
theorem dX10_turned_55 : decode cX10_turned 55 = .ok (.iload_n 1, 1) := by decide +kernel
theorem dX10_turned_56 : decode cX10_turned 56 = .ok (.iload_n 2, 1) := by decide +kernel
theorem dX10_turned_57 : decode cX10_turned 57 = .ok (.invokevirtual 230, 3) := by decide +kernel
theorem dX10_turned_60 : decode cX10_turned 60 = .ok (.ireturn, 1) := by decide +kernel
theorem dX10_gap_0 : decode cX10_gap 0 = .ok (.iload_n 1, 1) := by decide +kernel
theorem dX10_gap_1 : decode cX10_gap 1 = .ok (.ifCond .ge 13, 3) := by decide +kernel
theorem dX10_gap_4 : decode cX10_gap 4 = .ok (.new 90, 3) := by decide +kernel
theorem dX10_gap_7 : decode cX10_gap 7 = .ok (.dup, 1) := by decide +kernel
theorem dX10_gap_8 : decode cX10_gap 8 = .ok (.ldc 233, 2) := by decide +kernel
theorem dX10_gap_10 : decode cX10_gap 10 = .ok (.invokespecial 94, 3) := by decide +kernel
theorem dX10_gap_13 : decode cX10_gap 13 = .ok (.athrow, 1) := by decide +kernel
theorem dX10_gap_14 : decode cX10_gap 14 = .ok (.iload_n 2, 1) := by decide +kernel
theorem dX10_gap_15 : decode cX10_gap 15 = .ok (.ifCond .lt 8, 3) := by decide +kernel
theorem dX10_gap_18 : decode cX10_gap 18 = .ok (.iload_n 2, 1) := by decide +kernel
theorem dX10_gap_19 : decode cX10_gap 19 = .ok (.iconst 5, 1) := by decide +kernel
theorem dX10_gap_20 : decode cX10_gap 20 = .ok (.if_icmp .lt 13, 3) := by decide +kernel
theorem dX10_gap_23 : decode cX10_gap 23 = .ok (.new 90, 3) := by decide +kernel
theorem dX10_gap_26 : decode cX10_gap 26 = .ok (.dup, 1) := by decide +kernel
theorem dX10_gap_27 : decode cX10_gap 27 = .ok (.ldc 222, 2) := by decide +kernel
theorem dX10_gap_29 : decode cX10_gap 29 = .ok (.invokespecial 94, 3) := by decide +kernel
theorem dX10_gap_32 : decode cX10_gap 32 = .ok (.athrow, 1) := by decide +kernel
theorem dX10_gap_33 : decode cX10_gap 33 = .ok (.aload_n 0, 1) := by decide +kernel
theorem dX10_gap_34 : decode cX10_gap 34 = .ok (.invokevirtual 138, 3) := by decide +kernel
theorem dX10_gap_37 : decode cX10_gap 37 = .ok (.aload_n 0, 1) := by decide +kernel
theorem dX10_gap_38 : decode cX10_gap 38 = .ok (.getfield 49, 3) := by decide +kernel
theorem dX10_gap_41 : decode cX10_gap 41 = .ok (.iload_n 1, 1) := by decide +kernel
theorem dX10_gap_42 : decode cX10_gap 42 = .ok (.iload_n 2, 1) := by decide +kernel
theorem dX10_gap_43 : decode cX10_gap 43 = .ok (.invokevirtual 235, 3) := by decide +kernel
theorem dX10_gap_46 : decode cX10_gap 46 = .ok (.ireturn, 1) := by decide +kernel
theorem dX10_partner_0 : decode cX10_partner 0 = .ok (.aload_n 0, 1) := by decide +kernel
theorem dX10_partner_1 : decode cX10_partner 1 = .ok (.iload_n 1, 1) := by decide +kernel
theorem dX10_partner_2 : decode cX10_partner 2 = .ok (.iload_n 2, 1) := by decide +kernel
theorem dX10_partner_3 : decode cX10_partner 3 = .ok (.invokevirtual 107, 3) := by decide +kernel
theorem dX10_partner_6 : decode cX10_partner 6 = .ok (.ifCond .ne 13, 3) := by decide +kernel
theorem dX10_partner_9 : decode cX10_partner 9 = .ok (.new 80, 3) := by decide +kernel
theorem dX10_partner_12 : decode cX10_partner 12 = .ok (.dup, 1) := by decide +kernel
theorem dX10_partner_13 : decode cX10_partner 13 = .ok (.ldc 82, 2) := by decide +kernel
theorem dX10_partner_15 : decode cX10_partner 15 = .ok (.invokespecial 84, 3) := by decide +kernel
theorem dX10_partner_18 : decode cX10_partner 18 = .ok (.athrow, 1) := by decide +kernel
theorem dX10_partner_19 : decode cX10_partner 19 = .ok (.aload_n 0, 1) := by decide +kernel
theorem dX10_partner_20 : decode cX10_partner 20 = .ok (.invokevirtual 138, 3) := by decide +kernel
theorem dX10_partner_23 : decode cX10_partner 23 = .ok (.aload_n 0, 1) := by decide +kernel
theorem dX10_partner_24 : decode cX10_partner 24 = .ok (.getfield 49, 3) := by decide +kernel
theorem dX10_partner_27 : decode cX10_partner 27 = .ok (.iload_n 1, 1) := by decide +kernel
theorem dX10_partner_28 : decode cX10_partner 28 = .ok (.invokevirtual 238, 3) := by decide +kernel
theorem dX10_partner_31 : decode cX10_partner 31 = .ok (.iload_n 2, 1) := by decide +kernel
theorem dX10_partner_32 : decode cX10_partner 32 = .ok (.invokevirtual 165, 3) := by decide +kernel
theorem dX10_partner_35 : decode cX10_partner 35 = .ok (.ireturn, 1) := by decide +kernel
theorem dX10_doubled_0 : decode cX10_doubled 0 = .ok (.iload_n 1, 1) := by decide +kernel
theorem dX10_doubled_1 : decode cX10_doubled 1 = .ok (.invokestatic 66, 3) := by decide +kernel
theorem dX10_doubled_4 : decode cX10_doubled 4 = .ok (.ifCond .ne 13, 3) := by decide +kernel
theorem dX10_doubled_7 : decode cX10_doubled 7 = .ok (.new 80, 3) := by decide +kernel
theorem dX10_doubled_10 : decode cX10_doubled 10 = .ok (.dup, 1) := by decide +kernel
theorem dX10_doubled_11 : decode cX10_doubled 11 = .ok (.ldc 242, 2) := by decide +kernel
theorem dX10_doubled_13 : decode cX10_doubled 13 = .ok (.invokespecial 84, 3) := by decide +kernel
theorem dX10_doubled_16 : decode cX10_doubled 16 = .ok (.athrow, 1) := by decide +kernel
theorem dX10_doubled_17 : decode cX10_doubled 17 = .ok (.iload_n 2, 1) := by decide +kernel
theorem dX10_doubled_18 : decode cX10_doubled 18 = .ok (.ifCond .lt 8, 3) := by decide +kernel
theorem dX10_doubled_21 : decode cX10_doubled 21 = .ok (.iload_n 2, 1) := by decide +kernel
theorem dX10_doubled_22 : decode cX10_doubled 22 = .ok (.iconst 3, 1) := by decide +kernel
theorem dX10_doubled_23 : decode cX10_doubled 23 = .ok (.if_icmp .lt 13, 3) := by decide +kernel
theorem dX10_doubled_26 : decode cX10_doubled 26 = .ok (.new 90, 3) := by decide +kernel
theorem dX10_doubled_29 : decode cX10_doubled 29 = .ok (.dup, 1) := by decide +kernel
theorem dX10_doubled_30 : decode cX10_doubled 30 = .ok (.ldc 222, 2) := by decide +kernel
theorem dX10_doubled_32 : decode cX10_doubled 32 = .ok (.invokespecial 94, 3) := by decide +kernel
theorem dX10_doubled_35 : decode cX10_doubled 35 = .ok (.athrow, 1) := by decide +kernel
theorem dX10_doubled_36 : decode cX10_doubled 36 = .ok (.aload_n 0, 1) := by decide +kernel
theorem dX10_doubled_37 : decode cX10_doubled 37 = .ok (.getfield 10, 3) := by decide +kernel
theorem dX10_doubled_40 : decode cX10_doubled 40 = .ok (.iload_n 1, 1) := by decide +kernel
theorem dX10_doubled_41 : decode cX10_doubled 41 = .ok (.invokevirtual 70, 3) := by decide +kernel
theorem dX10_doubled_44 : decode cX10_doubled 44 = .ok (.iload_n 2, 1) := by decide +kernel
theorem dX10_doubled_45 : decode cX10_doubled 45 = .ok (.invokevirtual 244, 3) := by decide +kernel
theorem dX10_doubled_48 : decode cX10_doubled 48 = .ok (.ireturn, 1) := by decide +kernel
theorem dX10_count_0 : decode cX10_count 0 = .ok (.iload_n 1, 1) := by decide +kernel
theorem dX10_count_1 : decode cX10_count 1 = .ok (.ifCond .lt 9, 3) := by decide +kernel
theorem dX10_count_4 : decode cX10_count 4 = .ok (.iload_n 1, 1) := by decide +kernel
theorem dX10_count_5 : decode cX10_count 5 = .ok (.bipush 15, 2) := by decide +kernel
theorem dX10_count_7 : decode cX10_count 7 = .ok (.if_icmp .lt 13, 3) := by decide +kernel
theorem dX10_count_10 : decode cX10_count 10 = .ok (.new 90, 3) := by decide +kernel
theorem dX10_count_13 : decode cX10_count 13 = .ok (.dup, 1) := by decide +kernel
theorem dX10_count_14 : decode cX10_count 14 = .ok (.ldc 247, 2) := by decide +kernel
theorem dX10_count_16 : decode cX10_count 16 = .ok (.invokespecial 94, 3) := by decide +kernel
theorem dX10_count_19 : decode cX10_count 19 = .ok (.athrow, 1) := by decide +kernel
theorem dX10_count_20 : decode cX10_count 20 = .ok (.aload_n 0, 1) := by decide +kernel
theorem dX10_count_21 : decode cX10_count 21 = .ok (.invokevirtual 138, 3) := by decide +kernel
theorem dX10_count_24 : decode cX10_count 24 = .ok (.aload_n 0, 1) := by decide +kernel
theorem dX10_count_25 : decode cX10_count 25 = .ok (.iload_n 1, 1) := by decide +kernel
theorem dX10_count_26 : decode cX10_count 26 = .ok (.invokevirtual 249, 3) := by decide +kernel
theorem dX10_count_29 : decode cX10_count 29 = .ok (.ireturn, 1) := by decide +kernel
theorem dX10_setting_0 : decode cX10_setting 0 = .ok (.iload_n 1, 1) := by decide +kernel
theorem dX10_setting_1 : decode cX10_setting 1 = .ok (.invokestatic 151, 3) := by decide +kernel
theorem dX10_setting_4 : decode cX10_setting 4 = .ok (.ifCond .ne 13, 3) := by decide +kernel
theorem dX10_setting_7 : decode cX10_setting 7 = .ok (.new 80, 3) := by decide +kernel
theorem dX10_setting_10 : decode cX10_setting 10 = .ok (.dup, 1) := by decide +kernel
theorem dX10_setting_11 : decode cX10_setting 11 = .ok (.ldc 154, 2) := by decide +kernel
theorem dX10_setting_13 : decode cX10_setting 13 = .ok (.invokespecial 84, 3) := by decide +kernel
theorem dX10_setting_16 : decode cX10_setting 16 = .ok (.athrow, 1) := by decide +kernel
theorem dX10_setting_17 : decode cX10_setting 17 = .ok (.aload_n 0, 1) := by decide +kernel
theorem dX10_setting_18 : decode cX10_setting 18 = .ok (.getfield 10, 3) := by decide +kernel
theorem dX10_setting_21 : decode cX10_setting 21 = .ok (.getfield 161, 3) := by decide +kernel
theorem dX10_setting_24 : decode cX10_setting 24 = .ok (.iload_n 1, 1) := by decide +kernel
theorem dX10_setting_25 : decode cX10_setting 25 = .ok (.invokevirtual 165, 3) := by decide +kernel
theorem dX10_setting_28 : decode cX10_setting 28 = .ok (.ireturn, 1) := by decide +kernel
theorem dX10_ifSet_0 : decode cX10_ifSet 0 = .ok (.iload_n 1, 1) := by decide +kernel
theorem dX10_ifSet_1 : decode cX10_ifSet 1 = .ok (.invokestatic 151, 3) := by decide +kernel
theorem dX10_ifSet_4 : decode cX10_ifSet 4 = .ok (.ifCond .ne 13, 3) := by decide +kernel
theorem dX10_ifSet_7 : decode cX10_ifSet 7 = .ok (.new 80, 3) := by decide +kernel
theorem dX10_ifSet_10 : decode cX10_ifSet 10 = .ok (.dup, 1) := by decide +kernel
theorem dX10_ifSet_11 : decode cX10_ifSet 11 = .ok (.ldc 154, 2) := by decide +kernel
theorem dX10_ifSet_13 : decode cX10_ifSet 13 = .ok (.invokespecial 84, 3) := by decide +kernel
theorem dX10_ifSet_16 : decode cX10_ifSet 16 = .ok (.athrow, 1) := by decide +kernel
theorem dX10_ifSet_17 : decode cX10_ifSet 17 = .ok (.iload_n 1, 1) := by decide +kernel
theorem dX10_ifSet_18 : decode cX10_ifSet 18 = .ok (.iload_n 2, 1) := by decide +kernel
theorem dX10_ifSet_19 : decode cX10_ifSet 19 = .ok (.invokestatic 156, 3) := by decide +kernel
theorem dX10_ifSet_22 : decode cX10_ifSet 22 = .ok (.ifCond .ne 13, 3) := by decide +kernel
theorem dX10_ifSet_25 : decode cX10_ifSet 25 = .ok (.new 90, 3) := by decide +kernel
theorem dX10_ifSet_28 : decode cX10_ifSet 28 = .ok (.dup, 1) := by decide +kernel
theorem dX10_ifSet_29 : decode cX10_ifSet 29 = .ok (.ldc 159, 2) := by decide +kernel
theorem dX10_ifSet_31 : decode cX10_ifSet 31 = .ok (.invokespecial 94, 3) := by decide +kernel
theorem dX10_ifSet_34 : decode cX10_ifSet 34 = .ok (.athrow, 1) := by decide +kernel
theorem dX10_ifSet_35 : decode cX10_ifSet 35 = .ok (.aload_n 0, 1) := by decide +kernel
theorem dX10_ifSet_36 : decode cX10_ifSet 36 = .ok (.iload_n 1, 1) := by decide +kernel
theorem dX10_ifSet_37 : decode cX10_ifSet 37 = .ok (.iload_n 2, 1) := by decide +kernel
theorem dX10_ifSet_38 : decode cX10_ifSet 38 = .ok (.invokevirtual 252, 3) := by decide +kernel
theorem dX10_ifSet_41 : decode cX10_ifSet 41 = .ok (.ireturn, 1) := by decide +kernel
theorem dX10_ifChanged_0 : decode cX10_ifChanged 0 = .ok (.aload_n 0, 1) := by decide +kernel
theorem dX10_ifChanged_1 : decode cX10_ifChanged 1 = .ok (.iload_n 1, 1) := by decide +kernel
theorem dX10_ifChanged_2 : decode cX10_ifChanged 2 = .ok (.iload_n 2, 1) := by decide +kernel
theorem dX10_ifChanged_3 : decode cX10_ifChanged 3 = .ok (.invokevirtual 107, 3) := by decide +kernel
theorem dX10_ifChanged_6 : decode cX10_ifChanged 6 = .ok (.ifCond .ne 13, 3) := by decide +kernel
theorem dX10_ifChanged_9 : decode cX10_ifChanged 9 = .ok (.new 80, 3) := by decide +kernel
theorem dX10_ifChanged_12 : decode cX10_ifChanged 12 = .ok (.dup, 1) := by decide +kernel
theorem dX10_ifChanged_13 : decode cX10_ifChanged 13 = .ok (.ldc 82, 2) := by decide +kernel
theorem dX10_ifChanged_15 : decode cX10_ifChanged 15 = .ok (.invokespecial 84, 3) := by decide +kernel
theorem dX10_ifChanged_18 : decode cX10_ifChanged 18 = .ok (.athrow, 1) := by decide +kernel
theorem dX10_ifChanged_19 : decode cX10_ifChanged 19 = .ok (.iload_n 3, 1) := by decide +kernel
theorem dX10_ifChanged_20 : decode cX10_ifChanged 20 = .ok (.invokestatic 87, 3) := by decide +kernel
theorem dX10_ifChanged_23 : decode cX10_ifChanged 23 = .ok (.ifCond .ne 13, 3) := by decide +kernel
theorem dX10_ifChanged_26 : decode cX10_ifChanged 26 = .ok (.new 90, 3) := by decide +kernel
theorem dX10_ifChanged_29 : decode cX10_ifChanged 29 = .ok (.dup, 1) := by decide +kernel
theorem dX10_ifChanged_30 : decode cX10_ifChanged 30 = .ok (.ldc 92, 2) := by decide +kernel
theorem dX10_ifChanged_32 : decode cX10_ifChanged 32 = .ok (.invokespecial 94, 3) := by decide +kernel
theorem dX10_ifChanged_35 : decode cX10_ifChanged 35 = .ok (.athrow, 1) := by decide +kernel
theorem dX10_ifChanged_36 : decode cX10_ifChanged 36 = .ok (.aload_n 0, 1) := by decide +kernel
theorem dX10_ifChanged_37 : decode cX10_ifChanged 37 = .ok (.iload_n 1, 1) := by decide +kernel
theorem dX10_ifChanged_38 : decode cX10_ifChanged 38 = .ok (.iload_n 2, 1) := by decide +kernel
theorem dX10_ifChanged_39 : decode cX10_ifChanged 39 = .ok (.iload_n 3, 1) := by decide +kernel
theorem dX10_ifChanged_40 : decode cX10_ifChanged 40 = .ok (.invokevirtual 255, 3) := by decide +kernel
theorem dX10_ifChanged_43 : decode cX10_ifChanged 43 = .ok (.ireturn, 1) := by decide +kernel
theorem dX10_bestLength_0 : decode cX10_bestLength 0 = .ok (.aload_n 0, 1) := by decide +kernel
theorem dX10_bestLength_1 : decode cX10_bestLength 1 = .ok (.invokevirtual 259, 3) := by decide +kernel
theorem dX10_bestLength_4 : decode cX10_bestLength 4 = .ok (.ireturn, 1) := by decide +kernel
theorem dX10_likeShare_0 : decode cX10_likeShare 0 = .ok (.aload_n 0, 1) := by decide +kernel
theorem dX10_likeShare_1 : decode cX10_likeShare 1 = .ok (.invokevirtual 138, 3) := by decide +kernel
theorem dX10_likeShare_4 : decode cX10_likeShare 4 = .ok (.aload_n 0, 1) := by decide +kernel
theorem dX10_likeShare_5 : decode cX10_likeShare 5 = .ok (.invokevirtual 262, 3) := by decide +kernel
theorem dX10_likeShare_8 : decode cX10_likeShare 8 = .ok (.dreturn, 1) := by decide +kernel
theorem dX10_digest_0 : decode cX10_digest 0 = .ok (.aload_n 0, 1) := by decide +kernel
theorem dX10_digest_1 : decode cX10_digest 1 = .ok (.invokevirtual 138, 3) := by decide +kernel
theorem dX10_digest_4 : decode cX10_digest 4 = .ok (.ldc2_w 266, 3) := by decide +kernel
theorem dX10_digest_7 : decode cX10_digest 7 = .ok (.lstore_n 1, 1) := by decide +kernel
theorem dX10_digest_8 : decode cX10_digest 8 = .ok (.iconst 0, 1) := by decide +kernel
theorem dX10_digest_9 : decode cX10_digest 9 = .ok (.istore_n 3, 1) := by decide +kernel
theorem dX10_digest_10 : decode cX10_digest 10 = .ok (.iload_n 3, 1) := by decide +kernel
theorem dX10_digest_11 : decode cX10_digest 11 = .ok (.bipush 15, 2) := by decide +kernel
theorem dX10_digest_13 : decode cX10_digest 13 = .ok (.if_icmp .ge 20, 3) := by decide +kernel
theorem dX10_digest_16 : decode cX10_digest 16 = .ok (.lload_n 1, 1) := by decide +kernel
theorem dX10_digest_17 : decode cX10_digest 17 = .ok (.aload_n 0, 1) := by decide +kernel
theorem dX10_digest_18 : decode cX10_digest 18 = .ok (.iload_n 3, 1) := by decide +kernel
theorem dX10_digest_19 : decode cX10_digest 19 = .ok (.invokevirtual 249, 3) := by decide +kernel
theorem dX10_digest_22 : decode cX10_digest 22 = .ok (.i2l, 1) := by decide +kernel
theorem dX10_digest_23 : decode cX10_digest 23 = .ok (.invokestatic 268, 3) := by decide +kernel
theorem dX10_digest_26 : decode cX10_digest 26 = .ok (.lstore_n 1, 1) := by decide +kernel
theorem dX10_digest_27 : decode cX10_digest 27 = .ok (.iinc 3 1, 3) := by decide +kernel
theorem dX10_digest_30 : decode cX10_digest 30 = .ok (.goto (-20), 3) := by decide +kernel
theorem dX10_digest_33 : decode cX10_digest 33 = .ok (.iconst 0, 1) := by decide +kernel
theorem dX10_digest_34 : decode cX10_digest 34 = .ok (.istore_n 3, 1) := by decide +kernel
theorem dX10_digest_35 : decode cX10_digest 35 = .ok (.iload_n 3, 1) := by decide +kernel
theorem dX10_digest_36 : decode cX10_digest 36 = .ok (.iconst 4, 1) := by decide +kernel
theorem dX10_digest_37 : decode cX10_digest 37 = .ok (.if_icmp .ge 26, 3) := by decide +kernel
theorem dX10_digest_40 : decode cX10_digest 40 = .ok (.lload_n 1, 1) := by decide +kernel
theorem dX10_digest_41 : decode cX10_digest 41 = .ok (.aload_n 0, 1) := by decide +kernel
theorem dX10_digest_42 : decode cX10_digest 42 = .ok (.getfield 10, 3) := by decide +kernel
theorem dX10_digest_45 : decode cX10_digest 45 = .ok (.getfield 161, 3) := by decide +kernel
theorem dX10_digest_48 : decode cX10_digest 48 = .ok (.iload_n 3, 1) := by decide +kernel
theorem dX10_digest_49 : decode cX10_digest 49 = .ok (.invokevirtual 165, 3) := by decide +kernel
theorem dX10_digest_52 : decode cX10_digest 52 = .ok (.i2l, 1) := by decide +kernel
theorem dX10_digest_53 : decode cX10_digest 53 = .ok (.invokestatic 268, 3) := by decide +kernel
theorem dX10_digest_56 : decode cX10_digest 56 = .ok (.lstore_n 1, 1) := by decide +kernel
theorem dX10_digest_57 : decode cX10_digest 57 = .ok (.iinc 3 1, 3) := by decide +kernel
theorem dX10_digest_60 : decode cX10_digest 60 = .ok (.goto (-25), 3) := by decide +kernel
theorem dX10_digest_63 : decode cX10_digest 63 = .ok (.aload_n 0, 1) := by decide +kernel
theorem dX10_digest_64 : decode cX10_digest 64 = .ok (.lload_n 1, 1) := by decide +kernel
theorem dX10_digest_65 : decode cX10_digest 65 = .ok (.iconst 0, 1) := by decide +kernel
theorem dX10_digest_66 : decode cX10_digest 66 = .ok (.invokevirtual 272, 3) := by decide +kernel
theorem dX10_digest_69 : decode cX10_digest 69 = .ok (.lstore_n 1, 1) := by decide +kernel
theorem dX10_digest_70 : decode cX10_digest 70 = .ok (.aload_n 0, 1) := by decide +kernel
theorem dX10_digest_71 : decode cX10_digest 71 = .ok (.lload_n 1, 1) := by decide +kernel
theorem dX10_digest_72 : decode cX10_digest 72 = .ok (.iconst 1, 1) := by decide +kernel
theorem dX10_digest_73 : decode cX10_digest 73 = .ok (.invokevirtual 272, 3) := by decide +kernel
theorem dX10_digest_76 : decode cX10_digest 76 = .ok (.lstore_n 1, 1) := by decide +kernel
theorem dX10_digest_77 : decode cX10_digest 77 = .ok (.aload_n 0, 1) := by decide +kernel
theorem dX10_digest_78 : decode cX10_digest 78 = .ok (.lload_n 1, 1) := by decide +kernel
theorem dX10_digest_79 : decode cX10_digest 79 = .ok (.invokevirtual 276, 3) := by decide +kernel
theorem dX10_digest_82 : decode cX10_digest 82 = .ok (.lstore_n 1, 1) := by decide +kernel
theorem dX10_digest_83 : decode cX10_digest 83 = .ok (.aload_n 0, 1) := by decide +kernel
theorem dX10_digest_84 : decode cX10_digest 84 = .ok (.lload_n 1, 1) := by decide +kernel
theorem dX10_digest_85 : decode cX10_digest 85 = .ok (.invokevirtual 280, 3) := by decide +kernel
theorem dX10_digest_88 : decode cX10_digest 88 = .ok (.lstore_n 1, 1) := by decide +kernel
theorem dX10_digest_89 : decode cX10_digest 89 = .ok (.lload_n 1, 1) := by decide +kernel
theorem dX10_digest_90 : decode cX10_digest 90 = .ok (.aload_n 0, 1) := by decide +kernel
theorem dX10_digest_91 : decode cX10_digest 91 = .ok (.iconst 0, 1) := by decide +kernel
theorem dX10_digest_92 : decode cX10_digest 92 = .ok (.iconst 2, 1) := by decide +kernel
theorem dX10_digest_93 : decode cX10_digest 93 = .ok (.invokevirtual 252, 3) := by decide +kernel
theorem dX10_digest_96 : decode cX10_digest 96 = .ok (.i2l, 1) := by decide +kernel
theorem dX10_digest_97 : decode cX10_digest 97 = .ok (.invokestatic 268, 3) := by decide +kernel
theorem dX10_digest_100 : decode cX10_digest 100 = .ok (.lstore_n 1, 1) := by decide +kernel
theorem dX10_digest_101 : decode cX10_digest 101 = .ok (.lload_n 1, 1) := by decide +kernel
theorem dX10_digest_102 : decode cX10_digest 102 = .ok (.aload_n 0, 1) := by decide +kernel
theorem dX10_digest_103 : decode cX10_digest 103 = .ok (.iconst 3, 1) := by decide +kernel
theorem dX10_digest_104 : decode cX10_digest 104 = .ok (.iconst 0, 1) := by decide +kernel
theorem dX10_digest_105 : decode cX10_digest 105 = .ok (.invokevirtual 252, 3) := by decide +kernel
theorem dX10_digest_108 : decode cX10_digest 108 = .ok (.i2l, 1) := by decide +kernel
theorem dX10_digest_109 : decode cX10_digest 109 = .ok (.invokestatic 268, 3) := by decide +kernel
theorem dX10_digest_112 : decode cX10_digest 112 = .ok (.lstore_n 1, 1) := by decide +kernel
theorem dX10_digest_113 : decode cX10_digest 113 = .ok (.aload_n 0, 1) := by decide +kernel
theorem dX10_digest_114 : decode cX10_digest 114 = .ok (.getfield 10, 3) := by decide +kernel
theorem dX10_digest_117 : decode cX10_digest 117 = .ok (.getfield 283, 3) := by decide +kernel
theorem dX10_digest_120 : decode cX10_digest 120 = .ok (.iconst 0, 1) := by decide +kernel
theorem dX10_digest_121 : decode cX10_digest 121 = .ok (.invokevirtual 287, 3) := by decide +kernel
theorem dX10_digest_124 : decode cX10_digest 124 = .ok (.ifCond .eq 16, 3) := by decide +kernel
theorem dX10_digest_127 : decode cX10_digest 127 = .ok (.lload_n 1, 1) := by decide +kernel
theorem dX10_digest_128 : decode cX10_digest 128 = .ok (.aload_n 0, 1) := by decide +kernel
theorem dX10_digest_129 : decode cX10_digest 129 = .ok (.iconst 0, 1) := by decide +kernel
theorem dX10_digest_130 : decode cX10_digest 130 = .ok (.iconst 0, 1) := by decide +kernel
theorem dX10_digest_131 : decode cX10_digest 131 = .ok (.iconst 0, 1) := by decide +kernel
theorem dX10_digest_132 : decode cX10_digest 132 = .ok (.invokevirtual 255, 3) := by decide +kernel
theorem dX10_digest_135 : decode cX10_digest 135 = .ok (.i2l, 1) := by decide +kernel
theorem dX10_digest_136 : decode cX10_digest 136 = .ok (.invokestatic 268, 3) := by decide +kernel
theorem dX10_digest_139 : decode cX10_digest 139 = .ok (.lstore_n 1, 1) := by decide +kernel
theorem dX10_digest_140 : decode cX10_digest 140 = .ok (.lload_n 1, 1) := by decide +kernel
theorem dX10_digest_141 : decode cX10_digest 141 = .ok (.aload_n 0, 1) := by decide +kernel
theorem dX10_digest_142 : decode cX10_digest 142 = .ok (.invokevirtual 259, 3) := by decide +kernel
theorem dX10_digest_145 : decode cX10_digest 145 = .ok (.i2l, 1) := by decide +kernel
theorem dX10_digest_146 : decode cX10_digest 146 = .ok (.invokestatic 268, 3) := by decide +kernel
theorem dX10_digest_149 : decode cX10_digest 149 = .ok (.lstore_n 1, 1) := by decide +kernel
theorem dX10_digest_150 : decode cX10_digest 150 = .ok (.lload_n 1, 1) := by decide +kernel
theorem dX10_digest_151 : decode cX10_digest 151 = .ok (.aload_n 0, 1) := by decide +kernel
theorem dX10_digest_152 : decode cX10_digest 152 = .ok (.invokevirtual 262, 3) := by decide +kernel
theorem dX10_digest_155 : decode cX10_digest 155 = .ok (.invokestatic 290, 3) := by decide +kernel
theorem dX10_digest_158 : decode cX10_digest 158 = .ok (.invokestatic 268, 3) := by decide +kernel
theorem dX10_digest_161 : decode cX10_digest 161 = .ok (.lstore_n 1, 1) := by decide +kernel
theorem dX10_digest_162 : decode cX10_digest 162 = .ok (.aload_n 0, 1) := by decide +kernel
theorem dX10_digest_163 : decode cX10_digest 163 = .ok (.lload_n 1, 1) := by decide +kernel
theorem dX10_digest_164 : decode cX10_digest 164 = .ok (.invokevirtual 294, 3) := by decide +kernel
theorem dX10_digest_167 : decode cX10_digest 167 = .ok (.lreturn, 1) := by decide +kernel
theorem dX10_isRow_0 : decode cX10_isRow 0 = .ok (.iload_n 0, 1) := by decide +kernel
theorem dX10_isRow_1 : decode cX10_isRow 1 = .ok (.ifCond .eq 8, 3) := by decide +kernel
theorem dX10_isRow_4 : decode cX10_isRow 4 = .ok (.iload_n 0, 1) := by decide +kernel
theorem dX10_isRow_5 : decode cX10_isRow 5 = .ok (.iconst 1, 1) := by decide +kernel
theorem dX10_isRow_6 : decode cX10_isRow 6 = .ok (.if_icmp .ne 7, 3) := by decide +kernel
theorem dX10_isRow_9 : decode cX10_isRow 9 = .ok (.iconst 1, 1) := by decide +kernel
theorem dX10_isRow_10 : decode cX10_isRow 10 = .ok (.goto 4, 3) := by decide +kernel
theorem dX10_isRow_13 : decode cX10_isRow 13 = .ok (.iconst 0, 1) := by decide +kernel
theorem dX10_isRow_14 : decode cX10_isRow 14 = .ok (.ireturn, 1) := by decide +kernel
theorem dX10_isPlace_0 : decode cX10_isPlace 0 = .ok (.iload_n 1, 1) := by decide +kernel
theorem dX10_isPlace_1 : decode cX10_isPlace 1 = .ok (.invokestatic 66, 3) := by decide +kernel
theorem dX10_isPlace_4 : decode cX10_isPlace 4 = .ok (.ifCond .eq 22, 3) := by decide +kernel
theorem dX10_isPlace_7 : decode cX10_isPlace 7 = .ok (.aload_n 0, 1) := by decide +kernel
theorem dX10_isPlace_8 : decode cX10_isPlace 8 = .ok (.getfield 10, 3) := by decide +kernel
theorem dX10_isPlace_11 : decode cX10_isPlace 11 = .ok (.iload_n 1, 1) := by decide +kernel
theorem dX10_isPlace_12 : decode cX10_isPlace 12 = .ok (.invokevirtual 70, 3) := by decide +kernel
theorem dX10_isPlace_15 : decode cX10_isPlace 15 = .ok (.iload_n 2, 1) := by decide +kernel
theorem dX10_isPlace_16 : decode cX10_isPlace 16 = .ok (.invokevirtual 287, 3) := by decide +kernel
theorem dX10_isPlace_19 : decode cX10_isPlace 19 = .ok (.ifCond .eq 7, 3) := by decide +kernel
theorem dX10_isPlace_22 : decode cX10_isPlace 22 = .ok (.iconst 1, 1) := by decide +kernel
theorem dX10_isPlace_23 : decode cX10_isPlace 23 = .ok (.goto 4, 3) := by decide +kernel
theorem dX10_isPlace_26 : decode cX10_isPlace 26 = .ok (.iconst 0, 1) := by decide +kernel
theorem dX10_isPlace_27 : decode cX10_isPlace 27 = .ok (.ireturn, 1) := by decide +kernel
theorem dX10_isSign_0 : decode cX10_isSign 0 = .ok (.iload_n 0, 1) := by decide +kernel
theorem dX10_isSign_1 : decode cX10_isSign 1 = .ok (.ifCond .lt 12, 3) := by decide +kernel
theorem dX10_isSign_4 : decode cX10_isSign 4 = .ok (.iload_n 0, 1) := by decide +kernel
theorem dX10_isSign_5 : decode cX10_isSign 5 = .ok (.iconst 4, 1) := by decide +kernel
theorem dX10_isSign_6 : decode cX10_isSign 6 = .ok (.if_icmp .ge 7, 3) := by decide +kernel
theorem dX10_isSign_9 : decode cX10_isSign 9 = .ok (.iconst 1, 1) := by decide +kernel
theorem dX10_isSign_10 : decode cX10_isSign 10 = .ok (.goto 4, 3) := by decide +kernel
theorem dX10_isSign_13 : decode cX10_isSign 13 = .ok (.iconst 0, 1) := by decide +kernel
theorem dX10_isSign_14 : decode cX10_isSign 14 = .ok (.ireturn, 1) := by decide +kernel
theorem dX10_isSetting_0 : decode cX10_isSetting 0 = .ok (.iload_n 0, 1) := by decide +kernel
theorem dX10_isSetting_1 : decode cX10_isSetting 1 = .ok (.ifCond .lt 12, 3) := by decide +kernel
theorem dX10_isSetting_4 : decode cX10_isSetting 4 = .ok (.iload_n 0, 1) := by decide +kernel
theorem dX10_isSetting_5 : decode cX10_isSetting 5 = .ok (.iconst 4, 1) := by decide +kernel
theorem dX10_isSetting_6 : decode cX10_isSetting 6 = .ok (.if_icmp .ge 7, 3) := by decide +kernel
theorem dX10_isSetting_9 : decode cX10_isSetting 9 = .ok (.iconst 1, 1) := by decide +kernel
theorem dX10_isSetting_10 : decode cX10_isSetting 10 = .ok (.goto 4, 3) := by decide +kernel
theorem dX10_isSetting_13 : decode cX10_isSetting 13 = .ok (.iconst 0, 1) := by decide +kernel
theorem dX10_isSetting_14 : decode cX10_isSetting 14 = .ok (.ireturn, 1) := by decide +kernel
theorem dX10_isValueOf_0 : decode cX10_isValueOf 0 = .ok (.iload_n 0, 1) := by decide +kernel
theorem dX10_isValueOf_1 : decode cX10_isValueOf 1 = .ok (.tableswitch 79 0 3 #[31, 47, 47, 63], 31) := by decide +kernel
theorem dX10_isValueOf_32 : decode cX10_isValueOf 32 = .ok (.iload_n 1, 1) := by decide +kernel
theorem dX10_isValueOf_33 : decode cX10_isValueOf 33 = .ok (.iconst 2, 1) := by decide +kernel
theorem dX10_isValueOf_34 : decode cX10_isValueOf 34 = .ok (.if_icmp .lt 12, 3) := by decide +kernel
theorem dX10_isValueOf_37 : decode cX10_isValueOf 37 = .ok (.iload_n 1, 1) := by decide +kernel
theorem dX10_isValueOf_38 : decode cX10_isValueOf 38 = .ok (.iconst 5, 1) := by decide +kernel
theorem dX10_isValueOf_39 : decode cX10_isValueOf 39 = .ok (.if_icmp .gt 7, 3) := by decide +kernel
theorem dX10_isValueOf_42 : decode cX10_isValueOf 42 = .ok (.iconst 1, 1) := by decide +kernel
theorem dX10_isValueOf_43 : decode cX10_isValueOf 43 = .ok (.goto 4, 3) := by decide +kernel
theorem dX10_isValueOf_46 : decode cX10_isValueOf 46 = .ok (.iconst 0, 1) := by decide +kernel
theorem dX10_isValueOf_47 : decode cX10_isValueOf 47 = .ok (.ireturn, 1) := by decide +kernel
theorem dX10_isValueOf_48 : decode cX10_isValueOf 48 = .ok (.iload_n 1, 1) := by decide +kernel
theorem dX10_isValueOf_49 : decode cX10_isValueOf 49 = .ok (.ifCond .lt 13, 3) := by decide +kernel
theorem dX10_isValueOf_52 : decode cX10_isValueOf 52 = .ok (.iload_n 1, 1) := by decide +kernel
theorem dX10_isValueOf_53 : decode cX10_isValueOf 53 = .ok (.bipush 9, 2) := by decide +kernel
theorem dX10_isValueOf_55 : decode cX10_isValueOf 55 = .ok (.if_icmp .gt 7, 3) := by decide +kernel
theorem dX10_isValueOf_58 : decode cX10_isValueOf 58 = .ok (.iconst 1, 1) := by decide +kernel
theorem dX10_isValueOf_59 : decode cX10_isValueOf 59 = .ok (.goto 4, 3) := by decide +kernel
theorem dX10_isValueOf_62 : decode cX10_isValueOf 62 = .ok (.iconst 0, 1) := by decide +kernel
theorem dX10_isValueOf_63 : decode cX10_isValueOf 63 = .ok (.ireturn, 1) := by decide +kernel
theorem dX10_isValueOf_64 : decode cX10_isValueOf 64 = .ok (.iload_n 1, 1) := by decide +kernel
theorem dX10_isValueOf_65 : decode cX10_isValueOf 65 = .ok (.ifCond .lt 13, 3) := by decide +kernel
theorem dX10_isValueOf_68 : decode cX10_isValueOf 68 = .ok (.iload_n 1, 1) := by decide +kernel
theorem dX10_isValueOf_69 : decode cX10_isValueOf 69 = .ok (.bipush 24, 2) := by decide +kernel
theorem dX10_isValueOf_71 : decode cX10_isValueOf 71 = .ok (.if_icmp .gt 7, 3) := by decide +kernel
theorem dX10_isValueOf_74 : decode cX10_isValueOf 74 = .ok (.iconst 1, 1) := by decide +kernel
theorem dX10_isValueOf_75 : decode cX10_isValueOf 75 = .ok (.goto 4, 3) := by decide +kernel
theorem dX10_isValueOf_78 : decode cX10_isValueOf 78 = .ok (.iconst 0, 1) := by decide +kernel
theorem dX10_isValueOf_79 : decode cX10_isValueOf 79 = .ok (.ireturn, 1) := by decide +kernel
theorem dX10_isValueOf_80 : decode cX10_isValueOf 80 = .ok (.iconst 0, 1) := by decide +kernel
theorem dX10_isValueOf_81 : decode cX10_isValueOf 81 = .ok (.ireturn, 1) := by decide +kernel
theorem dX10_isSnapshot_0 : decode cX10_isSnapshot 0 = .ok (.iload_n 0, 1) := by decide +kernel
theorem dX10_isSnapshot_1 : decode cX10_isSnapshot 1 = .ok (.ifCond .eq 8, 3) := by decide +kernel
theorem dX10_isSnapshot_4 : decode cX10_isSnapshot 4 = .ok (.iload_n 0, 1) := by decide +kernel
theorem dX10_isSnapshot_5 : decode cX10_isSnapshot 5 = .ok (.iconst 1, 1) := by decide +kernel
theorem dX10_isSnapshot_6 : decode cX10_isSnapshot 6 = .ok (.if_icmp .ne 7, 3) := by decide +kernel
theorem dX10_isSnapshot_9 : decode cX10_isSnapshot 9 = .ok (.iconst 1, 1) := by decide +kernel
theorem dX10_isSnapshot_10 : decode cX10_isSnapshot 10 = .ok (.goto 4, 3) := by decide +kernel
theorem dX10_isSnapshot_13 : decode cX10_isSnapshot 13 = .ok (.iconst 0, 1) := by decide +kernel
theorem dX10_isSnapshot_14 : decode cX10_isSnapshot 14 = .ok (.ireturn, 1) := by decide +kernel
theorem dX10_snapshotOf_0 : decode cX10_snapshotOf 0 = .ok (.iload_n 1, 1) := by decide +kernel
theorem dX10_snapshotOf_1 : decode cX10_snapshotOf 1 = .ok (.ifCond .ne 10, 3) := by decide +kernel
theorem dX10_snapshotOf_4 : decode cX10_snapshotOf 4 = .ok (.aload_n 0, 1) := by decide +kernel
theorem dX10_snapshotOf_5 : decode cX10_snapshotOf 5 = .ok (.getfield 19, 3) := by decide +kernel
theorem dX10_snapshotOf_8 : decode cX10_snapshotOf 8 = .ok (.goto 7, 3) := by decide +kernel
theorem dX10_snapshotOf_11 : decode cX10_snapshotOf 11 = .ok (.aload_n 0, 1) := by decide +kernel
theorem dX10_snapshotOf_12 : decode cX10_snapshotOf 12 = .ok (.getfield 22, 3) := by decide +kernel
theorem dX10_snapshotOf_15 : decode cX10_snapshotOf 15 = .ok (.areturn, 1) := by decide +kernel
theorem dX10_saveState_0 : decode cX10_saveState 0 = .ok (.aload_n 0, 1) := by decide +kernel
theorem dX10_saveState_1 : decode cX10_saveState 1 = .ok (.getfield 35, 3) := by decide +kernel
theorem dX10_saveState_4 : decode cX10_saveState 4 = .ok (.aload_n 0, 1) := by decide +kernel
theorem dX10_saveState_5 : decode cX10_saveState 5 = .ok (.getfield 10, 3) := by decide +kernel
theorem dX10_saveState_8 : decode cX10_saveState 8 = .ok (.invokevirtual 297, 3) := by decide +kernel
theorem dX10_saveState_11 : decode cX10_saveState 11 = .ok (.aload_n 0, 1) := by decide +kernel
theorem dX10_saveState_12 : decode cX10_saveState 12 = .ok (.iconst 1, 1) := by decide +kernel
theorem dX10_saveState_13 : decode cX10_saveState 13 = .ok (.putfield 63, 3) := by decide +kernel
theorem dX10_saveState_16 : decode cX10_saveState 16 = .ok (.return_, 1) := by decide +kernel
theorem dX10_refresh_0 : decode cX10_refresh 0 = .ok (.aload_n 0, 1) := by decide +kernel
theorem dX10_refresh_1 : decode cX10_refresh 1 = .ok (.getfield 63, 3) := by decide +kernel
theorem dX10_refresh_4 : decode cX10_refresh 4 = .ok (.ifCond .eq 31, 3) := by decide +kernel
theorem dX10_refresh_7 : decode cX10_refresh 7 = .ok (.aload_n 0, 1) := by decide +kernel
theorem dX10_refresh_8 : decode cX10_refresh 8 = .ok (.getfield 49, 3) := by decide +kernel
theorem dX10_refresh_11 : decode cX10_refresh 11 = .ok (.aload_n 0, 1) := by decide +kernel
theorem dX10_refresh_12 : decode cX10_refresh 12 = .ok (.getfield 10, 3) := by decide +kernel
theorem dX10_refresh_15 : decode cX10_refresh 15 = .ok (.invokevirtual 300, 3) := by decide +kernel
theorem dX10_refresh_18 : decode cX10_refresh 18 = .ok (.pop, 1) := by decide +kernel
theorem dX10_refresh_19 : decode cX10_refresh 19 = .ok (.aload_n 0, 1) := by decide +kernel
theorem dX10_refresh_20 : decode cX10_refresh 20 = .ok (.getfield 59, 3) := by decide +kernel
theorem dX10_refresh_23 : decode cX10_refresh 23 = .ok (.aload_n 0, 1) := by decide +kernel
theorem dX10_refresh_24 : decode cX10_refresh 24 = .ok (.getfield 10, 3) := by decide +kernel
theorem dX10_refresh_27 : decode cX10_refresh 27 = .ok (.invokevirtual 304, 3) := by decide +kernel
theorem dX10_refresh_30 : decode cX10_refresh 30 = .ok (.aload_n 0, 1) := by decide +kernel
theorem dX10_refresh_31 : decode cX10_refresh 31 = .ok (.iconst 0, 1) := by decide +kernel
theorem dX10_refresh_32 : decode cX10_refresh 32 = .ok (.putfield 63, 3) := by decide +kernel
theorem dX10_refresh_35 : decode cX10_refresh 35 = .ok (.return_, 1) := by decide +kernel
theorem dX10_numberOf_0 : decode cX10_numberOf 0 = .ok (.iload_n 1, 1) := by decide +kernel
theorem dX10_numberOf_1 : decode cX10_numberOf 1 = .ok (.tableswitch 258 0 14 #[75, 86, 97, 108, 119, 130, 138, 146, 158, 166, 174, 186, 205, 224, 250], 75) := by decide +kernel
theorem dX10_numberOf_76 : decode cX10_numberOf 76 = .ok (.aload_n 0, 1) := by decide +kernel
theorem dX10_numberOf_77 : decode cX10_numberOf 77 = .ok (.getfield 10, 3) := by decide +kernel
theorem dX10_numberOf_80 : decode cX10_numberOf 80 = .ok (.getfield 283, 3) := by decide +kernel
theorem dX10_numberOf_83 : decode cX10_numberOf 83 = .ok (.invokevirtual 74, 3) := by decide +kernel
theorem dX10_numberOf_86 : decode cX10_numberOf 86 = .ok (.ireturn, 1) := by decide +kernel
theorem dX10_numberOf_87 : decode cX10_numberOf 87 = .ok (.aload_n 0, 1) := by decide +kernel
theorem dX10_numberOf_88 : decode cX10_numberOf 88 = .ok (.getfield 10, 3) := by decide +kernel
theorem dX10_numberOf_91 : decode cX10_numberOf 91 = .ok (.getfield 307, 3) := by decide +kernel
theorem dX10_numberOf_94 : decode cX10_numberOf 94 = .ok (.invokevirtual 74, 3) := by decide +kernel
theorem dX10_numberOf_97 : decode cX10_numberOf 97 = .ok (.ireturn, 1) := by decide +kernel
theorem dX10_numberOf_98 : decode cX10_numberOf 98 = .ok (.aload_n 0, 1) := by decide +kernel
theorem dX10_numberOf_99 : decode cX10_numberOf 99 = .ok (.getfield 49, 3) := by decide +kernel
theorem dX10_numberOf_102 : decode cX10_numberOf 102 = .ok (.getfield 141, 3) := by decide +kernel
theorem dX10_numberOf_105 : decode cX10_numberOf 105 = .ok (.getfield 145, 3) := by decide +kernel
theorem dX10_numberOf_108 : decode cX10_numberOf 108 = .ok (.ireturn, 1) := by decide +kernel
theorem dX10_numberOf_109 : decode cX10_numberOf 109 = .ok (.aload_n 0, 1) := by decide +kernel
theorem dX10_numberOf_110 : decode cX10_numberOf 110 = .ok (.getfield 59, 3) := by decide +kernel
theorem dX10_numberOf_113 : decode cX10_numberOf 113 = .ok (.getfield 227, 3) := by decide +kernel
theorem dX10_numberOf_116 : decode cX10_numberOf 116 = .ok (.getfield 145, 3) := by decide +kernel
theorem dX10_numberOf_119 : decode cX10_numberOf 119 = .ok (.ireturn, 1) := by decide +kernel
theorem dX10_numberOf_120 : decode cX10_numberOf 120 = .ok (.aload_n 0, 1) := by decide +kernel
theorem dX10_numberOf_121 : decode cX10_numberOf 121 = .ok (.getfield 49, 3) := by decide +kernel
theorem dX10_numberOf_124 : decode cX10_numberOf 124 = .ok (.getfield 310, 3) := by decide +kernel
theorem dX10_numberOf_127 : decode cX10_numberOf 127 = .ok (.getfield 314, 3) := by decide +kernel
theorem dX10_numberOf_130 : decode cX10_numberOf 130 = .ok (.ireturn, 1) := by decide +kernel
theorem dX10_numberOf_131 : decode cX10_numberOf 131 = .ok (.aload_n 0, 1) := by decide +kernel
theorem dX10_numberOf_132 : decode cX10_numberOf 132 = .ok (.getfield 49, 3) := by decide +kernel
theorem dX10_numberOf_135 : decode cX10_numberOf 135 = .ok (.getfield 317, 3) := by decide +kernel
theorem dX10_numberOf_138 : decode cX10_numberOf 138 = .ok (.ireturn, 1) := by decide +kernel
theorem dX10_numberOf_139 : decode cX10_numberOf 139 = .ok (.aload_n 0, 1) := by decide +kernel
theorem dX10_numberOf_140 : decode cX10_numberOf 140 = .ok (.getfield 49, 3) := by decide +kernel
theorem dX10_numberOf_143 : decode cX10_numberOf 143 = .ok (.getfield 320, 3) := by decide +kernel
theorem dX10_numberOf_146 : decode cX10_numberOf 146 = .ok (.ireturn, 1) := by decide +kernel
theorem dX10_numberOf_147 : decode cX10_numberOf 147 = .ok (.aload_n 0, 1) := by decide +kernel
theorem dX10_numberOf_148 : decode cX10_numberOf 148 = .ok (.getfield 49, 3) := by decide +kernel
theorem dX10_numberOf_151 : decode cX10_numberOf 151 = .ok (.aload_n 0, 1) := by decide +kernel
theorem dX10_numberOf_152 : decode cX10_numberOf 152 = .ok (.getfield 10, 3) := by decide +kernel
theorem dX10_numberOf_155 : decode cX10_numberOf 155 = .ok (.invokevirtual 323, 3) := by decide +kernel
theorem dX10_numberOf_158 : decode cX10_numberOf 158 = .ok (.ireturn, 1) := by decide +kernel
theorem dX10_numberOf_159 : decode cX10_numberOf 159 = .ok (.aload_n 0, 1) := by decide +kernel
theorem dX10_numberOf_160 : decode cX10_numberOf 160 = .ok (.getfield 59, 3) := by decide +kernel
theorem dX10_numberOf_163 : decode cX10_numberOf 163 = .ok (.getfield 326, 3) := by decide +kernel
theorem dX10_numberOf_166 : decode cX10_numberOf 166 = .ok (.ireturn, 1) := by decide +kernel
theorem dX10_numberOf_167 : decode cX10_numberOf 167 = .ok (.aload_n 0, 1) := by decide +kernel
theorem dX10_numberOf_168 : decode cX10_numberOf 168 = .ok (.getfield 59, 3) := by decide +kernel
theorem dX10_numberOf_171 : decode cX10_numberOf 171 = .ok (.getfield 329, 3) := by decide +kernel
theorem dX10_numberOf_174 : decode cX10_numberOf 174 = .ok (.ireturn, 1) := by decide +kernel
theorem dX10_numberOf_175 : decode cX10_numberOf 175 = .ok (.aload_n 0, 1) := by decide +kernel
theorem dX10_numberOf_176 : decode cX10_numberOf 176 = .ok (.getfield 49, 3) := by decide +kernel
theorem dX10_numberOf_179 : decode cX10_numberOf 179 = .ok (.aload_n 0, 1) := by decide +kernel
theorem dX10_numberOf_180 : decode cX10_numberOf 180 = .ok (.getfield 10, 3) := by decide +kernel
theorem dX10_numberOf_183 : decode cX10_numberOf 183 = .ok (.invokevirtual 332, 3) := by decide +kernel
theorem dX10_numberOf_186 : decode cX10_numberOf 186 = .ok (.ireturn, 1) := by decide +kernel
theorem dX10_numberOf_187 : decode cX10_numberOf 187 = .ok (.aload_n 0, 1) := by decide +kernel
theorem dX10_numberOf_188 : decode cX10_numberOf 188 = .ok (.getfield 49, 3) := by decide +kernel
theorem dX10_numberOf_191 : decode cX10_numberOf 191 = .ok (.iconst 0, 1) := by decide +kernel
theorem dX10_numberOf_192 : decode cX10_numberOf 192 = .ok (.aload_n 0, 1) := by decide +kernel
theorem dX10_numberOf_193 : decode cX10_numberOf 193 = .ok (.getfield 10, 3) := by decide +kernel
theorem dX10_numberOf_196 : decode cX10_numberOf 196 = .ok (.getfield 283, 3) := by decide +kernel
theorem dX10_numberOf_199 : decode cX10_numberOf 199 = .ok (.invokevirtual 74, 3) := by decide +kernel
theorem dX10_numberOf_202 : decode cX10_numberOf 202 = .ok (.invokevirtual 335, 3) := by decide +kernel
theorem dX10_numberOf_205 : decode cX10_numberOf 205 = .ok (.ireturn, 1) := by decide +kernel
theorem dX10_numberOf_206 : decode cX10_numberOf 206 = .ok (.aload_n 0, 1) := by decide +kernel
theorem dX10_numberOf_207 : decode cX10_numberOf 207 = .ok (.getfield 49, 3) := by decide +kernel
theorem dX10_numberOf_210 : decode cX10_numberOf 210 = .ok (.iconst 1, 1) := by decide +kernel
theorem dX10_numberOf_211 : decode cX10_numberOf 211 = .ok (.aload_n 0, 1) := by decide +kernel
theorem dX10_numberOf_212 : decode cX10_numberOf 212 = .ok (.getfield 10, 3) := by decide +kernel
theorem dX10_numberOf_215 : decode cX10_numberOf 215 = .ok (.getfield 307, 3) := by decide +kernel
theorem dX10_numberOf_218 : decode cX10_numberOf 218 = .ok (.invokevirtual 74, 3) := by decide +kernel
theorem dX10_numberOf_221 : decode cX10_numberOf 221 = .ok (.invokevirtual 335, 3) := by decide +kernel
theorem dX10_numberOf_224 : decode cX10_numberOf 224 = .ok (.ireturn, 1) := by decide +kernel
theorem dX10_numberOf_225 : decode cX10_numberOf 225 = .ok (.aload_n 0, 1) := by decide +kernel
theorem dX10_numberOf_226 : decode cX10_numberOf 226 = .ok (.getfield 25, 3) := by decide +kernel
theorem dX10_numberOf_229 : decode cX10_numberOf 229 = .ok (.ifCond .eq 7, 3) := by decide +kernel
theorem dX10_numberOf_232 : decode cX10_numberOf 232 = .ok (.iconst 1, 1) := by decide +kernel
theorem dX10_numberOf_233 : decode cX10_numberOf 233 = .ok (.goto 4, 3) := by decide +kernel
theorem dX10_numberOf_236 : decode cX10_numberOf 236 = .ok (.iconst 0, 1) := by decide +kernel
theorem dX10_numberOf_237 : decode cX10_numberOf 237 = .ok (.aload_n 0, 1) := by decide +kernel
theorem dX10_numberOf_238 : decode cX10_numberOf 238 = .ok (.getfield 29, 3) := by decide +kernel
theorem dX10_numberOf_241 : decode cX10_numberOf 241 = .ok (.ifCond .eq 7, 3) := by decide +kernel
theorem dX10_numberOf_244 : decode cX10_numberOf 244 = .ok (.iconst 1, 1) := by decide +kernel
theorem dX10_numberOf_245 : decode cX10_numberOf 245 = .ok (.goto 4, 3) := by decide +kernel
theorem dX10_numberOf_248 : decode cX10_numberOf 248 = .ok (.iconst 0, 1) := by decide +kernel
theorem dX10_numberOf_249 : decode cX10_numberOf 249 = .ok (.iadd, 1) := by decide +kernel
theorem dX10_numberOf_250 : decode cX10_numberOf 250 = .ok (.ireturn, 1) := by decide +kernel
theorem dX10_numberOf_251 : decode cX10_numberOf 251 = .ok (.aload_n 0, 1) := by decide +kernel
theorem dX10_numberOf_252 : decode cX10_numberOf 252 = .ok (.getfield 35, 3) := by decide +kernel
theorem dX10_numberOf_255 : decode cX10_numberOf 255 = .ok (.invokevirtual 214, 3) := by decide +kernel
theorem dX10_numberOf_258 : decode cX10_numberOf 258 = .ok (.ireturn, 1) := by decide +kernel
theorem dX10_numberOf_259 : decode cX10_numberOf 259 = .ok (.iconst (-1), 1) := by decide +kernel
theorem dX10_numberOf_260 : decode cX10_numberOf 260 = .ok (.ireturn, 1) := by decide +kernel
theorem dX10_shareOfLikeSigns_0 : decode cX10_shareOfLikeSigns 0 = .ok (.aload_n 0, 1) := by decide +kernel
theorem dX10_shareOfLikeSigns_1 : decode cX10_shareOfLikeSigns 1 = .ok (.getfield 10, 3) := by decide +kernel
theorem dX10_shareOfLikeSigns_4 : decode cX10_shareOfLikeSigns 4 = .ok (.invokevirtual 209, 3) := by decide +kernel
theorem dX10_shareOfLikeSigns_7 : decode cX10_shareOfLikeSigns 7 = .ok (.istore_n 1, 1) := by decide +kernel
theorem dX10_shareOfLikeSigns_8 : decode cX10_shareOfLikeSigns 8 = .ok (.iload_n 1, 1) := by decide +kernel
theorem dX10_shareOfLikeSigns_9 : decode cX10_shareOfLikeSigns 9 = .ok (.ifCond .ne 5, 3) := by decide +kernel
theorem dX10_shareOfLikeSigns_12 : decode cX10_shareOfLikeSigns 12 = .ok (.dconst 1, 1) := by decide +kernel
theorem dX10_shareOfLikeSigns_13 : decode cX10_shareOfLikeSigns 13 = .ok (.dreturn, 1) := by decide +kernel
theorem dX10_shareOfLikeSigns_14 : decode cX10_shareOfLikeSigns 14 = .ok (.aload_n 0, 1) := by decide +kernel
theorem dX10_shareOfLikeSigns_15 : decode cX10_shareOfLikeSigns 15 = .ok (.getfield 49, 3) := by decide +kernel
theorem dX10_shareOfLikeSigns_18 : decode cX10_shareOfLikeSigns 18 = .ok (.aload_n 0, 1) := by decide +kernel
theorem dX10_shareOfLikeSigns_19 : decode cX10_shareOfLikeSigns 19 = .ok (.getfield 10, 3) := by decide +kernel
theorem dX10_shareOfLikeSigns_22 : decode cX10_shareOfLikeSigns 22 = .ok (.invokevirtual 332, 3) := by decide +kernel
theorem dX10_shareOfLikeSigns_25 : decode cX10_shareOfLikeSigns 25 = .ok (.i2d, 1) := by decide +kernel
theorem dX10_shareOfLikeSigns_26 : decode cX10_shareOfLikeSigns 26 = .ok (.ldc2_w 338, 3) := by decide +kernel
theorem dX10_shareOfLikeSigns_29 : decode cX10_shareOfLikeSigns 29 = .ok (.dmul, 1) := by decide +kernel
theorem dX10_shareOfLikeSigns_30 : decode cX10_shareOfLikeSigns 30 = .ok (.iload_n 1, 1) := by decide +kernel
theorem dX10_shareOfLikeSigns_31 : decode cX10_shareOfLikeSigns 31 = .ok (.i2d, 1) := by decide +kernel
theorem dX10_shareOfLikeSigns_32 : decode cX10_shareOfLikeSigns 32 = .ok (.ddiv, 1) := by decide +kernel
theorem dX10_shareOfLikeSigns_33 : decode cX10_shareOfLikeSigns 33 = .ok (.dreturn, 1) := by decide +kernel
theorem dX10_costWithSetting_0 : decode cX10_costWithSetting 0 = .ok (.aload_n 0, 1) := by decide +kernel
theorem dX10_costWithSetting_1 : decode cX10_costWithSetting 1 = .ok (.getfield 16, 3) := by decide +kernel
theorem dX10_costWithSetting_4 : decode cX10_costWithSetting 4 = .ok (.aload_n 0, 1) := by decide +kernel
theorem dX10_costWithSetting_5 : decode cX10_costWithSetting 5 = .ok (.getfield 10, 3) := by decide +kernel
theorem dX10_costWithSetting_8 : decode cX10_costWithSetting 8 = .ok (.invokevirtual 340, 3) := by decide +kernel
theorem dX10_costWithSetting_11 : decode cX10_costWithSetting 11 = .ok (.aload_n 0, 1) := by decide +kernel
theorem dX10_costWithSetting_12 : decode cX10_costWithSetting 12 = .ok (.getfield 16, 3) := by decide +kernel
theorem dX10_costWithSetting_15 : decode cX10_costWithSetting 15 = .ok (.getfield 161, 3) := by decide +kernel
theorem dX10_costWithSetting_18 : decode cX10_costWithSetting 18 = .ok (.iload_n 1, 1) := by decide +kernel
theorem dX10_costWithSetting_19 : decode cX10_costWithSetting 19 = .ok (.iload_n 2, 1) := by decide +kernel
theorem dX10_costWithSetting_20 : decode cX10_costWithSetting 20 = .ok (.invokevirtual 170, 3) := by decide +kernel
theorem dX10_costWithSetting_23 : decode cX10_costWithSetting 23 = .ok (.aload_n 0, 1) := by decide +kernel
theorem dX10_costWithSetting_24 : decode cX10_costWithSetting 24 = .ok (.getfield 53, 3) := by decide +kernel
theorem dX10_costWithSetting_27 : decode cX10_costWithSetting 27 = .ok (.aload_n 0, 1) := by decide +kernel
theorem dX10_costWithSetting_28 : decode cX10_costWithSetting 28 = .ok (.getfield 16, 3) := by decide +kernel
theorem dX10_costWithSetting_31 : decode cX10_costWithSetting 31 = .ok (.invokevirtual 300, 3) := by decide +kernel
theorem dX10_costWithSetting_34 : decode cX10_costWithSetting 34 = .ok (.ireturn, 1) := by decide +kernel
theorem dX10_costWithSign_0 : decode cX10_costWithSign 0 = .ok (.aload_n 0, 1) := by decide +kernel
theorem dX10_costWithSign_1 : decode cX10_costWithSign 1 = .ok (.getfield 16, 3) := by decide +kernel
theorem dX10_costWithSign_4 : decode cX10_costWithSign 4 = .ok (.aload_n 0, 1) := by decide +kernel
theorem dX10_costWithSign_5 : decode cX10_costWithSign 5 = .ok (.getfield 10, 3) := by decide +kernel
theorem dX10_costWithSign_8 : decode cX10_costWithSign 8 = .ok (.invokevirtual 340, 3) := by decide +kernel
theorem dX10_costWithSign_11 : decode cX10_costWithSign 11 = .ok (.aload_n 0, 1) := by decide +kernel
theorem dX10_costWithSign_12 : decode cX10_costWithSign 12 = .ok (.getfield 16, 3) := by decide +kernel
theorem dX10_costWithSign_15 : decode cX10_costWithSign 15 = .ok (.iload_n 1, 1) := by decide +kernel
theorem dX10_costWithSign_16 : decode cX10_costWithSign 16 = .ok (.invokevirtual 70, 3) := by decide +kernel
theorem dX10_costWithSign_19 : decode cX10_costWithSign 19 = .ok (.iload_n 2, 1) := by decide +kernel
theorem dX10_costWithSign_20 : decode cX10_costWithSign 20 = .ok (.iload_n 3, 1) := by decide +kernel
theorem dX10_costWithSign_21 : decode cX10_costWithSign 21 = .ok (.invokevirtual 120, 3) := by decide +kernel
theorem dX10_costWithSign_24 : decode cX10_costWithSign 24 = .ok (.aload_n 0, 1) := by decide +kernel
theorem dX10_costWithSign_25 : decode cX10_costWithSign 25 = .ok (.getfield 53, 3) := by decide +kernel
theorem dX10_costWithSign_28 : decode cX10_costWithSign 28 = .ok (.aload_n 0, 1) := by decide +kernel
theorem dX10_costWithSign_29 : decode cX10_costWithSign 29 = .ok (.getfield 16, 3) := by decide +kernel
theorem dX10_costWithSign_32 : decode cX10_costWithSign 32 = .ok (.invokevirtual 300, 3) := by decide +kernel
theorem dX10_costWithSign_35 : decode cX10_costWithSign 35 = .ok (.ireturn, 1) := by decide +kernel
theorem dX10_bestWordLength_0 : decode cX10_bestWordLength 0 = .ok (.aload_n 0, 1) := by decide +kernel
theorem dX10_bestWordLength_1 : decode cX10_bestWordLength 1 = .ok (.getfield 16, 3) := by decide +kernel
theorem dX10_bestWordLength_4 : decode cX10_bestWordLength 4 = .ok (.aload_n 0, 1) := by decide +kernel
theorem dX10_bestWordLength_5 : decode cX10_bestWordLength 5 = .ok (.getfield 10, 3) := by decide +kernel
theorem dX10_bestWordLength_8 : decode cX10_bestWordLength 8 = .ok (.invokevirtual 340, 3) := by decide +kernel
theorem dX10_bestWordLength_11 : decode cX10_bestWordLength 11 = .ok (.iconst (-1), 1) := by decide +kernel
theorem dX10_bestWordLength_12 : decode cX10_bestWordLength 12 = .ok (.istore_n 1, 1) := by decide +kernel
theorem dX10_bestWordLength_13 : decode cX10_bestWordLength 13 = .ok (.iconst 0, 1) := by decide +kernel
theorem dX10_bestWordLength_14 : decode cX10_bestWordLength 14 = .ok (.istore_n 2, 1) := by decide +kernel
theorem dX10_bestWordLength_15 : decode cX10_bestWordLength 15 = .ok (.iconst 5, 1) := by decide +kernel
theorem dX10_bestWordLength_16 : decode cX10_bestWordLength 16 = .ok (.istore_n 3, 1) := by decide +kernel
theorem dX10_bestWordLength_17 : decode cX10_bestWordLength 17 = .ok (.iload_n 3, 1) := by decide +kernel
theorem dX10_bestWordLength_18 : decode cX10_bestWordLength 18 = .ok (.iconst 2, 1) := by decide +kernel
theorem dX10_bestWordLength_19 : decode cX10_bestWordLength 19 = .ok (.if_icmp .lt 50, 3) := by decide +kernel
theorem dX10_bestWordLength_22 : decode cX10_bestWordLength 22 = .ok (.aload_n 0, 1) := by decide +kernel
theorem dX10_bestWordLength_23 : decode cX10_bestWordLength 23 = .ok (.getfield 16, 3) := by decide +kernel
theorem dX10_bestWordLength_26 : decode cX10_bestWordLength 26 = .ok (.getfield 161, 3) := by decide +kernel
theorem dX10_bestWordLength_29 : decode cX10_bestWordLength 29 = .ok (.iconst 0, 1) := by decide +kernel
theorem dX10_bestWordLength_30 : decode cX10_bestWordLength 30 = .ok (.iload_n 3, 1) := by decide +kernel
theorem dX10_bestWordLength_31 : decode cX10_bestWordLength 31 = .ok (.invokevirtual 170, 3) := by decide +kernel
theorem dX10_bestWordLength_34 : decode cX10_bestWordLength 34 = .ok (.aload_n 0, 1) := by decide +kernel
theorem dX10_bestWordLength_35 : decode cX10_bestWordLength 35 = .ok (.getfield 53, 3) := by decide +kernel
theorem dX10_bestWordLength_38 : decode cX10_bestWordLength 38 = .ok (.aload_n 0, 1) := by decide +kernel
theorem dX10_bestWordLength_39 : decode cX10_bestWordLength 39 = .ok (.getfield 16, 3) := by decide +kernel
theorem dX10_bestWordLength_42 : decode cX10_bestWordLength 42 = .ok (.invokevirtual 300, 3) := by decide +kernel
theorem dX10_bestWordLength_45 : decode cX10_bestWordLength 45 = .ok (.istore 4, 2) := by decide +kernel
theorem dX10_bestWordLength_47 : decode cX10_bestWordLength 47 = .ok (.iload_n 1, 1) := by decide +kernel
theorem dX10_bestWordLength_48 : decode cX10_bestWordLength 48 = .ok (.iconst (-1), 1) := by decide +kernel
theorem dX10_bestWordLength_49 : decode cX10_bestWordLength 49 = .ok (.if_icmp .eq 9, 3) := by decide +kernel
theorem dX10_bestWordLength_52 : decode cX10_bestWordLength 52 = .ok (.iload 4, 2) := by decide +kernel
theorem dX10_bestWordLength_54 : decode cX10_bestWordLength 54 = .ok (.iload_n 2, 1) := by decide +kernel
theorem dX10_bestWordLength_55 : decode cX10_bestWordLength 55 = .ok (.if_icmp .ge 8, 3) := by decide +kernel
theorem dX10_bestWordLength_58 : decode cX10_bestWordLength 58 = .ok (.iload_n 3, 1) := by decide +kernel
theorem dX10_bestWordLength_59 : decode cX10_bestWordLength 59 = .ok (.istore_n 1, 1) := by decide +kernel
theorem dX10_bestWordLength_60 : decode cX10_bestWordLength 60 = .ok (.iload 4, 2) := by decide +kernel
theorem dX10_bestWordLength_62 : decode cX10_bestWordLength 62 = .ok (.istore_n 2, 1) := by decide +kernel
theorem dX10_bestWordLength_63 : decode cX10_bestWordLength 63 = .ok (.iinc 3 (-1), 3) := by decide +kernel
theorem dX10_bestWordLength_66 : decode cX10_bestWordLength 66 = .ok (.goto (-49), 3) := by decide +kernel
theorem dX10_bestWordLength_69 : decode cX10_bestWordLength 69 = .ok (.iload_n 1, 1) := by decide +kernel
theorem dX10_bestWordLength_70 : decode cX10_bestWordLength 70 = .ok (.ireturn, 1) := by decide +kernel
theorem dX10_fold_0 : decode cX10_fold 0 = .ok (.ldc2_w 343, 3) := by decide +kernel
theorem dX10_fold_3 : decode cX10_fold 3 = .ok (.lload_n 0, 1) := by decide +kernel
theorem dX10_fold_4 : decode cX10_fold 4 = .ok (.lmul, 1) := by decide +kernel
theorem dX10_fold_5 : decode cX10_fold 5 = .ok (.lload_n 2, 1) := by decide +kernel
theorem dX10_fold_6 : decode cX10_fold 6 = .ok (.ladd, 1) := by decide +kernel
theorem dX10_fold_7 : decode cX10_fold 7 = .ok (.lreturn, 1) := by decide +kernel
theorem dX10_foldRow_0 : decode cX10_foldRow 0 = .ok (.lload_n 1, 1) := by decide +kernel
theorem dX10_foldRow_1 : decode cX10_foldRow 1 = .ok (.lstore 4, 2) := by decide +kernel
theorem dX10_foldRow_3 : decode cX10_foldRow 3 = .ok (.aload_n 0, 1) := by decide +kernel
theorem dX10_foldRow_4 : decode cX10_foldRow 4 = .ok (.getfield 10, 3) := by decide +kernel
theorem dX10_foldRow_7 : decode cX10_foldRow 7 = .ok (.iload_n 3, 1) := by decide +kernel
theorem dX10_foldRow_8 : decode cX10_foldRow 8 = .ok (.invokevirtual 70, 3) := by decide +kernel
theorem dX10_foldRow_11 : decode cX10_foldRow 11 = .ok (.invokevirtual 74, 3) := by decide +kernel
theorem dX10_foldRow_14 : decode cX10_foldRow 14 = .ok (.istore 6, 2) := by decide +kernel
theorem dX10_foldRow_16 : decode cX10_foldRow 16 = .ok (.iconst 0, 1) := by decide +kernel
theorem dX10_foldRow_17 : decode cX10_foldRow 17 = .ok (.istore 7, 2) := by decide +kernel
theorem dX10_foldRow_19 : decode cX10_foldRow 19 = .ok (.iload 7, 2) := by decide +kernel
theorem dX10_foldRow_21 : decode cX10_foldRow 21 = .ok (.iload 6, 2) := by decide +kernel
theorem dX10_foldRow_23 : decode cX10_foldRow 23 = .ok (.if_icmp .ge 30, 3) := by decide +kernel
theorem dX10_foldRow_26 : decode cX10_foldRow 26 = .ok (.lload 4, 2) := by decide +kernel
theorem dX10_foldRow_28 : decode cX10_foldRow 28 = .ok (.aload_n 0, 1) := by decide +kernel
theorem dX10_foldRow_29 : decode cX10_foldRow 29 = .ok (.getfield 10, 3) := by decide +kernel
theorem dX10_foldRow_32 : decode cX10_foldRow 32 = .ok (.iload_n 3, 1) := by decide +kernel
theorem dX10_foldRow_33 : decode cX10_foldRow 33 = .ok (.invokevirtual 70, 3) := by decide +kernel
theorem dX10_foldRow_36 : decode cX10_foldRow 36 = .ok (.iload 7, 2) := by decide +kernel
theorem dX10_foldRow_38 : decode cX10_foldRow 38 = .ok (.invokevirtual 116, 3) := by decide +kernel
theorem dX10_foldRow_41 : decode cX10_foldRow 41 = .ok (.i2l, 1) := by decide +kernel
theorem dX10_foldRow_42 : decode cX10_foldRow 42 = .ok (.invokestatic 268, 3) := by decide +kernel
theorem dX10_foldRow_45 : decode cX10_foldRow 45 = .ok (.lstore 4, 2) := by decide +kernel
theorem dX10_foldRow_47 : decode cX10_foldRow 47 = .ok (.iinc 7 1, 3) := by decide +kernel
theorem dX10_foldRow_50 : decode cX10_foldRow 50 = .ok (.goto (-31), 3) := by decide +kernel
theorem dX10_foldRow_53 : decode cX10_foldRow 53 = .ok (.iconst 0, 1) := by decide +kernel
theorem dX10_foldRow_54 : decode cX10_foldRow 54 = .ok (.istore 7, 2) := by decide +kernel
theorem dX10_foldRow_56 : decode cX10_foldRow 56 = .ok (.iload 7, 2) := by decide +kernel
theorem dX10_foldRow_58 : decode cX10_foldRow 58 = .ok (.iload 6, 2) := by decide +kernel
theorem dX10_foldRow_60 : decode cX10_foldRow 60 = .ok (.if_icmp .ge 30, 3) := by decide +kernel
theorem dX10_foldRow_63 : decode cX10_foldRow 63 = .ok (.lload 4, 2) := by decide +kernel
theorem dX10_foldRow_65 : decode cX10_foldRow 65 = .ok (.aload_n 0, 1) := by decide +kernel
theorem dX10_foldRow_66 : decode cX10_foldRow 66 = .ok (.getfield 49, 3) := by decide +kernel
theorem dX10_foldRow_69 : decode cX10_foldRow 69 = .ok (.iload_n 3, 1) := by decide +kernel
theorem dX10_foldRow_70 : decode cX10_foldRow 70 = .ok (.invokevirtual 238, 3) := by decide +kernel
theorem dX10_foldRow_73 : decode cX10_foldRow 73 = .ok (.iload 7, 2) := by decide +kernel
theorem dX10_foldRow_75 : decode cX10_foldRow 75 = .ok (.invokevirtual 165, 3) := by decide +kernel
theorem dX10_foldRow_78 : decode cX10_foldRow 78 = .ok (.i2l, 1) := by decide +kernel
theorem dX10_foldRow_79 : decode cX10_foldRow 79 = .ok (.invokestatic 268, 3) := by decide +kernel
theorem dX10_foldRow_82 : decode cX10_foldRow 82 = .ok (.lstore 4, 2) := by decide +kernel
theorem dX10_foldRow_84 : decode cX10_foldRow 84 = .ok (.iinc 7 1, 3) := by decide +kernel
theorem dX10_foldRow_87 : decode cX10_foldRow 87 = .ok (.goto (-31), 3) := by decide +kernel
theorem dX10_foldRow_90 : decode cX10_foldRow 90 = .ok (.iconst 0, 1) := by decide +kernel
theorem dX10_foldRow_91 : decode cX10_foldRow 91 = .ok (.istore 7, 2) := by decide +kernel
theorem dX10_foldRow_93 : decode cX10_foldRow 93 = .ok (.iload 7, 2) := by decide +kernel
theorem dX10_foldRow_95 : decode cX10_foldRow 95 = .ok (.iconst 3, 1) := by decide +kernel
theorem dX10_foldRow_96 : decode cX10_foldRow 96 = .ok (.if_icmp .ge 30, 3) := by decide +kernel
theorem dX10_foldRow_99 : decode cX10_foldRow 99 = .ok (.lload 4, 2) := by decide +kernel
theorem dX10_foldRow_101 : decode cX10_foldRow 101 = .ok (.aload_n 0, 1) := by decide +kernel
theorem dX10_foldRow_102 : decode cX10_foldRow 102 = .ok (.getfield 10, 3) := by decide +kernel
theorem dX10_foldRow_105 : decode cX10_foldRow 105 = .ok (.iload_n 3, 1) := by decide +kernel
theorem dX10_foldRow_106 : decode cX10_foldRow 106 = .ok (.invokevirtual 70, 3) := by decide +kernel
theorem dX10_foldRow_109 : decode cX10_foldRow 109 = .ok (.iload 7, 2) := by decide +kernel
theorem dX10_foldRow_111 : decode cX10_foldRow 111 = .ok (.invokevirtual 244, 3) := by decide +kernel
theorem dX10_foldRow_114 : decode cX10_foldRow 114 = .ok (.i2l, 1) := by decide +kernel
theorem dX10_foldRow_115 : decode cX10_foldRow 115 = .ok (.invokestatic 268, 3) := by decide +kernel
theorem dX10_foldRow_118 : decode cX10_foldRow 118 = .ok (.lstore 4, 2) := by decide +kernel
theorem dX10_foldRow_120 : decode cX10_foldRow 120 = .ok (.iinc 7 1, 3) := by decide +kernel
theorem dX10_foldRow_123 : decode cX10_foldRow 123 = .ok (.goto (-30), 3) := by decide +kernel
theorem dX10_foldRow_126 : decode cX10_foldRow 126 = .ok (.lload 4, 2) := by decide +kernel
theorem dX10_foldRow_128 : decode cX10_foldRow 128 = .ok (.lreturn, 1) := by decide +kernel
theorem dX10_foldAnchors_0 : decode cX10_foldAnchors 0 = .ok (.lload_n 1, 1) := by decide +kernel
theorem dX10_foldAnchors_1 : decode cX10_foldAnchors 1 = .ok (.lstore_n 3, 1) := by decide +kernel
theorem dX10_foldAnchors_2 : decode cX10_foldAnchors 2 = .ok (.iconst 0, 1) := by decide +kernel
theorem dX10_foldAnchors_3 : decode cX10_foldAnchors 3 = .ok (.istore 5, 2) := by decide +kernel
theorem dX10_foldAnchors_5 : decode cX10_foldAnchors 5 = .ok (.iload 5, 2) := by decide +kernel
theorem dX10_foldAnchors_7 : decode cX10_foldAnchors 7 = .ok (.aload_n 0, 1) := by decide +kernel
theorem dX10_foldAnchors_8 : decode cX10_foldAnchors 8 = .ok (.getfield 49, 3) := by decide +kernel
theorem dX10_foldAnchors_11 : decode cX10_foldAnchors 11 = .ok (.getfield 141, 3) := by decide +kernel
theorem dX10_foldAnchors_14 : decode cX10_foldAnchors 14 = .ok (.getfield 145, 3) := by decide +kernel
theorem dX10_foldAnchors_17 : decode cX10_foldAnchors 17 = .ok (.if_icmp .ge 41, 3) := by decide +kernel
theorem dX10_foldAnchors_20 : decode cX10_foldAnchors 20 = .ok (.iconst 0, 1) := by decide +kernel
theorem dX10_foldAnchors_21 : decode cX10_foldAnchors 21 = .ok (.istore 6, 2) := by decide +kernel
theorem dX10_foldAnchors_23 : decode cX10_foldAnchors 23 = .ok (.iload 6, 2) := by decide +kernel
theorem dX10_foldAnchors_25 : decode cX10_foldAnchors 25 = .ok (.iconst 4, 1) := by decide +kernel
theorem dX10_foldAnchors_26 : decode cX10_foldAnchors 26 = .ok (.if_icmp .ge 26, 3) := by decide +kernel
theorem dX10_foldAnchors_29 : decode cX10_foldAnchors 29 = .ok (.lload_n 3, 1) := by decide +kernel
theorem dX10_foldAnchors_30 : decode cX10_foldAnchors 30 = .ok (.aload_n 0, 1) := by decide +kernel
theorem dX10_foldAnchors_31 : decode cX10_foldAnchors 31 = .ok (.getfield 49, 3) := by decide +kernel
theorem dX10_foldAnchors_34 : decode cX10_foldAnchors 34 = .ok (.iload 5, 2) := by decide +kernel
theorem dX10_foldAnchors_36 : decode cX10_foldAnchors 36 = .ok (.iload 6, 2) := by decide +kernel
theorem dX10_foldAnchors_38 : decode cX10_foldAnchors 38 = .ok (.invokevirtual 224, 3) := by decide +kernel
theorem dX10_foldAnchors_41 : decode cX10_foldAnchors 41 = .ok (.i2l, 1) := by decide +kernel
theorem dX10_foldAnchors_42 : decode cX10_foldAnchors 42 = .ok (.invokestatic 268, 3) := by decide +kernel
theorem dX10_foldAnchors_45 : decode cX10_foldAnchors 45 = .ok (.lstore_n 3, 1) := by decide +kernel
theorem dX10_foldAnchors_46 : decode cX10_foldAnchors 46 = .ok (.iinc 6 1, 3) := by decide +kernel
theorem dX10_foldAnchors_49 : decode cX10_foldAnchors 49 = .ok (.goto (-26), 3) := by decide +kernel
theorem dX10_foldAnchors_52 : decode cX10_foldAnchors 52 = .ok (.iinc 5 1, 3) := by decide +kernel
theorem dX10_foldAnchors_55 : decode cX10_foldAnchors 55 = .ok (.goto (-50), 3) := by decide +kernel
theorem dX10_foldAnchors_58 : decode cX10_foldAnchors 58 = .ok (.iconst 0, 1) := by decide +kernel
theorem dX10_foldAnchors_59 : decode cX10_foldAnchors 59 = .ok (.istore 5, 2) := by decide +kernel
theorem dX10_foldAnchors_61 : decode cX10_foldAnchors 61 = .ok (.iload 5, 2) := by decide +kernel
theorem dX10_foldAnchors_63 : decode cX10_foldAnchors 63 = .ok (.aload_n 0, 1) := by decide +kernel
theorem dX10_foldAnchors_64 : decode cX10_foldAnchors 64 = .ok (.getfield 59, 3) := by decide +kernel
theorem dX10_foldAnchors_67 : decode cX10_foldAnchors 67 = .ok (.getfield 227, 3) := by decide +kernel
theorem dX10_foldAnchors_70 : decode cX10_foldAnchors 70 = .ok (.getfield 145, 3) := by decide +kernel
theorem dX10_foldAnchors_73 : decode cX10_foldAnchors 73 = .ok (.if_icmp .ge 41, 3) := by decide +kernel
theorem dX10_foldAnchors_76 : decode cX10_foldAnchors 76 = .ok (.iconst 0, 1) := by decide +kernel
theorem dX10_foldAnchors_77 : decode cX10_foldAnchors 77 = .ok (.istore 6, 2) := by decide +kernel
theorem dX10_foldAnchors_79 : decode cX10_foldAnchors 79 = .ok (.iload 6, 2) := by decide +kernel
theorem dX10_foldAnchors_81 : decode cX10_foldAnchors 81 = .ok (.iconst 3, 1) := by decide +kernel
theorem dX10_foldAnchors_82 : decode cX10_foldAnchors 82 = .ok (.if_icmp .ge 26, 3) := by decide +kernel
theorem dX10_foldAnchors_85 : decode cX10_foldAnchors 85 = .ok (.lload_n 3, 1) := by decide +kernel
theorem dX10_foldAnchors_86 : decode cX10_foldAnchors 86 = .ok (.aload_n 0, 1) := by decide +kernel
theorem dX10_foldAnchors_87 : decode cX10_foldAnchors 87 = .ok (.getfield 59, 3) := by decide +kernel
theorem dX10_foldAnchors_90 : decode cX10_foldAnchors 90 = .ok (.iload 5, 2) := by decide +kernel
theorem dX10_foldAnchors_92 : decode cX10_foldAnchors 92 = .ok (.iload 6, 2) := by decide +kernel
theorem dX10_foldAnchors_94 : decode cX10_foldAnchors 94 = .ok (.invokevirtual 230, 3) := by decide +kernel
theorem dX10_foldAnchors_97 : decode cX10_foldAnchors 97 = .ok (.i2l, 1) := by decide +kernel
theorem dX10_foldAnchors_98 : decode cX10_foldAnchors 98 = .ok (.invokestatic 268, 3) := by decide +kernel
theorem dX10_foldAnchors_101 : decode cX10_foldAnchors 101 = .ok (.lstore_n 3, 1) := by decide +kernel
theorem dX10_foldAnchors_102 : decode cX10_foldAnchors 102 = .ok (.iinc 6 1, 3) := by decide +kernel
theorem dX10_foldAnchors_105 : decode cX10_foldAnchors 105 = .ok (.goto (-26), 3) := by decide +kernel
theorem dX10_foldAnchors_108 : decode cX10_foldAnchors 108 = .ok (.iinc 5 1, 3) := by decide +kernel
theorem dX10_foldAnchors_111 : decode cX10_foldAnchors 111 = .ok (.goto (-50), 3) := by decide +kernel
theorem dX10_foldAnchors_114 : decode cX10_foldAnchors 114 = .ok (.lload_n 3, 1) := by decide +kernel
theorem dX10_foldAnchors_115 : decode cX10_foldAnchors 115 = .ok (.lreturn, 1) := by decide +kernel
theorem dX10_foldGaps_0 : decode cX10_foldGaps 0 = .ok (.lload_n 1, 1) := by decide +kernel
theorem dX10_foldGaps_1 : decode cX10_foldGaps 1 = .ok (.lstore_n 3, 1) := by decide +kernel
theorem dX10_foldGaps_2 : decode cX10_foldGaps 2 = .ok (.iconst 0, 1) := by decide +kernel
theorem dX10_foldGaps_3 : decode cX10_foldGaps 3 = .ok (.istore 5, 2) := by decide +kernel
theorem dX10_foldGaps_5 : decode cX10_foldGaps 5 = .ok (.iload 5, 2) := by decide +kernel
theorem dX10_foldGaps_7 : decode cX10_foldGaps 7 = .ok (.aload_n 0, 1) := by decide +kernel
theorem dX10_foldGaps_8 : decode cX10_foldGaps 8 = .ok (.getfield 49, 3) := by decide +kernel
theorem dX10_foldGaps_11 : decode cX10_foldGaps 11 = .ok (.getfield 317, 3) := by decide +kernel
theorem dX10_foldGaps_14 : decode cX10_foldGaps 14 = .ok (.if_icmp .ge 41, 3) := by decide +kernel
theorem dX10_foldGaps_17 : decode cX10_foldGaps 17 = .ok (.iconst 0, 1) := by decide +kernel
theorem dX10_foldGaps_18 : decode cX10_foldGaps 18 = .ok (.istore 6, 2) := by decide +kernel
theorem dX10_foldGaps_20 : decode cX10_foldGaps 20 = .ok (.iload 6, 2) := by decide +kernel
theorem dX10_foldGaps_22 : decode cX10_foldGaps 22 = .ok (.iconst 5, 1) := by decide +kernel
theorem dX10_foldGaps_23 : decode cX10_foldGaps 23 = .ok (.if_icmp .ge 26, 3) := by decide +kernel
theorem dX10_foldGaps_26 : decode cX10_foldGaps 26 = .ok (.lload_n 3, 1) := by decide +kernel
theorem dX10_foldGaps_27 : decode cX10_foldGaps 27 = .ok (.aload_n 0, 1) := by decide +kernel
theorem dX10_foldGaps_28 : decode cX10_foldGaps 28 = .ok (.getfield 49, 3) := by decide +kernel
theorem dX10_foldGaps_31 : decode cX10_foldGaps 31 = .ok (.iload 5, 2) := by decide +kernel
theorem dX10_foldGaps_33 : decode cX10_foldGaps 33 = .ok (.iload 6, 2) := by decide +kernel
theorem dX10_foldGaps_35 : decode cX10_foldGaps 35 = .ok (.invokevirtual 235, 3) := by decide +kernel
theorem dX10_foldGaps_38 : decode cX10_foldGaps 38 = .ok (.i2l, 1) := by decide +kernel
theorem dX10_foldGaps_39 : decode cX10_foldGaps 39 = .ok (.invokestatic 268, 3) := by decide +kernel
theorem dX10_foldGaps_42 : decode cX10_foldGaps 42 = .ok (.lstore_n 3, 1) := by decide +kernel
theorem dX10_foldGaps_43 : decode cX10_foldGaps 43 = .ok (.iinc 6 1, 3) := by decide +kernel
theorem dX10_foldGaps_46 : decode cX10_foldGaps 46 = .ok (.goto (-26), 3) := by decide +kernel
theorem dX10_foldGaps_49 : decode cX10_foldGaps 49 = .ok (.iinc 5 1, 3) := by decide +kernel
theorem dX10_foldGaps_52 : decode cX10_foldGaps 52 = .ok (.goto (-47), 3) := by decide +kernel
theorem dX10_foldGaps_55 : decode cX10_foldGaps 55 = .ok (.lload_n 3, 1) := by decide +kernel
theorem dX10_foldGaps_56 : decode cX10_foldGaps 56 = .ok (.lreturn, 1) := by decide +kernel
theorem dX10_foldText_0 : decode cX10_foldText 0 = .ok (.lload_n 1, 1) := by decide +kernel
theorem dX10_foldText_1 : decode cX10_foldText 1 = .ok (.aload_n 0, 1) := by decide +kernel
theorem dX10_foldText_2 : decode cX10_foldText 2 = .ok (.getfield 42, 3) := by decide +kernel
theorem dX10_foldText_5 : decode cX10_foldText 5 = .ok (.invokevirtual 175, 3) := by decide +kernel
theorem dX10_foldText_8 : decode cX10_foldText 8 = .ok (.i2l, 1) := by decide +kernel
theorem dX10_foldText_9 : decode cX10_foldText 9 = .ok (.invokestatic 268, 3) := by decide +kernel
theorem dX10_foldText_12 : decode cX10_foldText 12 = .ok (.lstore_n 3, 1) := by decide +kernel
theorem dX10_foldText_13 : decode cX10_foldText 13 = .ok (.iconst 0, 1) := by decide +kernel
theorem dX10_foldText_14 : decode cX10_foldText 14 = .ok (.istore 5, 2) := by decide +kernel
theorem dX10_foldText_16 : decode cX10_foldText 16 = .ok (.iload 5, 2) := by decide +kernel
theorem dX10_foldText_18 : decode cX10_foldText 18 = .ok (.aload_n 0, 1) := by decide +kernel
theorem dX10_foldText_19 : decode cX10_foldText 19 = .ok (.getfield 42, 3) := by decide +kernel
theorem dX10_foldText_22 : decode cX10_foldText 22 = .ok (.invokevirtual 175, 3) := by decide +kernel
theorem dX10_foldText_25 : decode cX10_foldText 25 = .ok (.if_icmp .ge 24, 3) := by decide +kernel
theorem dX10_foldText_28 : decode cX10_foldText 28 = .ok (.lload_n 3, 1) := by decide +kernel
theorem dX10_foldText_29 : decode cX10_foldText 29 = .ok (.aload_n 0, 1) := by decide +kernel
theorem dX10_foldText_30 : decode cX10_foldText 30 = .ok (.getfield 42, 3) := by decide +kernel
theorem dX10_foldText_33 : decode cX10_foldText 33 = .ok (.iload 5, 2) := by decide +kernel
theorem dX10_foldText_35 : decode cX10_foldText 35 = .ok (.invokevirtual 345, 3) := by decide +kernel
theorem dX10_foldText_38 : decode cX10_foldText 38 = .ok (.i2l, 1) := by decide +kernel
theorem dX10_foldText_39 : decode cX10_foldText 39 = .ok (.invokestatic 268, 3) := by decide +kernel
theorem dX10_foldText_42 : decode cX10_foldText 42 = .ok (.lstore_n 3, 1) := by decide +kernel
theorem dX10_foldText_43 : decode cX10_foldText 43 = .ok (.iinc 5 1, 3) := by decide +kernel
theorem dX10_foldText_46 : decode cX10_foldText 46 = .ok (.goto (-30), 3) := by decide +kernel
theorem dX10_foldText_49 : decode cX10_foldText 49 = .ok (.lload_n 3, 1) := by decide +kernel
theorem dX10_foldText_50 : decode cX10_foldText 50 = .ok (.lreturn, 1) := by decide +kernel
theorem dX10_bitsOfShare_0 : decode cX10_bitsOfShare 0 = .ok (.dload_n 0, 1) := by decide +kernel
theorem dX10_bitsOfShare_1 : decode cX10_bitsOfShare 1 = .ok (.dconst 0, 1) := by decide +kernel
theorem dX10_bitsOfShare_2 : decode cX10_bitsOfShare 2 = .ok (.dcmp .g, 1) := by decide +kernel
theorem dX10_bitsOfShare_3 : decode cX10_bitsOfShare 3 = .ok (.ifCond .gt 5, 3) := by decide +kernel
theorem dX10_bitsOfShare_6 : decode cX10_bitsOfShare 6 = .ok (.lconst 0, 1) := by decide +kernel
theorem dX10_bitsOfShare_7 : decode cX10_bitsOfShare 7 = .ok (.lreturn, 1) := by decide +kernel
theorem dX10_bitsOfShare_8 : decode cX10_bitsOfShare 8 = .ok (.dload_n 0, 1) := by decide +kernel
theorem dX10_bitsOfShare_9 : decode cX10_bitsOfShare 9 = .ok (.dstore_n 2, 1) := by decide +kernel
theorem dX10_bitsOfShare_10 : decode cX10_bitsOfShare 10 = .ok (.ldc2_w 348, 3) := by decide +kernel
theorem dX10_bitsOfShare_13 : decode cX10_bitsOfShare 13 = .ok (.lstore 4, 2) := by decide +kernel
theorem dX10_bitsOfShare_15 : decode cX10_bitsOfShare 15 = .ok (.iconst 0, 1) := by decide +kernel
theorem dX10_bitsOfShare_16 : decode cX10_bitsOfShare 16 = .ok (.istore 6, 2) := by decide +kernel
theorem dX10_bitsOfShare_18 : decode cX10_bitsOfShare 18 = .ok (.iload 6, 2) := by decide +kernel
theorem dX10_bitsOfShare_20 : decode cX10_bitsOfShare 20 = .ok (.bipush 64, 2) := by decide +kernel
theorem dX10_bitsOfShare_22 : decode cX10_bitsOfShare 22 = .ok (.if_icmp .ge 27, 3) := by decide +kernel
theorem dX10_bitsOfShare_25 : decode cX10_bitsOfShare 25 = .ok (.dload_n 2, 1) := by decide +kernel
theorem dX10_bitsOfShare_26 : decode cX10_bitsOfShare 26 = .ok (.dconst 1, 1) := by decide +kernel
theorem dX10_bitsOfShare_27 : decode cX10_bitsOfShare 27 = .ok (.dcmp .g, 1) := by decide +kernel
theorem dX10_bitsOfShare_28 : decode cX10_bitsOfShare 28 = .ok (.ifCond .ge 21, 3) := by decide +kernel
theorem dX10_bitsOfShare_31 : decode cX10_bitsOfShare 31 = .ok (.dload_n 2, 1) := by decide +kernel
theorem dX10_bitsOfShare_32 : decode cX10_bitsOfShare 32 = .ok (.ldc2_w 338, 3) := by decide +kernel
theorem dX10_bitsOfShare_35 : decode cX10_bitsOfShare 35 = .ok (.dmul, 1) := by decide +kernel
theorem dX10_bitsOfShare_36 : decode cX10_bitsOfShare 36 = .ok (.dstore_n 2, 1) := by decide +kernel
theorem dX10_bitsOfShare_37 : decode cX10_bitsOfShare 37 = .ok (.lload 4, 2) := by decide +kernel
theorem dX10_bitsOfShare_39 : decode cX10_bitsOfShare 39 = .ok (.lconst 1, 1) := by decide +kernel
theorem dX10_bitsOfShare_40 : decode cX10_bitsOfShare 40 = .ok (.lsub, 1) := by decide +kernel
theorem dX10_bitsOfShare_41 : decode cX10_bitsOfShare 41 = .ok (.lstore 4, 2) := by decide +kernel
theorem dX10_bitsOfShare_43 : decode cX10_bitsOfShare 43 = .ok (.iinc 6 1, 3) := by decide +kernel
theorem dX10_bitsOfShare_46 : decode cX10_bitsOfShare 46 = .ok (.goto (-28), 3) := by decide +kernel
theorem dX10_bitsOfShare_49 : decode cX10_bitsOfShare 49 = .ok (.dload_n 2, 1) := by decide +kernel
theorem dX10_bitsOfShare_50 : decode cX10_bitsOfShare 50 = .ok (.dconst 1, 1) := by decide +kernel
theorem dX10_bitsOfShare_51 : decode cX10_bitsOfShare 51 = .ok (.dsub, 1) := by decide +kernel
theorem dX10_bitsOfShare_52 : decode cX10_bitsOfShare 52 = .ok (.ldc2_w 350, 3) := by decide +kernel
theorem dX10_bitsOfShare_55 : decode cX10_bitsOfShare 55 = .ok (.dmul, 1) := by decide +kernel
theorem dX10_bitsOfShare_56 : decode cX10_bitsOfShare 56 = .ok (.d2l, 1) := by decide +kernel
theorem dX10_bitsOfShare_57 : decode cX10_bitsOfShare 57 = .ok (.lstore 6, 2) := by decide +kernel
theorem dX10_bitsOfShare_59 : decode cX10_bitsOfShare 59 = .ok (.lload 4, 2) := by decide +kernel
theorem dX10_bitsOfShare_61 : decode cX10_bitsOfShare 61 = .ok (.bipush 52, 2) := by decide +kernel
theorem dX10_bitsOfShare_63 : decode cX10_bitsOfShare 63 = .ok (.lshl, 1) := by decide +kernel
theorem dX10_bitsOfShare_64 : decode cX10_bitsOfShare 64 = .ok (.lload 6, 2) := by decide +kernel
theorem dX10_bitsOfShare_66 : decode cX10_bitsOfShare 66 = .ok (.ladd, 1) := by decide +kernel
theorem dX10_bitsOfShare_67 : decode cX10_bitsOfShare 67 = .ok (.lreturn, 1) := by decide +kernel
