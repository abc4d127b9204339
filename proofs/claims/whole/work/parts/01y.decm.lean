theorem dX8_init_0 : decode cX8_init 0 = .ok (.aload_n 0, 1) := by decide +kernel
theorem dX8_init_1 : decode cX8_init 1 = .ok (.invokespecial 1, 3) := by decide +kernel
theorem dX8_init_4 : decode cX8_init 4 = .ok (.aload_n 0, 1) := by decide +kernel
theorem dX8_init_5 : decode cX8_init 5 = .ok (.bipush 8, 2) := by decide +kernel
theorem dX8_init_7 : decode cX8_init 7 = .ok (.newarray .int, 2) := by decide +kernel
theorem dX8_init_9 : decode cX8_init 9 = .ok (.putfield 7, 3) := by decide +kernel
theorem dX8_init_12 : decode cX8_init 12 = .ok (.aload_n 0, 1) := by decide +kernel
theorem dX8_init_13 : decode cX8_init 13 = .ok (.bipush 8, 2) := by decide +kernel
theorem dX8_init_15 : decode cX8_init 15 = .ok (.newarray .int, 2) := by decide +kernel
theorem dX8_init_17 : decode cX8_init 17 = .ok (.putfield 13, 3) := by decide +kernel
theorem dX8_init_20 : decode cX8_init 20 = .ok (.aload_n 0, 1) := by decide +kernel
theorem dX8_init_21 : decode cX8_init 21 = .ok (.sipush 320, 3) := by decide +kernel
theorem dX8_init_24 : decode cX8_init 24 = .ok (.newarray .int, 2) := by decide +kernel
theorem dX8_init_26 : decode cX8_init 26 = .ok (.putfield 16, 3) := by decide +kernel
theorem dX8_init_29 : decode cX8_init 29 = .ok (.aload_n 0, 1) := by decide +kernel
theorem dX8_init_30 : decode cX8_init 30 = .ok (.bipush 29, 2) := by decide +kernel
theorem dX8_init_32 : decode cX8_init 32 = .ok (.newarray .int, 2) := by decide +kernel
theorem dX8_init_34 : decode cX8_init 34 = .ok (.putfield 19, 3) := by decide +kernel
theorem dX8_init_37 : decode cX8_init 37 = .ok (.aload_n 0, 1) := by decide +kernel
theorem dX8_init_38 : decode cX8_init 38 = .ok (.bipush 40, 2) := by decide +kernel
theorem dX8_init_40 : decode cX8_init 40 = .ok (.newarray .int, 2) := by decide +kernel
theorem dX8_init_42 : decode cX8_init 42 = .ok (.putfield 22, 3) := by decide +kernel
theorem dX8_init_45 : decode cX8_init 45 = .ok (.aload_n 0, 1) := by decide +kernel
theorem dX8_init_46 : decode cX8_init 46 = .ok (.bipush 100, 2) := by decide +kernel
theorem dX8_init_48 : decode cX8_init 48 = .ok (.newarray .int, 2) := by decide +kernel
theorem dX8_init_50 : decode cX8_init 50 = .ok (.putfield 25, 3) := by decide +kernel
theorem dX8_init_53 : decode cX8_init 53 = .ok (.aload_n 0, 1) := by decide +kernel
theorem dX8_init_54 : decode cX8_init 54 = .ok (.bipush 29, 2) := by decide +kernel
theorem dX8_init_56 : decode cX8_init 56 = .ok (.newarray .int, 2) := by decide +kernel
theorem dX8_init_58 : decode cX8_init 58 = .ok (.putfield 28, 3) := by decide +kernel
theorem dX8_init_61 : decode cX8_init 61 = .ok (.aload_n 0, 1) := by decide +kernel
theorem dX8_init_62 : decode cX8_init 62 = .ok (.sipush 696, 3) := by decide +kernel
theorem dX8_init_65 : decode cX8_init 65 = .ok (.newarray .int, 2) := by decide +kernel
theorem dX8_init_67 : decode cX8_init 67 = .ok (.putfield 31, 3) := by decide +kernel
theorem dX8_init_70 : decode cX8_init 70 = .ok (.aload_n 0, 1) := by decide +kernel
theorem dX8_init_71 : decode cX8_init 71 = .ok (.bipush 29, 2) := by decide +kernel
theorem dX8_init_73 : decode cX8_init 73 = .ok (.newarray .int, 2) := by decide +kernel
theorem dX8_init_75 : decode cX8_init 75 = .ok (.putfield 34, 3) := by decide +kernel
theorem dX8_init_78 : decode cX8_init 78 = .ok (.aload_n 0, 1) := by decide +kernel
theorem dX8_init_79 : decode cX8_init 79 = .ok (.sipush 625, 3) := by decide +kernel
theorem dX8_init_82 : decode cX8_init 82 = .ok (.newarray .int, 2) := by decide +kernel
theorem dX8_init_84 : decode cX8_init 84 = .ok (.putfield 37, 3) := by decide +kernel
theorem dX8_init_87 : decode cX8_init 87 = .ok (.aload_n 0, 1) := by decide +kernel
theorem dX8_init_88 : decode cX8_init 88 = .ok (.iconst 2, 1) := by decide +kernel
theorem dX8_init_89 : decode cX8_init 89 = .ok (.newarray .boolean, 2) := by decide +kernel
theorem dX8_init_91 : decode cX8_init 91 = .ok (.putfield 40, 3) := by decide +kernel
theorem dX8_init_94 : decode cX8_init 94 = .ok (.aload_n 0, 1) := by decide +kernel
theorem dX8_init_95 : decode cX8_init 95 = .ok (.bipush 58, 2) := by decide +kernel
theorem dX8_init_97 : decode cX8_init 97 = .ok (.newarray .int, 2) := by decide +kernel
theorem dX8_init_99 : decode cX8_init 99 = .ok (.putfield 44, 3) := by decide +kernel
theorem dX8_init_102 : decode cX8_init 102 = .ok (.aload_n 0, 1) := by decide +kernel
theorem dX8_init_103 : decode cX8_init 103 = .ok (.bipush 16, 2) := by decide +kernel
theorem dX8_init_105 : decode cX8_init 105 = .ok (.newarray .int, 2) := by decide +kernel
theorem dX8_init_107 : decode cX8_init 107 = .ok (.putfield 47, 3) := by decide +kernel
theorem dX8_init_110 : decode cX8_init 110 = .ok (.iconst 0, 1) := by decide +kernel
theorem dX8_init_111 : decode cX8_init 111 = .ok (.istore_n 1, 1) := by decide +kernel
theorem dX8_init_112 : decode cX8_init 112 = .ok (.iload_n 1, 1) := by decide +kernel
theorem dX8_init_113 : decode cX8_init 113 = .ok (.bipush 8, 2) := by decide +kernel
theorem dX8_init_115 : decode cX8_init 115 = .ok (.if_icmp .ge 16, 3) := by decide +kernel
theorem dX8_init_118 : decode cX8_init 118 = .ok (.aload_n 0, 1) := by decide +kernel
theorem dX8_init_119 : decode cX8_init 119 = .ok (.getfield 13, 3) := by decide +kernel
theorem dX8_init_122 : decode cX8_init 122 = .ok (.iload_n 1, 1) := by decide +kernel
theorem dX8_init_123 : decode cX8_init 123 = .ok (.iconst (-1), 1) := by decide +kernel
theorem dX8_init_124 : decode cX8_init 124 = .ok (.iastore, 1) := by decide +kernel
theorem dX8_init_125 : decode cX8_init 125 = .ok (.iinc 1 1, 3) := by decide +kernel
theorem dX8_init_128 : decode cX8_init 128 = .ok (.goto (-16), 3) := by decide +kernel
theorem dX8_init_131 : decode cX8_init 131 = .ok (.return_, 1) := by decide +kernel
theorem dX8_in_0 : decode cX8_in 0 = .ok (.lload_n 0, 1) := by decide +kernel
theorem dX8_in_1 : decode cX8_in 1 = .ok (.lload_n 2, 1) := by decide +kernel
theorem dX8_in_2 : decode cX8_in 2 = .ok (.lcmp, 1) := by decide +kernel
theorem dX8_in_3 : decode cX8_in 3 = .ok (.ifCond .lt 14, 3) := by decide +kernel
theorem dX8_in_6 : decode cX8_in 6 = .ok (.lload_n 0, 1) := by decide +kernel
theorem dX8_in_7 : decode cX8_in 7 = .ok (.lload 4, 2) := by decide +kernel
theorem dX8_in_9 : decode cX8_in 9 = .ok (.lcmp, 1) := by decide +kernel
theorem dX8_in_10 : decode cX8_in 10 = .ok (.ifCond .gt 7, 3) := by decide +kernel
theorem dX8_in_13 : decode cX8_in 13 = .ok (.iconst 1, 1) := by decide +kernel
theorem dX8_in_14 : decode cX8_in 14 = .ok (.goto 4, 3) := by decide +kernel
theorem dX8_in_17 : decode cX8_in 17 = .ok (.iconst 0, 1) := by decide +kernel
theorem dX8_in_18 : decode cX8_in 18 = .ok (.ireturn, 1) := by decide +kernel
theorem dX8_has_0 : decode cX8_has 0 = .ok (.iload_n 0, 1) := by decide +kernel
theorem dX8_has_1 : decode cX8_has 1 = .ok (.iload_n 1, 1) := by decide +kernel
theorem dX8_has_2 : decode cX8_has 2 = .ok (.ishr, 1) := by decide +kernel
theorem dX8_has_3 : decode cX8_has 3 = .ok (.iconst 1, 1) := by decide +kernel
theorem dX8_has_4 : decode cX8_has 4 = .ok (.iand, 1) := by decide +kernel
theorem dX8_has_5 : decode cX8_has 5 = .ok (.iconst 1, 1) := by decide +kernel
theorem dX8_has_6 : decode cX8_has 6 = .ok (.if_icmp .ne 7, 3) := by decide +kernel
theorem dX8_has_9 : decode cX8_has 9 = .ok (.iconst 1, 1) := by decide +kernel
theorem dX8_has_10 : decode cX8_has 10 = .ok (.goto 4, 3) := by decide +kernel
theorem dX8_has_13 : decode cX8_has 13 = .ok (.iconst 0, 1) := by decide +kernel
theorem dX8_has_14 : decode cX8_has 14 = .ok (.ireturn, 1) := by decide +kernel
theorem dX8_ones_0 : decode cX8_ones 0 = .ok (.iconst 0, 1) := by decide +kernel
theorem dX8_ones_1 : decode cX8_ones 1 = .ok (.istore_n 1, 1) := by decide +kernel
theorem dX8_ones_2 : decode cX8_ones 2 = .ok (.iload_n 0, 1) := by decide +kernel
theorem dX8_ones_3 : decode cX8_ones 3 = .ok (.istore_n 2, 1) := by decide +kernel
theorem dX8_ones_4 : decode cX8_ones 4 = .ok (.iload_n 2, 1) := by decide +kernel
theorem dX8_ones_5 : decode cX8_ones 5 = .ok (.ifCond .eq 15, 3) := by decide +kernel
theorem dX8_ones_8 : decode cX8_ones 8 = .ok (.iinc 1 1, 3) := by decide +kernel
theorem dX8_ones_11 : decode cX8_ones 11 = .ok (.iload_n 2, 1) := by decide +kernel
theorem dX8_ones_12 : decode cX8_ones 12 = .ok (.iload_n 2, 1) := by decide +kernel
theorem dX8_ones_13 : decode cX8_ones 13 = .ok (.iconst 1, 1) := by decide +kernel
theorem dX8_ones_14 : decode cX8_ones 14 = .ok (.isub, 1) := by decide +kernel
theorem dX8_ones_15 : decode cX8_ones 15 = .ok (.iand, 1) := by decide +kernel
theorem dX8_ones_16 : decode cX8_ones 16 = .ok (.istore_n 2, 1) := by decide +kernel
theorem dX8_ones_17 : decode cX8_ones 17 = .ok (.goto (-13), 3) := by decide +kernel
theorem dX8_ones_20 : decode cX8_ones 20 = .ok (.iload_n 1, 1) := by decide +kernel
theorem dX8_ones_21 : decode cX8_ones 21 = .ok (.ireturn, 1) := by decide +kernel
theorem dX8_find_0 : decode cX8_find 0 = .ok (.aload_n 0, 1) := by decide +kernel
theorem dX8_find_1 : decode cX8_find 1 = .ok (.iload_n 1, 1) := by decide +kernel
theorem dX8_find_2 : decode cX8_find 2 = .ok (.putfield 50, 3) := by decide +kernel
theorem dX8_find_5 : decode cX8_find 5 = .ok (.ldc 54, 2) := by decide +kernel
theorem dX8_find_7 : decode cX8_find 7 = .ok (.iload_n 1, 1) := by decide +kernel
theorem dX8_find_8 : decode cX8_find 8 = .ok (.isub, 1) := by decide +kernel
theorem dX8_find_9 : decode cX8_find 9 = .ok (.ireturn, 1) := by decide +kernel
theorem dX8_well_0 : decode cX8_well 0 = .ok (.aload_n 0, 1) := by decide +kernel
theorem dX8_well_1 : decode cX8_well 1 = .ok (.iconst 0, 1) := by decide +kernel
theorem dX8_well_2 : decode cX8_well 2 = .ok (.putfield 50, 3) := by decide +kernel
theorem dX8_well_5 : decode cX8_well 5 = .ok (.iload_n 1, 1) := by decide +kernel
theorem dX8_well_6 : decode cX8_well 6 = .ok (.ireturn, 1) := by decide +kernel
theorem dX8_isRow_0 : decode cX8_isRow 0 = .ok (.iload_n 0, 1) := by decide +kernel
theorem dX8_isRow_1 : decode cX8_isRow 1 = .ok (.i2l, 1) := by decide +kernel
theorem dX8_isRow_2 : decode cX8_isRow 2 = .ok (.lconst 0, 1) := by decide +kernel
theorem dX8_isRow_3 : decode cX8_isRow 3 = .ok (.ldc2_w 55, 3) := by decide +kernel
theorem dX8_isRow_6 : decode cX8_isRow 6 = .ok (.invokestatic 57, 3) := by decide +kernel
theorem dX8_isRow_9 : decode cX8_isRow 9 = .ok (.ireturn, 1) := by decide +kernel
theorem dX8_row_0 : decode cX8_row 0 = .ok (.iload_n 1, 1) := by decide +kernel
theorem dX8_row_1 : decode cX8_row 1 = .ok (.invokestatic 61, 3) := by decide +kernel
theorem dX8_row_4 : decode cX8_row 4 = .ok (.ifCond .eq 21, 3) := by decide +kernel
theorem dX8_row_7 : decode cX8_row 7 = .ok (.iload_n 2, 1) := by decide +kernel
theorem dX8_row_8 : decode cX8_row 8 = .ok (.i2l, 1) := by decide +kernel
theorem dX8_row_9 : decode cX8_row 9 = .ok (.lconst 0, 1) := by decide +kernel
theorem dX8_row_10 : decode cX8_row 10 = .ok (.ldc2_w 65, 3) := by decide +kernel
theorem dX8_row_13 : decode cX8_row 13 = .ok (.invokestatic 57, 3) := by decide +kernel
theorem dX8_row_16 : decode cX8_row 16 = .ok (.ifCond .eq 9, 3) := by decide +kernel
theorem dX8_row_19 : decode cX8_row 19 = .ok (.iload_n 3, 1) := by decide +kernel
theorem dX8_row_20 : decode cX8_row 20 = .ok (.bipush 40, 2) := by decide +kernel
theorem dX8_row_22 : decode cX8_row 22 = .ok (.if_icmp .le 6, 3) := by decide +kernel
theorem dX8_row_25 : decode cX8_row 25 = .ok (.ldc 67, 2) := by decide +kernel
theorem dX8_row_27 : decode cX8_row 27 = .ok (.ireturn, 1) := by decide +kernel
theorem dX8_row_28 : decode cX8_row 28 = .ok (.iload_n 3, 1) := by decide +kernel
theorem dX8_row_29 : decode cX8_row 29 = .ok (.ifCond .ge 9, 3) := by decide +kernel
theorem dX8_row_32 : decode cX8_row 32 = .ok (.aload_n 0, 1) := by decide +kernel
theorem dX8_row_33 : decode cX8_row 33 = .ok (.iconst 4, 1) := by decide +kernel
theorem dX8_row_34 : decode cX8_row 34 = .ok (.invokevirtual 68, 3) := by decide +kernel
theorem dX8_row_37 : decode cX8_row 37 = .ok (.ireturn, 1) := by decide +kernel
theorem dX8_row_38 : decode cX8_row 38 = .ok (.aload_n 0, 1) := by decide +kernel
theorem dX8_row_39 : decode cX8_row 39 = .ok (.getfield 7, 3) := by decide +kernel
theorem dX8_row_42 : decode cX8_row 42 = .ok (.iload_n 1, 1) := by decide +kernel
theorem dX8_row_43 : decode cX8_row 43 = .ok (.iload_n 2, 1) := by decide +kernel
theorem dX8_row_44 : decode cX8_row 44 = .ok (.iastore, 1) := by decide +kernel
theorem dX8_row_45 : decode cX8_row 45 = .ok (.aload_n 0, 1) := by decide +kernel
theorem dX8_row_46 : decode cX8_row 46 = .ok (.getfield 13, 3) := by decide +kernel
theorem dX8_row_49 : decode cX8_row 49 = .ok (.iload_n 1, 1) := by decide +kernel
theorem dX8_row_50 : decode cX8_row 50 = .ok (.iload_n 3, 1) := by decide +kernel
theorem dX8_row_51 : decode cX8_row 51 = .ok (.iastore, 1) := by decide +kernel
theorem dX8_row_52 : decode cX8_row 52 = .ok (.iconst 0, 1) := by decide +kernel
theorem dX8_row_53 : decode cX8_row 53 = .ok (.istore 4, 2) := by decide +kernel
theorem dX8_row_55 : decode cX8_row 55 = .ok (.iload 4, 2) := by decide +kernel
theorem dX8_row_57 : decode cX8_row 57 = .ok (.bipush 40, 2) := by decide +kernel
theorem dX8_row_59 : decode cX8_row 59 = .ok (.if_icmp .ge 22, 3) := by decide +kernel
theorem dX8_row_62 : decode cX8_row 62 = .ok (.aload_n 0, 1) := by decide +kernel
theorem dX8_row_63 : decode cX8_row 63 = .ok (.getfield 16, 3) := by decide +kernel
theorem dX8_row_66 : decode cX8_row 66 = .ok (.bipush 40, 2) := by decide +kernel
theorem dX8_row_68 : decode cX8_row 68 = .ok (.iload_n 1, 1) := by decide +kernel
theorem dX8_row_69 : decode cX8_row 69 = .ok (.imul, 1) := by decide +kernel
theorem dX8_row_70 : decode cX8_row 70 = .ok (.iload 4, 2) := by decide +kernel
theorem dX8_row_72 : decode cX8_row 72 = .ok (.iadd, 1) := by decide +kernel
theorem dX8_row_73 : decode cX8_row 73 = .ok (.iconst 0, 1) := by decide +kernel
theorem dX8_row_74 : decode cX8_row 74 = .ok (.iastore, 1) := by decide +kernel
theorem dX8_row_75 : decode cX8_row 75 = .ok (.iinc 4 1, 3) := by decide +kernel
theorem dX8_row_78 : decode cX8_row 78 = .ok (.goto (-23), 3) := by decide +kernel
theorem dX8_row_81 : decode cX8_row 81 = .ok (.aload_n 0, 1) := by decide +kernel
theorem dX8_row_82 : decode cX8_row 82 = .ok (.iload_n 3, 1) := by decide +kernel
theorem dX8_row_83 : decode cX8_row 83 = .ok (.invokevirtual 72, 3) := by decide +kernel
theorem dX8_row_86 : decode cX8_row 86 = .ok (.ireturn, 1) := by decide +kernel
theorem dX8_asLane_0 : decode cX8_asLane 0 = .ok (.iload_n 0, 1) := by decide +kernel
theorem dX8_asLane_1 : decode cX8_asLane 1 = .ok (.ifCond .ne 13, 3) := by decide +kernel
theorem dX8_asLane_4 : decode cX8_asLane 4 = .ok (.iload_n 1, 1) := by decide +kernel
theorem dX8_asLane_5 : decode cX8_asLane 5 = .ok (.bipush 24, 2) := by decide +kernel
theorem dX8_asLane_7 : decode cX8_asLane 7 = .ok (.ishl, 1) := by decide +kernel
theorem dX8_asLane_8 : decode cX8_asLane 8 = .ok (.bipush 24, 2) := by decide +kernel
theorem dX8_asLane_10 : decode cX8_asLane 10 = .ok (.ishr, 1) := by decide +kernel
theorem dX8_asLane_11 : decode cX8_asLane 11 = .ok (.goto 19, 3) := by decide +kernel
theorem dX8_asLane_14 : decode cX8_asLane 14 = .ok (.iload_n 0, 1) := by decide +kernel
theorem dX8_asLane_15 : decode cX8_asLane 15 = .ok (.iconst 1, 1) := by decide +kernel
theorem dX8_asLane_16 : decode cX8_asLane 16 = .ok (.if_icmp .ne 13, 3) := by decide +kernel
theorem dX8_asLane_19 : decode cX8_asLane 19 = .ok (.iload_n 1, 1) := by decide +kernel
theorem dX8_asLane_20 : decode cX8_asLane 20 = .ok (.bipush 16, 2) := by decide +kernel
theorem dX8_asLane_22 : decode cX8_asLane 22 = .ok (.ishl, 1) := by decide +kernel
theorem dX8_asLane_23 : decode cX8_asLane 23 = .ok (.bipush 16, 2) := by decide +kernel
theorem dX8_asLane_25 : decode cX8_asLane 25 = .ok (.ishr, 1) := by decide +kernel
theorem dX8_asLane_26 : decode cX8_asLane 26 = .ok (.goto 4, 3) := by decide +kernel
theorem dX8_asLane_29 : decode cX8_asLane 29 = .ok (.iload_n 1, 1) := by decide +kernel
theorem dX8_asLane_30 : decode cX8_asLane 30 = .ok (.ireturn, 1) := by decide +kernel
theorem dX8_set_0 : decode cX8_set 0 = .ok (.iload_n 1, 1) := by decide +kernel
theorem dX8_set_1 : decode cX8_set 1 = .ok (.invokestatic 61, 3) := by decide +kernel
theorem dX8_set_4 : decode cX8_set 4 = .ok (.ifCond .ne 6, 3) := by decide +kernel
theorem dX8_set_7 : decode cX8_set 7 = .ok (.ldc 67, 2) := by decide +kernel
theorem dX8_set_9 : decode cX8_set 9 = .ok (.ireturn, 1) := by decide +kernel
theorem dX8_set_10 : decode cX8_set 10 = .ok (.aload_n 0, 1) := by decide +kernel
theorem dX8_set_11 : decode cX8_set 11 = .ok (.getfield 13, 3) := by decide +kernel
theorem dX8_set_14 : decode cX8_set 14 = .ok (.iload_n 1, 1) := by decide +kernel
theorem dX8_set_15 : decode cX8_set 15 = .ok (.iaload, 1) := by decide +kernel
theorem dX8_set_16 : decode cX8_set 16 = .ok (.ifCond .ge 9, 3) := by decide +kernel
theorem dX8_set_19 : decode cX8_set 19 = .ok (.aload_n 0, 1) := by decide +kernel
theorem dX8_set_20 : decode cX8_set 20 = .ok (.iconst 1, 1) := by decide +kernel
theorem dX8_set_21 : decode cX8_set 21 = .ok (.invokevirtual 68, 3) := by decide +kernel
theorem dX8_set_24 : decode cX8_set 24 = .ok (.ireturn, 1) := by decide +kernel
theorem dX8_set_25 : decode cX8_set 25 = .ok (.iload_n 2, 1) := by decide +kernel
theorem dX8_set_26 : decode cX8_set 26 = .ok (.i2l, 1) := by decide +kernel
theorem dX8_set_27 : decode cX8_set 27 = .ok (.lconst 0, 1) := by decide +kernel
theorem dX8_set_28 : decode cX8_set 28 = .ok (.aload_n 0, 1) := by decide +kernel
theorem dX8_set_29 : decode cX8_set 29 = .ok (.getfield 13, 3) := by decide +kernel
theorem dX8_set_32 : decode cX8_set 32 = .ok (.iload_n 1, 1) := by decide +kernel
theorem dX8_set_33 : decode cX8_set 33 = .ok (.iaload, 1) := by decide +kernel
theorem dX8_set_34 : decode cX8_set 34 = .ok (.iconst 1, 1) := by decide +kernel
theorem dX8_set_35 : decode cX8_set 35 = .ok (.isub, 1) := by decide +kernel
theorem dX8_set_36 : decode cX8_set 36 = .ok (.i2l, 1) := by decide +kernel
theorem dX8_set_37 : decode cX8_set 37 = .ok (.invokestatic 57, 3) := by decide +kernel
theorem dX8_set_40 : decode cX8_set 40 = .ok (.ifCond .ne 9, 3) := by decide +kernel
theorem dX8_set_43 : decode cX8_set 43 = .ok (.aload_n 0, 1) := by decide +kernel
theorem dX8_set_44 : decode cX8_set 44 = .ok (.iconst 2, 1) := by decide +kernel
theorem dX8_set_45 : decode cX8_set 45 = .ok (.invokevirtual 68, 3) := by decide +kernel
theorem dX8_set_48 : decode cX8_set 48 = .ok (.ireturn, 1) := by decide +kernel
theorem dX8_set_49 : decode cX8_set 49 = .ok (.aload_n 0, 1) := by decide +kernel
theorem dX8_set_50 : decode cX8_set 50 = .ok (.getfield 16, 3) := by decide +kernel
theorem dX8_set_53 : decode cX8_set 53 = .ok (.bipush 40, 2) := by decide +kernel
theorem dX8_set_55 : decode cX8_set 55 = .ok (.iload_n 1, 1) := by decide +kernel
theorem dX8_set_56 : decode cX8_set 56 = .ok (.imul, 1) := by decide +kernel
theorem dX8_set_57 : decode cX8_set 57 = .ok (.iload_n 2, 1) := by decide +kernel
theorem dX8_set_58 : decode cX8_set 58 = .ok (.iadd, 1) := by decide +kernel
theorem dX8_set_59 : decode cX8_set 59 = .ok (.aload_n 0, 1) := by decide +kernel
theorem dX8_set_60 : decode cX8_set 60 = .ok (.getfield 7, 3) := by decide +kernel
theorem dX8_set_63 : decode cX8_set 63 = .ok (.iload_n 1, 1) := by decide +kernel
theorem dX8_set_64 : decode cX8_set 64 = .ok (.iaload, 1) := by decide +kernel
theorem dX8_set_65 : decode cX8_set 65 = .ok (.iload_n 3, 1) := by decide +kernel
theorem dX8_set_66 : decode cX8_set 66 = .ok (.invokestatic 75, 3) := by decide +kernel
theorem dX8_set_69 : decode cX8_set 69 = .ok (.iastore, 1) := by decide +kernel
theorem dX8_set_70 : decode cX8_set 70 = .ok (.aload_n 0, 1) := by decide +kernel
theorem dX8_set_71 : decode cX8_set 71 = .ok (.aload_n 0, 1) := by decide +kernel
theorem dX8_set_72 : decode cX8_set 72 = .ok (.getfield 16, 3) := by decide +kernel
theorem dX8_set_75 : decode cX8_set 75 = .ok (.bipush 40, 2) := by decide +kernel
theorem dX8_set_77 : decode cX8_set 77 = .ok (.iload_n 1, 1) := by decide +kernel
theorem dX8_set_78 : decode cX8_set 78 = .ok (.imul, 1) := by decide +kernel
theorem dX8_set_79 : decode cX8_set 79 = .ok (.iload_n 2, 1) := by decide +kernel
theorem dX8_set_80 : decode cX8_set 80 = .ok (.iadd, 1) := by decide +kernel
theorem dX8_set_81 : decode cX8_set 81 = .ok (.iaload, 1) := by decide +kernel
theorem dX8_set_82 : decode cX8_set 82 = .ok (.invokevirtual 72, 3) := by decide +kernel
theorem dX8_set_85 : decode cX8_set 85 = .ok (.ireturn, 1) := by decide +kernel
theorem dX8_copy_0 : decode cX8_copy 0 = .ok (.iload_n 1, 1) := by decide +kernel
theorem dX8_copy_1 : decode cX8_copy 1 = .ok (.invokestatic 61, 3) := by decide +kernel
theorem dX8_copy_4 : decode cX8_copy 4 = .ok (.ifCond .eq 10, 3) := by decide +kernel
theorem dX8_copy_7 : decode cX8_copy 7 = .ok (.iload_n 3, 1) := by decide +kernel
theorem dX8_copy_8 : decode cX8_copy 8 = .ok (.invokestatic 61, 3) := by decide +kernel
theorem dX8_copy_11 : decode cX8_copy 11 = .ok (.ifCond .ne 6, 3) := by decide +kernel
theorem dX8_copy_14 : decode cX8_copy 14 = .ok (.ldc 67, 2) := by decide +kernel
theorem dX8_copy_16 : decode cX8_copy 16 = .ok (.ireturn, 1) := by decide +kernel
theorem dX8_copy_17 : decode cX8_copy 17 = .ok (.aload_n 0, 1) := by decide +kernel
theorem dX8_copy_18 : decode cX8_copy 18 = .ok (.getfield 13, 3) := by decide +kernel
theorem dX8_copy_21 : decode cX8_copy 21 = .ok (.iload_n 1, 1) := by decide +kernel
theorem dX8_copy_22 : decode cX8_copy 22 = .ok (.iaload, 1) := by decide +kernel
theorem dX8_copy_23 : decode cX8_copy 23 = .ok (.ifCond .lt 12, 3) := by decide +kernel
theorem dX8_copy_26 : decode cX8_copy 26 = .ok (.aload_n 0, 1) := by decide +kernel
theorem dX8_copy_27 : decode cX8_copy 27 = .ok (.getfield 13, 3) := by decide +kernel
theorem dX8_copy_30 : decode cX8_copy 30 = .ok (.iload_n 3, 1) := by decide +kernel
theorem dX8_copy_31 : decode cX8_copy 31 = .ok (.iaload, 1) := by decide +kernel
theorem dX8_copy_32 : decode cX8_copy 32 = .ok (.ifCond .ge 9, 3) := by decide +kernel
theorem dX8_copy_35 : decode cX8_copy 35 = .ok (.aload_n 0, 1) := by decide +kernel
theorem dX8_copy_36 : decode cX8_copy 36 = .ok (.iconst 1, 1) := by decide +kernel
theorem dX8_copy_37 : decode cX8_copy 37 = .ok (.invokevirtual 68, 3) := by decide +kernel
theorem dX8_copy_40 : decode cX8_copy 40 = .ok (.ireturn, 1) := by decide +kernel
theorem dX8_copy_41 : decode cX8_copy 41 = .ok (.aload_n 0, 1) := by decide +kernel
theorem dX8_copy_42 : decode cX8_copy 42 = .ok (.getfield 7, 3) := by decide +kernel
theorem dX8_copy_45 : decode cX8_copy 45 = .ok (.iload_n 1, 1) := by decide +kernel
theorem dX8_copy_46 : decode cX8_copy 46 = .ok (.iaload, 1) := by decide +kernel
theorem dX8_copy_47 : decode cX8_copy 47 = .ok (.aload_n 0, 1) := by decide +kernel
theorem dX8_copy_48 : decode cX8_copy 48 = .ok (.getfield 7, 3) := by decide +kernel
theorem dX8_copy_51 : decode cX8_copy 51 = .ok (.iload_n 3, 1) := by decide +kernel
theorem dX8_copy_52 : decode cX8_copy 52 = .ok (.iaload, 1) := by decide +kernel
theorem dX8_copy_53 : decode cX8_copy 53 = .ok (.if_icmp .eq 9, 3) := by decide +kernel
theorem dX8_copy_56 : decode cX8_copy 56 = .ok (.aload_n 0, 1) := by decide +kernel
theorem dX8_copy_57 : decode cX8_copy 57 = .ok (.iconst 5, 1) := by decide +kernel
theorem dX8_copy_58 : decode cX8_copy 58 = .ok (.invokevirtual 68, 3) := by decide +kernel
theorem dX8_copy_61 : decode cX8_copy 61 = .ok (.ireturn, 1) := by decide +kernel
theorem dX8_copy_62 : decode cX8_copy 62 = .ok (.iload 5, 2) := by decide +kernel
theorem dX8_copy_64 : decode cX8_copy 64 = .ok (.ifCond .lt 44, 3) := by decide +kernel
theorem dX8_copy_67 : decode cX8_copy 67 = .ok (.iload_n 2, 1) := by decide +kernel
theorem dX8_copy_68 : decode cX8_copy 68 = .ok (.i2l, 1) := by decide +kernel
theorem dX8_copy_69 : decode cX8_copy 69 = .ok (.lconst 0, 1) := by decide +kernel
theorem dX8_copy_70 : decode cX8_copy 70 = .ok (.aload_n 0, 1) := by decide +kernel
theorem dX8_copy_71 : decode cX8_copy 71 = .ok (.getfield 13, 3) := by decide +kernel
theorem dX8_copy_74 : decode cX8_copy 74 = .ok (.iload_n 1, 1) := by decide +kernel
theorem dX8_copy_75 : decode cX8_copy 75 = .ok (.iaload, 1) := by decide +kernel
theorem dX8_copy_76 : decode cX8_copy 76 = .ok (.i2l, 1) := by decide +kernel
theorem dX8_copy_77 : decode cX8_copy 77 = .ok (.iload 5, 2) := by decide +kernel
theorem dX8_copy_79 : decode cX8_copy 79 = .ok (.i2l, 1) := by decide +kernel
theorem dX8_copy_80 : decode cX8_copy 80 = .ok (.lsub, 1) := by decide +kernel
theorem dX8_copy_81 : decode cX8_copy 81 = .ok (.invokestatic 57, 3) := by decide +kernel
theorem dX8_copy_84 : decode cX8_copy 84 = .ok (.ifCond .eq 24, 3) := by decide +kernel
theorem dX8_copy_87 : decode cX8_copy 87 = .ok (.iload 4, 2) := by decide +kernel
theorem dX8_copy_89 : decode cX8_copy 89 = .ok (.i2l, 1) := by decide +kernel
theorem dX8_copy_90 : decode cX8_copy 90 = .ok (.lconst 0, 1) := by decide +kernel
theorem dX8_copy_91 : decode cX8_copy 91 = .ok (.aload_n 0, 1) := by decide +kernel
theorem dX8_copy_92 : decode cX8_copy 92 = .ok (.getfield 13, 3) := by decide +kernel
theorem dX8_copy_95 : decode cX8_copy 95 = .ok (.iload_n 3, 1) := by decide +kernel
theorem dX8_copy_96 : decode cX8_copy 96 = .ok (.iaload, 1) := by decide +kernel
theorem dX8_copy_97 : decode cX8_copy 97 = .ok (.i2l, 1) := by decide +kernel
theorem dX8_copy_98 : decode cX8_copy 98 = .ok (.iload 5, 2) := by decide +kernel
theorem dX8_copy_100 : decode cX8_copy 100 = .ok (.i2l, 1) := by decide +kernel
theorem dX8_copy_101 : decode cX8_copy 101 = .ok (.lsub, 1) := by decide +kernel
theorem dX8_copy_102 : decode cX8_copy 102 = .ok (.invokestatic 57, 3) := by decide +kernel
theorem dX8_copy_105 : decode cX8_copy 105 = .ok (.ifCond .ne 9, 3) := by decide +kernel
theorem dX8_copy_108 : decode cX8_copy 108 = .ok (.aload_n 0, 1) := by decide +kernel
theorem dX8_copy_109 : decode cX8_copy 109 = .ok (.iconst 2, 1) := by decide +kernel
theorem dX8_copy_110 : decode cX8_copy 110 = .ok (.invokevirtual 68, 3) := by decide +kernel
theorem dX8_copy_113 : decode cX8_copy 113 = .ok (.ireturn, 1) := by decide +kernel
theorem dX8_copy_114 : decode cX8_copy 114 = .ok (.iconst 0, 1) := by decide +kernel
theorem dX8_copy_115 : decode cX8_copy 115 = .ok (.istore 6, 2) := by decide +kernel
theorem dX8_copy_117 : decode cX8_copy 117 = .ok (.iload 6, 2) := by decide +kernel
theorem dX8_copy_119 : decode cX8_copy 119 = .ok (.iload 5, 2) := by decide +kernel
theorem dX8_copy_121 : decode cX8_copy 121 = .ok (.if_icmp .ge 30, 3) := by decide +kernel
theorem dX8_copy_124 : decode cX8_copy 124 = .ok (.aload_n 0, 1) := by decide +kernel
theorem dX8_copy_125 : decode cX8_copy 125 = .ok (.getfield 22, 3) := by decide +kernel
theorem dX8_copy_128 : decode cX8_copy 128 = .ok (.iload 6, 2) := by decide +kernel
theorem dX8_copy_130 : decode cX8_copy 130 = .ok (.aload_n 0, 1) := by decide +kernel
theorem dX8_copy_131 : decode cX8_copy 131 = .ok (.getfield 16, 3) := by decide +kernel
theorem dX8_copy_134 : decode cX8_copy 134 = .ok (.bipush 40, 2) := by decide +kernel
theorem dX8_copy_136 : decode cX8_copy 136 = .ok (.iload_n 1, 1) := by decide +kernel
theorem dX8_copy_137 : decode cX8_copy 137 = .ok (.imul, 1) := by decide +kernel
theorem dX8_copy_138 : decode cX8_copy 138 = .ok (.iload_n 2, 1) := by decide +kernel
theorem dX8_copy_139 : decode cX8_copy 139 = .ok (.iadd, 1) := by decide +kernel
theorem dX8_copy_140 : decode cX8_copy 140 = .ok (.iload 6, 2) := by decide +kernel
theorem dX8_copy_142 : decode cX8_copy 142 = .ok (.iadd, 1) := by decide +kernel
theorem dX8_copy_143 : decode cX8_copy 143 = .ok (.iaload, 1) := by decide +kernel
theorem dX8_copy_144 : decode cX8_copy 144 = .ok (.iastore, 1) := by decide +kernel
theorem dX8_copy_145 : decode cX8_copy 145 = .ok (.iinc 6 1, 3) := by decide +kernel
theorem dX8_copy_148 : decode cX8_copy 148 = .ok (.goto (-31), 3) := by decide +kernel
theorem dX8_copy_151 : decode cX8_copy 151 = .ok (.iconst 0, 1) := by decide +kernel
theorem dX8_copy_152 : decode cX8_copy 152 = .ok (.istore 6, 2) := by decide +kernel
theorem dX8_copy_154 : decode cX8_copy 154 = .ok (.iload 6, 2) := by decide +kernel
theorem dX8_copy_156 : decode cX8_copy 156 = .ok (.iload 5, 2) := by decide +kernel
theorem dX8_copy_158 : decode cX8_copy 158 = .ok (.if_icmp .ge 31, 3) := by decide +kernel
theorem dX8_copy_161 : decode cX8_copy 161 = .ok (.aload_n 0, 1) := by decide +kernel
theorem dX8_copy_162 : decode cX8_copy 162 = .ok (.getfield 16, 3) := by decide +kernel
theorem dX8_copy_165 : decode cX8_copy 165 = .ok (.bipush 40, 2) := by decide +kernel
theorem dX8_copy_167 : decode cX8_copy 167 = .ok (.iload_n 3, 1) := by decide +kernel
theorem dX8_copy_168 : decode cX8_copy 168 = .ok (.imul, 1) := by decide +kernel
theorem dX8_copy_169 : decode cX8_copy 169 = .ok (.iload 4, 2) := by decide +kernel
theorem dX8_copy_171 : decode cX8_copy 171 = .ok (.iadd, 1) := by decide +kernel
theorem dX8_copy_172 : decode cX8_copy 172 = .ok (.iload 6, 2) := by decide +kernel
theorem dX8_copy_174 : decode cX8_copy 174 = .ok (.iadd, 1) := by decide +kernel
theorem dX8_copy_175 : decode cX8_copy 175 = .ok (.aload_n 0, 1) := by decide +kernel
theorem dX8_copy_176 : decode cX8_copy 176 = .ok (.getfield 22, 3) := by decide +kernel
theorem dX8_copy_179 : decode cX8_copy 179 = .ok (.iload 6, 2) := by decide +kernel
theorem dX8_copy_181 : decode cX8_copy 181 = .ok (.iaload, 1) := by decide +kernel
theorem dX8_copy_182 : decode cX8_copy 182 = .ok (.iastore, 1) := by decide +kernel
theorem dX8_copy_183 : decode cX8_copy 183 = .ok (.iinc 6 1, 3) := by decide +kernel
theorem dX8_copy_186 : decode cX8_copy 186 = .ok (.goto (-32), 3) := by decide +kernel
theorem dX8_copy_189 : decode cX8_copy 189 = .ok (.aload_n 0, 1) := by decide +kernel
theorem dX8_copy_190 : decode cX8_copy 190 = .ok (.iload 5, 2) := by decide +kernel
theorem dX8_copy_192 : decode cX8_copy 192 = .ok (.invokevirtual 72, 3) := by decide +kernel
theorem dX8_copy_195 : decode cX8_copy 195 = .ok (.ireturn, 1) := by decide +kernel
theorem dX8_drop_0 : decode cX8_drop 0 = .ok (.iload_n 1, 1) := by decide +kernel
theorem dX8_drop_1 : decode cX8_drop 1 = .ok (.invokestatic 61, 3) := by decide +kernel
theorem dX8_drop_4 : decode cX8_drop 4 = .ok (.ifCond .ne 6, 3) := by decide +kernel
theorem dX8_drop_7 : decode cX8_drop 7 = .ok (.ldc 67, 2) := by decide +kernel
theorem dX8_drop_9 : decode cX8_drop 9 = .ok (.ireturn, 1) := by decide +kernel
theorem dX8_drop_10 : decode cX8_drop 10 = .ok (.aload_n 0, 1) := by decide +kernel
theorem dX8_drop_11 : decode cX8_drop 11 = .ok (.getfield 13, 3) := by decide +kernel
theorem dX8_drop_14 : decode cX8_drop 14 = .ok (.iload_n 1, 1) := by decide +kernel
theorem dX8_drop_15 : decode cX8_drop 15 = .ok (.iaload, 1) := by decide +kernel
theorem dX8_drop_16 : decode cX8_drop 16 = .ok (.ifCond .ge 9, 3) := by decide +kernel
theorem dX8_drop_19 : decode cX8_drop 19 = .ok (.aload_n 0, 1) := by decide +kernel
theorem dX8_drop_20 : decode cX8_drop 20 = .ok (.iconst 1, 1) := by decide +kernel
theorem dX8_drop_21 : decode cX8_drop 21 = .ok (.invokevirtual 68, 3) := by decide +kernel
theorem dX8_drop_24 : decode cX8_drop 24 = .ok (.ireturn, 1) := by decide +kernel
theorem dX8_drop_25 : decode cX8_drop 25 = .ok (.aload_n 0, 1) := by decide +kernel
theorem dX8_drop_26 : decode cX8_drop 26 = .ok (.getfield 13, 3) := by decide +kernel
theorem dX8_drop_29 : decode cX8_drop 29 = .ok (.iload_n 1, 1) := by decide +kernel
theorem dX8_drop_30 : decode cX8_drop 30 = .ok (.iaload, 1) := by decide +kernel
theorem dX8_drop_31 : decode cX8_drop 31 = .ok (.istore_n 2, 1) := by decide +kernel
theorem dX8_drop_32 : decode cX8_drop 32 = .ok (.aload_n 0, 1) := by decide +kernel
theorem dX8_drop_33 : decode cX8_drop 33 = .ok (.getfield 13, 3) := by decide +kernel
theorem dX8_drop_36 : decode cX8_drop 36 = .ok (.iload_n 1, 1) := by decide +kernel
theorem dX8_drop_37 : decode cX8_drop 37 = .ok (.iconst (-1), 1) := by decide +kernel
theorem dX8_drop_38 : decode cX8_drop 38 = .ok (.iastore, 1) := by decide +kernel
theorem dX8_drop_39 : decode cX8_drop 39 = .ok (.aload_n 0, 1) := by decide +kernel
theorem dX8_drop_40 : decode cX8_drop 40 = .ok (.iload_n 2, 1) := by decide +kernel
theorem dX8_drop_41 : decode cX8_drop 41 = .ok (.invokevirtual 72, 3) := by decide +kernel
theorem dX8_drop_44 : decode cX8_drop 44 = .ok (.ireturn, 1) := by decide +kernel
theorem dX8_feed_0 : decode cX8_feed 0 = .ok (.iload_n 1, 1) := by decide +kernel
theorem dX8_feed_1 : decode cX8_feed 1 = .ok (.i2l, 1) := by decide +kernel
theorem dX8_feed_2 : decode cX8_feed 2 = .ok (.lconst 0, 1) := by decide +kernel
theorem dX8_feed_3 : decode cX8_feed 3 = .ok (.ldc2_w 79, 3) := by decide +kernel
theorem dX8_feed_6 : decode cX8_feed 6 = .ok (.invokestatic 57, 3) := by decide +kernel
theorem dX8_feed_9 : decode cX8_feed 9 = .ok (.ifCond .ne 6, 3) := by decide +kernel
theorem dX8_feed_12 : decode cX8_feed 12 = .ok (.ldc 67, 2) := by decide +kernel
theorem dX8_feed_14 : decode cX8_feed 14 = .ok (.ireturn, 1) := by decide +kernel
theorem dX8_feed_15 : decode cX8_feed 15 = .ok (.aload_n 0, 1) := by decide +kernel
theorem dX8_feed_16 : decode cX8_feed 16 = .ok (.getfield 81, 3) := by decide +kernel
theorem dX8_feed_19 : decode cX8_feed 19 = .ok (.bipush 100, 2) := by decide +kernel
theorem dX8_feed_21 : decode cX8_feed 21 = .ok (.if_icmp .ne 6, 3) := by decide +kernel
theorem dX8_feed_24 : decode cX8_feed 24 = .ok (.ldc 84, 2) := by decide +kernel
theorem dX8_feed_26 : decode cX8_feed 26 = .ok (.ireturn, 1) := by decide +kernel
theorem dX8_feed_27 : decode cX8_feed 27 = .ok (.aload_n 0, 1) := by decide +kernel
theorem dX8_feed_28 : decode cX8_feed 28 = .ok (.getfield 25, 3) := by decide +kernel
theorem dX8_feed_31 : decode cX8_feed 31 = .ok (.aload_n 0, 1) := by decide +kernel
theorem dX8_feed_32 : decode cX8_feed 32 = .ok (.getfield 81, 3) := by decide +kernel
theorem dX8_feed_35 : decode cX8_feed 35 = .ok (.iload_n 1, 1) := by decide +kernel
theorem dX8_feed_36 : decode cX8_feed 36 = .ok (.iastore, 1) := by decide +kernel
theorem dX8_feed_37 : decode cX8_feed 37 = .ok (.aload_n 0, 1) := by decide +kernel
theorem dX8_feed_38 : decode cX8_feed 38 = .ok (.dup, 1) := by decide +kernel
theorem dX8_feed_39 : decode cX8_feed 39 = .ok (.getfield 81, 3) := by decide +kernel
theorem dX8_feed_42 : decode cX8_feed 42 = .ok (.iconst 1, 1) := by decide +kernel
theorem dX8_feed_43 : decode cX8_feed 43 = .ok (.iadd, 1) := by decide +kernel
theorem dX8_feed_44 : decode cX8_feed 44 = .ok (.putfield 81, 3) := by decide +kernel
theorem dX8_feed_47 : decode cX8_feed 47 = .ok (.aload_n 0, 1) := by decide +kernel
theorem dX8_feed_48 : decode cX8_feed 48 = .ok (.getfield 81, 3) := by decide +kernel
theorem dX8_feed_51 : decode cX8_feed 51 = .ok (.ireturn, 1) := by decide +kernel
theorem dX8_nextToken_0 : decode cX8_nextToken 0 = .ok (.aload_n 0, 1) := by decide +kernel
theorem dX8_nextToken_1 : decode cX8_nextToken 1 = .ok (.aload_n 0, 1) := by decide +kernel
theorem dX8_nextToken_2 : decode cX8_nextToken 2 = .ok (.getfield 85, 3) := by decide +kernel
theorem dX8_nextToken_5 : decode cX8_nextToken 5 = .ok (.putfield 88, 3) := by decide +kernel
theorem dX8_nextToken_8 : decode cX8_nextToken 8 = .ok (.aload_n 0, 1) := by decide +kernel
theorem dX8_nextToken_9 : decode cX8_nextToken 9 = .ok (.aload_n 0, 1) := by decide +kernel
theorem dX8_nextToken_10 : decode cX8_nextToken 10 = .ok (.getfield 85, 3) := by decide +kernel
theorem dX8_nextToken_13 : decode cX8_nextToken 13 = .ok (.aload_n 0, 1) := by decide +kernel
theorem dX8_nextToken_14 : decode cX8_nextToken 14 = .ok (.getfield 81, 3) := by decide +kernel
theorem dX8_nextToken_17 : decode cX8_nextToken 17 = .ok (.if_icmp .ne 7, 3) := by decide +kernel
theorem dX8_nextToken_20 : decode cX8_nextToken 20 = .ok (.iconst 3, 1) := by decide +kernel
theorem dX8_nextToken_21 : decode cX8_nextToken 21 = .ok (.goto 4, 3) := by decide +kernel
theorem dX8_nextToken_24 : decode cX8_nextToken 24 = .ok (.iconst 0, 1) := by decide +kernel
theorem dX8_nextToken_25 : decode cX8_nextToken 25 = .ok (.putfield 91, 3) := by decide +kernel
theorem dX8_nextToken_28 : decode cX8_nextToken 28 = .ok (.aload_n 0, 1) := by decide +kernel
theorem dX8_nextToken_29 : decode cX8_nextToken 29 = .ok (.iconst 0, 1) := by decide +kernel
theorem dX8_nextToken_30 : decode cX8_nextToken 30 = .ok (.putfield 94, 3) := by decide +kernel
theorem dX8_nextToken_33 : decode cX8_nextToken 33 = .ok (.aload_n 0, 1) := by decide +kernel
theorem dX8_nextToken_34 : decode cX8_nextToken 34 = .ok (.getfield 85, 3) := by decide +kernel
theorem dX8_nextToken_37 : decode cX8_nextToken 37 = .ok (.aload_n 0, 1) := by decide +kernel
theorem dX8_nextToken_38 : decode cX8_nextToken 38 = .ok (.getfield 81, 3) := by decide +kernel
theorem dX8_nextToken_41 : decode cX8_nextToken 41 = .ok (.if_icmp .ge 78, 3) := by decide +kernel
theorem dX8_nextToken_44 : decode cX8_nextToken 44 = .ok (.aload_n 0, 1) := by decide +kernel
theorem dX8_nextToken_45 : decode cX8_nextToken 45 = .ok (.getfield 25, 3) := by decide +kernel
theorem dX8_nextToken_48 : decode cX8_nextToken 48 = .ok (.aload_n 0, 1) := by decide +kernel
theorem dX8_nextToken_49 : decode cX8_nextToken 49 = .ok (.getfield 85, 3) := by decide +kernel
theorem dX8_nextToken_52 : decode cX8_nextToken 52 = .ok (.iaload, 1) := by decide +kernel
theorem dX8_nextToken_53 : decode cX8_nextToken 53 = .ok (.i2l, 1) := by decide +kernel
theorem dX8_nextToken_54 : decode cX8_nextToken 54 = .ok (.ldc2_w 97, 3) := by decide +kernel
theorem dX8_nextToken_57 : decode cX8_nextToken 57 = .ok (.ldc2_w 99, 3) := by decide +kernel
theorem dX8_nextToken_60 : decode cX8_nextToken 60 = .ok (.invokestatic 57, 3) := by decide +kernel
theorem dX8_nextToken_63 : decode cX8_nextToken 63 = .ok (.ifCond .eq 56, 3) := by decide +kernel
theorem dX8_nextToken_66 : decode cX8_nextToken 66 = .ok (.aload_n 0, 1) := by decide +kernel
theorem dX8_nextToken_67 : decode cX8_nextToken 67 = .ok (.aload_n 0, 1) := by decide +kernel
theorem dX8_nextToken_68 : decode cX8_nextToken 68 = .ok (.getfield 94, 3) := by decide +kernel
theorem dX8_nextToken_71 : decode cX8_nextToken 71 = .ok (.bipush 99, 2) := by decide +kernel
theorem dX8_nextToken_73 : decode cX8_nextToken 73 = .ok (.if_icmp .le 10, 3) := by decide +kernel
theorem dX8_nextToken_76 : decode cX8_nextToken 76 = .ok (.aload_n 0, 1) := by decide +kernel
theorem dX8_nextToken_77 : decode cX8_nextToken 77 = .ok (.getfield 94, 3) := by decide +kernel
theorem dX8_nextToken_80 : decode cX8_nextToken 80 = .ok (.goto 23, 3) := by decide +kernel
theorem dX8_nextToken_83 : decode cX8_nextToken 83 = .ok (.bipush 10, 2) := by decide +kernel
theorem dX8_nextToken_85 : decode cX8_nextToken 85 = .ok (.aload_n 0, 1) := by decide +kernel
theorem dX8_nextToken_86 : decode cX8_nextToken 86 = .ok (.getfield 94, 3) := by decide +kernel
theorem dX8_nextToken_89 : decode cX8_nextToken 89 = .ok (.imul, 1) := by decide +kernel
theorem dX8_nextToken_90 : decode cX8_nextToken 90 = .ok (.aload_n 0, 1) := by decide +kernel
theorem dX8_nextToken_91 : decode cX8_nextToken 91 = .ok (.getfield 25, 3) := by decide +kernel
theorem dX8_nextToken_94 : decode cX8_nextToken 94 = .ok (.aload_n 0, 1) := by decide +kernel
theorem dX8_nextToken_95 : decode cX8_nextToken 95 = .ok (.getfield 85, 3) := by decide +kernel
theorem dX8_nextToken_98 : decode cX8_nextToken 98 = .ok (.iaload, 1) := by decide +kernel
theorem dX8_nextToken_99 : decode cX8_nextToken 99 = .ok (.iadd, 1) := by decide +kernel
theorem dX8_nextToken_100 : decode cX8_nextToken 100 = .ok (.bipush 48, 2) := by decide +kernel
theorem dX8_nextToken_102 : decode cX8_nextToken 102 = .ok (.isub, 1) := by decide +kernel
theorem dX8_nextToken_103 : decode cX8_nextToken 103 = .ok (.putfield 94, 3) := by decide +kernel
theorem dX8_nextToken_106 : decode cX8_nextToken 106 = .ok (.aload_n 0, 1) := by decide +kernel
theorem dX8_nextToken_107 : decode cX8_nextToken 107 = .ok (.dup, 1) := by decide +kernel
theorem dX8_nextToken_108 : decode cX8_nextToken 108 = .ok (.getfield 85, 3) := by decide +kernel
theorem dX8_nextToken_111 : decode cX8_nextToken 111 = .ok (.iconst 1, 1) := by decide +kernel
theorem dX8_nextToken_112 : decode cX8_nextToken 112 = .ok (.iadd, 1) := by decide +kernel
theorem dX8_nextToken_113 : decode cX8_nextToken 113 = .ok (.putfield 85, 3) := by decide +kernel
theorem dX8_nextToken_116 : decode cX8_nextToken 116 = .ok (.goto (-83), 3) := by decide +kernel
theorem dX8_nextToken_119 : decode cX8_nextToken 119 = .ok (.aload_n 0, 1) := by decide +kernel
theorem dX8_nextToken_120 : decode cX8_nextToken 120 = .ok (.getfield 85, 3) := by decide +kernel
theorem dX8_nextToken_123 : decode cX8_nextToken 123 = .ok (.aload_n 0, 1) := by decide +kernel
theorem dX8_nextToken_124 : decode cX8_nextToken 124 = .ok (.getfield 88, 3) := by decide +kernel
theorem dX8_nextToken_127 : decode cX8_nextToken 127 = .ok (.if_icmp .le 28, 3) := by decide +kernel
theorem dX8_nextToken_130 : decode cX8_nextToken 130 = .ok (.aload_n 0, 1) := by decide +kernel
theorem dX8_nextToken_131 : decode cX8_nextToken 131 = .ok (.aload_n 0, 1) := by decide +kernel
theorem dX8_nextToken_132 : decode cX8_nextToken 132 = .ok (.getfield 85, 3) := by decide +kernel
theorem dX8_nextToken_135 : decode cX8_nextToken 135 = .ok (.aload_n 0, 1) := by decide +kernel
theorem dX8_nextToken_136 : decode cX8_nextToken 136 = .ok (.getfield 88, 3) := by decide +kernel
theorem dX8_nextToken_139 : decode cX8_nextToken 139 = .ok (.isub, 1) := by decide +kernel
theorem dX8_nextToken_140 : decode cX8_nextToken 140 = .ok (.iconst 2, 1) := by decide +kernel
theorem dX8_nextToken_141 : decode cX8_nextToken 141 = .ok (.if_icmp .le 7, 3) := by decide +kernel
theorem dX8_nextToken_144 : decode cX8_nextToken 144 = .ok (.iconst 0, 1) := by decide +kernel
theorem dX8_nextToken_145 : decode cX8_nextToken 145 = .ok (.goto 4, 3) := by decide +kernel
theorem dX8_nextToken_148 : decode cX8_nextToken 148 = .ok (.iconst 2, 1) := by decide +kernel
theorem dX8_nextToken_149 : decode cX8_nextToken 149 = .ok (.putfield 91, 3) := by decide +kernel
theorem dX8_nextToken_152 : decode cX8_nextToken 152 = .ok (.goto 77, 3) := by decide +kernel
theorem dX8_nextToken_155 : decode cX8_nextToken 155 = .ok (.aload_n 0, 1) := by decide +kernel
theorem dX8_nextToken_156 : decode cX8_nextToken 156 = .ok (.getfield 91, 3) := by decide +kernel
theorem dX8_nextToken_159 : decode cX8_nextToken 159 = .ok (.ifCond .ne 70, 3) := by decide +kernel
theorem dX8_nextToken_162 : decode cX8_nextToken 162 = .ok (.aload_n 0, 1) := by decide +kernel
theorem dX8_nextToken_163 : decode cX8_nextToken 163 = .ok (.aload_n 0, 1) := by decide +kernel
theorem dX8_nextToken_164 : decode cX8_nextToken 164 = .ok (.getfield 25, 3) := by decide +kernel
theorem dX8_nextToken_167 : decode cX8_nextToken 167 = .ok (.aload_n 0, 1) := by decide +kernel
theorem dX8_nextToken_168 : decode cX8_nextToken 168 = .ok (.getfield 85, 3) := by decide +kernel
theorem dX8_nextToken_171 : decode cX8_nextToken 171 = .ok (.iaload, 1) := by decide +kernel
theorem dX8_nextToken_172 : decode cX8_nextToken 172 = .ok (.putfield 94, 3) := by decide +kernel
theorem dX8_nextToken_175 : decode cX8_nextToken 175 = .ok (.aload_n 0, 1) := by decide +kernel
theorem dX8_nextToken_176 : decode cX8_nextToken 176 = .ok (.aload_n 0, 1) := by decide +kernel
theorem dX8_nextToken_177 : decode cX8_nextToken 177 = .ok (.getfield 94, 3) := by decide +kernel
theorem dX8_nextToken_180 : decode cX8_nextToken 180 = .ok (.i2l, 1) := by decide +kernel
theorem dX8_nextToken_181 : decode cX8_nextToken 181 = .ok (.ldc2_w 101, 3) := by decide +kernel
theorem dX8_nextToken_184 : decode cX8_nextToken 184 = .ok (.ldc2_w 103, 3) := by decide +kernel
theorem dX8_nextToken_187 : decode cX8_nextToken 187 = .ok (.invokestatic 57, 3) := by decide +kernel
theorem dX8_nextToken_190 : decode cX8_nextToken 190 = .ok (.ifCond .ne 21, 3) := by decide +kernel
theorem dX8_nextToken_193 : decode cX8_nextToken 193 = .ok (.aload_n 0, 1) := by decide +kernel
theorem dX8_nextToken_194 : decode cX8_nextToken 194 = .ok (.getfield 94, 3) := by decide +kernel
theorem dX8_nextToken_197 : decode cX8_nextToken 197 = .ok (.bipush 44, 2) := by decide +kernel
theorem dX8_nextToken_199 : decode cX8_nextToken 199 = .ok (.if_icmp .eq 12, 3) := by decide +kernel
theorem dX8_nextToken_202 : decode cX8_nextToken 202 = .ok (.aload_n 0, 1) := by decide +kernel
theorem dX8_nextToken_203 : decode cX8_nextToken 203 = .ok (.getfield 94, 3) := by decide +kernel
theorem dX8_nextToken_206 : decode cX8_nextToken 206 = .ok (.bipush 59, 2) := by decide +kernel
theorem dX8_nextToken_208 : decode cX8_nextToken 208 = .ok (.if_icmp .ne 7, 3) := by decide +kernel
theorem dX8_nextToken_211 : decode cX8_nextToken 211 = .ok (.iconst 1, 1) := by decide +kernel
theorem dX8_nextToken_212 : decode cX8_nextToken 212 = .ok (.goto 4, 3) := by decide +kernel
theorem dX8_nextToken_215 : decode cX8_nextToken 215 = .ok (.iconst 0, 1) := by decide +kernel
theorem dX8_nextToken_216 : decode cX8_nextToken 216 = .ok (.putfield 91, 3) := by decide +kernel
theorem dX8_nextToken_219 : decode cX8_nextToken 219 = .ok (.aload_n 0, 1) := by decide +kernel
theorem dX8_nextToken_220 : decode cX8_nextToken 220 = .ok (.dup, 1) := by decide +kernel
theorem dX8_nextToken_221 : decode cX8_nextToken 221 = .ok (.getfield 85, 3) := by decide +kernel
theorem dX8_nextToken_224 : decode cX8_nextToken 224 = .ok (.iconst 1, 1) := by decide +kernel
theorem dX8_nextToken_225 : decode cX8_nextToken 225 = .ok (.iadd, 1) := by decide +kernel
theorem dX8_nextToken_226 : decode cX8_nextToken 226 = .ok (.putfield 85, 3) := by decide +kernel
theorem dX8_nextToken_229 : decode cX8_nextToken 229 = .ok (.return_, 1) := by decide +kernel
theorem dX8_faults_0 : decode cX8_faults 0 = .ok (.aload_n 0, 1) := by decide +kernel
theorem dX8_faults_1 : decode cX8_faults 1 = .ok (.iload_n 1, 1) := by decide +kernel
theorem dX8_faults_2 : decode cX8_faults 2 = .ok (.putfield 105, 3) := by decide +kernel
theorem dX8_faults_5 : decode cX8_faults 5 = .ok (.iconst 0, 1) := by decide +kernel
theorem dX8_faults_6 : decode cX8_faults 6 = .ok (.ireturn, 1) := by decide +kernel
theorem dX8_takes_0 : decode cX8_takes 0 = .ok (.aload_n 0, 1) := by decide +kernel
theorem dX8_takes_1 : decode cX8_takes 1 = .ok (.getfield 91, 3) := by decide +kernel
theorem dX8_takes_4 : decode cX8_takes 4 = .ok (.iconst 1, 1) := by decide +kernel
theorem dX8_takes_5 : decode cX8_takes 5 = .ok (.if_icmp .ne 11, 3) := by decide +kernel
theorem dX8_takes_8 : decode cX8_takes 8 = .ok (.aload_n 0, 1) := by decide +kernel
theorem dX8_takes_9 : decode cX8_takes 9 = .ok (.getfield 94, 3) := by decide +kernel
theorem dX8_takes_12 : decode cX8_takes 12 = .ok (.iload_n 1, 1) := by decide +kernel
theorem dX8_takes_13 : decode cX8_takes 13 = .ok (.if_icmp .eq 9, 3) := by decide +kernel
theorem dX8_takes_16 : decode cX8_takes 16 = .ok (.aload_n 0, 1) := by decide +kernel
theorem dX8_takes_17 : decode cX8_takes 17 = .ok (.iconst 1, 1) := by decide +kernel
theorem dX8_takes_18 : decode cX8_takes 18 = .ok (.invokevirtual 108, 3) := by decide +kernel
theorem dX8_takes_21 : decode cX8_takes 21 = .ok (.ireturn, 1) := by decide +kernel
theorem dX8_takes_22 : decode cX8_takes 22 = .ok (.aload_n 0, 1) := by decide +kernel
theorem dX8_takes_23 : decode cX8_takes 23 = .ok (.invokevirtual 111, 3) := by decide +kernel
theorem dX8_takes_26 : decode cX8_takes 26 = .ok (.iconst 1, 1) := by decide +kernel
theorem dX8_takes_27 : decode cX8_takes 27 = .ok (.ireturn, 1) := by decide +kernel
theorem dX8_takesNumber_0 : decode cX8_takesNumber 0 = .ok (.aload_n 0, 1) := by decide +kernel
theorem dX8_takesNumber_1 : decode cX8_takesNumber 1 = .ok (.getfield 91, 3) := by decide +kernel
theorem dX8_takesNumber_4 : decode cX8_takesNumber 4 = .ok (.iconst 2, 1) := by decide +kernel
theorem dX8_takesNumber_5 : decode cX8_takesNumber 5 = .ok (.if_icmp .ne 18, 3) := by decide +kernel
theorem dX8_takesNumber_8 : decode cX8_takesNumber 8 = .ok (.aload_n 0, 1) := by decide +kernel
theorem dX8_takesNumber_9 : decode cX8_takesNumber 9 = .ok (.getfield 94, 3) := by decide +kernel
theorem dX8_takesNumber_12 : decode cX8_takesNumber 12 = .ok (.i2l, 1) := by decide +kernel
theorem dX8_takesNumber_13 : decode cX8_takesNumber 13 = .ok (.iload_n 1, 1) := by decide +kernel
theorem dX8_takesNumber_14 : decode cX8_takesNumber 14 = .ok (.i2l, 1) := by decide +kernel
theorem dX8_takesNumber_15 : decode cX8_takesNumber 15 = .ok (.iload_n 2, 1) := by decide +kernel
theorem dX8_takesNumber_16 : decode cX8_takesNumber 16 = .ok (.i2l, 1) := by decide +kernel
theorem dX8_takesNumber_17 : decode cX8_takesNumber 17 = .ok (.invokestatic 57, 3) := by decide +kernel
theorem dX8_takesNumber_20 : decode cX8_takesNumber 20 = .ok (.ifCond .ne 21, 3) := by decide +kernel
theorem dX8_takesNumber_23 : decode cX8_takesNumber 23 = .ok (.aload_n 0, 1) := by decide +kernel
theorem dX8_takesNumber_24 : decode cX8_takesNumber 24 = .ok (.aload_n 0, 1) := by decide +kernel
theorem dX8_takesNumber_25 : decode cX8_takesNumber 25 = .ok (.getfield 91, 3) := by decide +kernel
theorem dX8_takesNumber_28 : decode cX8_takesNumber 28 = .ok (.iconst 2, 1) := by decide +kernel
theorem dX8_takesNumber_29 : decode cX8_takesNumber 29 = .ok (.if_icmp .ne 7, 3) := by decide +kernel
theorem dX8_takesNumber_32 : decode cX8_takesNumber 32 = .ok (.iconst 2, 1) := by decide +kernel
theorem dX8_takesNumber_33 : decode cX8_takesNumber 33 = .ok (.goto 4, 3) := by decide +kernel
theorem dX8_takesNumber_36 : decode cX8_takesNumber 36 = .ok (.iconst 1, 1) := by decide +kernel
theorem dX8_takesNumber_37 : decode cX8_takesNumber 37 = .ok (.invokevirtual 108, 3) := by decide +kernel
theorem dX8_takesNumber_40 : decode cX8_takesNumber 40 = .ok (.ireturn, 1) := by decide +kernel
theorem dX8_takesNumber_41 : decode cX8_takesNumber 41 = .ok (.aload_n 0, 1) := by decide +kernel
theorem dX8_takesNumber_42 : decode cX8_takesNumber 42 = .ok (.getfield 28, 3) := by decide +kernel
theorem dX8_takesNumber_45 : decode cX8_takesNumber 45 = .ok (.iload_n 3, 1) := by decide +kernel
theorem dX8_takesNumber_46 : decode cX8_takesNumber 46 = .ok (.aload_n 0, 1) := by decide +kernel
theorem dX8_takesNumber_47 : decode cX8_takesNumber 47 = .ok (.getfield 94, 3) := by decide +kernel
theorem dX8_takesNumber_50 : decode cX8_takesNumber 50 = .ok (.iastore, 1) := by decide +kernel
theorem dX8_takesNumber_51 : decode cX8_takesNumber 51 = .ok (.aload_n 0, 1) := by decide +kernel
theorem dX8_takesNumber_52 : decode cX8_takesNumber 52 = .ok (.invokevirtual 111, 3) := by decide +kernel
theorem dX8_takesNumber_55 : decode cX8_takesNumber 55 = .ok (.aload_n 0, 1) := by decide +kernel
theorem dX8_takesNumber_56 : decode cX8_takesNumber 56 = .ok (.iload 4, 2) := by decide +kernel
theorem dX8_takesNumber_58 : decode cX8_takesNumber 58 = .ok (.invokevirtual 114, 3) := by decide +kernel
theorem dX8_takesNumber_61 : decode cX8_takesNumber 61 = .ok (.ireturn, 1) := by decide +kernel
theorem dX8_kindBy_0 : decode cX8_kindBy 0 = .ok (.iload_n 0, 1) := by decide +kernel
theorem dX8_kindBy_1 : decode cX8_kindBy 1 = .ok (.bipush 119, 2) := by decide +kernel
theorem dX8_kindBy_3 : decode cX8_kindBy 3 = .ok (.if_icmp .ne 7, 3) := by decide +kernel
theorem dX8_kindBy_6 : decode cX8_kindBy 6 = .ok (.iconst 1, 1) := by decide +kernel
theorem dX8_kindBy_7 : decode cX8_kindBy 7 = .ok (.goto 44, 3) := by decide +kernel
theorem dX8_kindBy_10 : decode cX8_kindBy 10 = .ok (.iload_n 0, 1) := by decide +kernel
theorem dX8_kindBy_11 : decode cX8_kindBy 11 = .ok (.bipush 99, 2) := by decide +kernel
theorem dX8_kindBy_13 : decode cX8_kindBy 13 = .ok (.if_icmp .ne 7, 3) := by decide +kernel
theorem dX8_kindBy_16 : decode cX8_kindBy 16 = .ok (.iconst 2, 1) := by decide +kernel
theorem dX8_kindBy_17 : decode cX8_kindBy 17 = .ok (.goto 34, 3) := by decide +kernel
theorem dX8_kindBy_20 : decode cX8_kindBy 20 = .ok (.iload_n 0, 1) := by decide +kernel
theorem dX8_kindBy_21 : decode cX8_kindBy 21 = .ok (.bipush 115, 2) := by decide +kernel
theorem dX8_kindBy_23 : decode cX8_kindBy 23 = .ok (.if_icmp .ne 7, 3) := by decide +kernel
theorem dX8_kindBy_26 : decode cX8_kindBy 26 = .ok (.iconst 3, 1) := by decide +kernel
theorem dX8_kindBy_27 : decode cX8_kindBy 27 = .ok (.goto 24, 3) := by decide +kernel
theorem dX8_kindBy_30 : decode cX8_kindBy 30 = .ok (.iload_n 0, 1) := by decide +kernel
theorem dX8_kindBy_31 : decode cX8_kindBy 31 = .ok (.bipush 112, 2) := by decide +kernel
theorem dX8_kindBy_33 : decode cX8_kindBy 33 = .ok (.if_icmp .ne 7, 3) := by decide +kernel
theorem dX8_kindBy_36 : decode cX8_kindBy 36 = .ok (.iconst 4, 1) := by decide +kernel
theorem dX8_kindBy_37 : decode cX8_kindBy 37 = .ok (.goto 14, 3) := by decide +kernel
theorem dX8_kindBy_40 : decode cX8_kindBy 40 = .ok (.iload_n 0, 1) := by decide +kernel
theorem dX8_kindBy_41 : decode cX8_kindBy 41 = .ok (.bipush 107, 2) := by decide +kernel
theorem dX8_kindBy_43 : decode cX8_kindBy 43 = .ok (.if_icmp .ne 7, 3) := by decide +kernel
theorem dX8_kindBy_46 : decode cX8_kindBy 46 = .ok (.iconst 5, 1) := by decide +kernel
theorem dX8_kindBy_47 : decode cX8_kindBy 47 = .ok (.goto 4, 3) := by decide +kernel
theorem dX8_kindBy_50 : decode cX8_kindBy 50 = .ok (.iconst 0, 1) := by decide +kernel
theorem dX8_kindBy_51 : decode cX8_kindBy 51 = .ok (.ireturn, 1) := by decide +kernel
theorem dX8_readHouse_0 : decode cX8_readHouse 0 = .ok (.aload_n 0, 1) := by decide +kernel
theorem dX8_readHouse_1 : decode cX8_readHouse 1 = .ok (.getfield 28, 3) := by decide +kernel
theorem dX8_readHouse_4 : decode cX8_readHouse 4 = .ok (.iconst 0, 1) := by decide +kernel
theorem dX8_readHouse_5 : decode cX8_readHouse 5 = .ok (.iaload, 1) := by decide +kernel
theorem dX8_readHouse_6 : decode cX8_readHouse 6 = .ok (.istore_n 1, 1) := by decide +kernel
theorem dX8_readHouse_7 : decode cX8_readHouse 7 = .ok (.aload_n 0, 1) := by decide +kernel
theorem dX8_readHouse_8 : decode cX8_readHouse 8 = .ok (.getfield 91, 3) := by decide +kernel
theorem dX8_readHouse_11 : decode cX8_readHouse 11 = .ok (.iconst 1, 1) := by decide +kernel
theorem dX8_readHouse_12 : decode cX8_readHouse 12 = .ok (.if_icmp .ne 13, 3) := by decide +kernel
theorem dX8_readHouse_15 : decode cX8_readHouse 15 = .ok (.aload_n 0, 1) := by decide +kernel
theorem dX8_readHouse_16 : decode cX8_readHouse 16 = .ok (.getfield 94, 3) := by decide +kernel
theorem dX8_readHouse_19 : decode cX8_readHouse 19 = .ok (.invokestatic 117, 3) := by decide +kernel
theorem dX8_readHouse_22 : decode cX8_readHouse 22 = .ok (.goto 4, 3) := by decide +kernel
theorem dX8_readHouse_25 : decode cX8_readHouse 25 = .ok (.iconst 0, 1) := by decide +kernel
theorem dX8_readHouse_26 : decode cX8_readHouse 26 = .ok (.istore_n 2, 1) := by decide +kernel
theorem dX8_readHouse_27 : decode cX8_readHouse 27 = .ok (.iload_n 2, 1) := by decide +kernel
theorem dX8_readHouse_28 : decode cX8_readHouse 28 = .ok (.ifCond .eq 9, 3) := by decide +kernel
theorem dX8_readHouse_31 : decode cX8_readHouse 31 = .ok (.iload_n 1, 1) := by decide +kernel
theorem dX8_readHouse_32 : decode cX8_readHouse 32 = .ok (.bipush 8, 2) := by decide +kernel
theorem dX8_readHouse_34 : decode cX8_readHouse 34 = .ok (.if_icmp .ne 17, 3) := by decide +kernel
theorem dX8_readHouse_37 : decode cX8_readHouse 37 = .ok (.aload_n 0, 1) := by decide +kernel
theorem dX8_readHouse_38 : decode cX8_readHouse 38 = .ok (.iload_n 2, 1) := by decide +kernel
theorem dX8_readHouse_39 : decode cX8_readHouse 39 = .ok (.ifCond .ne 7, 3) := by decide +kernel
theorem dX8_readHouse_42 : decode cX8_readHouse 42 = .ok (.iconst 1, 1) := by decide +kernel
theorem dX8_readHouse_43 : decode cX8_readHouse 43 = .ok (.goto 4, 3) := by decide +kernel
theorem dX8_readHouse_46 : decode cX8_readHouse 46 = .ok (.iconst 3, 1) := by decide +kernel
theorem dX8_readHouse_47 : decode cX8_readHouse 47 = .ok (.invokevirtual 108, 3) := by decide +kernel
theorem dX8_readHouse_50 : decode cX8_readHouse 50 = .ok (.ireturn, 1) := by decide +kernel
theorem dX8_readHouse_51 : decode cX8_readHouse 51 = .ok (.aload_n 0, 1) := by decide +kernel
theorem dX8_readHouse_52 : decode cX8_readHouse 52 = .ok (.invokevirtual 111, 3) := by decide +kernel
theorem dX8_readHouse_55 : decode cX8_readHouse 55 = .ok (.aload_n 0, 1) := by decide +kernel
theorem dX8_readHouse_56 : decode cX8_readHouse 56 = .ok (.getfield 28, 3) := by decide +kernel
theorem dX8_readHouse_59 : decode cX8_readHouse 59 = .ok (.iconst 5, 1) := by decide +kernel
theorem dX8_readHouse_60 : decode cX8_readHouse 60 = .ok (.iload_n 1, 1) := by decide +kernel
theorem dX8_readHouse_61 : decode cX8_readHouse 61 = .ok (.iadd, 1) := by decide +kernel
theorem dX8_readHouse_62 : decode cX8_readHouse 62 = .ok (.iload_n 2, 1) := by decide +kernel
theorem dX8_readHouse_63 : decode cX8_readHouse 63 = .ok (.iastore, 1) := by decide +kernel
theorem dX8_readHouse_64 : decode cX8_readHouse 64 = .ok (.aload_n 0, 1) := by decide +kernel
theorem dX8_readHouse_65 : decode cX8_readHouse 65 = .ok (.getfield 28, 3) := by decide +kernel
theorem dX8_readHouse_68 : decode cX8_readHouse 68 = .ok (.iconst 0, 1) := by decide +kernel
theorem dX8_readHouse_69 : decode cX8_readHouse 69 = .ok (.dup2, 1) := by decide +kernel
theorem dX8_readHouse_70 : decode cX8_readHouse 70 = .ok (.iaload, 1) := by decide +kernel
theorem dX8_readHouse_71 : decode cX8_readHouse 71 = .ok (.iconst 1, 1) := by decide +kernel
theorem dX8_readHouse_72 : decode cX8_readHouse 72 = .ok (.iadd, 1) := by decide +kernel
theorem dX8_readHouse_73 : decode cX8_readHouse 73 = .ok (.iastore, 1) := by decide +kernel
theorem dX8_readHouse_74 : decode cX8_readHouse 74 = .ok (.aload_n 0, 1) := by decide +kernel
theorem dX8_readHouse_75 : decode cX8_readHouse 75 = .ok (.iconst 0, 1) := by decide +kernel
theorem dX8_readHouse_76 : decode cX8_readHouse 76 = .ok (.bipush 99, 2) := by decide +kernel
theorem dX8_readHouse_78 : decode cX8_readHouse 78 = .ok (.bipush 21, 2) := by decide +kernel
theorem dX8_readHouse_80 : decode cX8_readHouse 80 = .ok (.iload_n 1, 1) := by decide +kernel
theorem dX8_readHouse_81 : decode cX8_readHouse 81 = .ok (.iadd, 1) := by decide +kernel
theorem dX8_readHouse_82 : decode cX8_readHouse 82 = .ok (.bipush 44, 2) := by decide +kernel
theorem dX8_readHouse_84 : decode cX8_readHouse 84 = .ok (.invokevirtual 120, 3) := by decide +kernel
theorem dX8_readHouse_87 : decode cX8_readHouse 87 = .ok (.ifCond .eq 23, 3) := by decide +kernel
theorem dX8_readHouse_90 : decode cX8_readHouse 90 = .ok (.aload_n 0, 1) := by decide +kernel
theorem dX8_readHouse_91 : decode cX8_readHouse 91 = .ok (.iconst 1, 1) := by decide +kernel
theorem dX8_readHouse_92 : decode cX8_readHouse 92 = .ok (.bipush 9, 2) := by decide +kernel
theorem dX8_readHouse_94 : decode cX8_readHouse 94 = .ok (.bipush 13, 2) := by decide +kernel
theorem dX8_readHouse_96 : decode cX8_readHouse 96 = .ok (.iload_n 1, 1) := by decide +kernel
theorem dX8_readHouse_97 : decode cX8_readHouse 97 = .ok (.iadd, 1) := by decide +kernel
theorem dX8_readHouse_98 : decode cX8_readHouse 98 = .ok (.bipush 59, 2) := by decide +kernel
theorem dX8_readHouse_100 : decode cX8_readHouse 100 = .ok (.invokevirtual 120, 3) := by decide +kernel
theorem dX8_readHouse_103 : decode cX8_readHouse 103 = .ok (.ifCond .eq 7, 3) := by decide +kernel
theorem dX8_readHouse_106 : decode cX8_readHouse 106 = .ok (.iconst 1, 1) := by decide +kernel
theorem dX8_readHouse_107 : decode cX8_readHouse 107 = .ok (.goto 4, 3) := by decide +kernel
theorem dX8_readHouse_110 : decode cX8_readHouse 110 = .ok (.iconst 0, 1) := by decide +kernel
theorem dX8_readHouse_111 : decode cX8_readHouse 111 = .ok (.ireturn, 1) := by decide +kernel
theorem dX8_readStreet_0 : decode cX8_readStreet 0 = .ok (.aload_n 0, 1) := by decide +kernel
theorem dX8_readStreet_1 : decode cX8_readStreet 1 = .ok (.iconst 0, 1) := by decide +kernel
theorem dX8_readStreet_2 : decode cX8_readStreet 2 = .ok (.putfield 85, 3) := by decide +kernel
theorem dX8_readStreet_5 : decode cX8_readStreet 5 = .ok (.iconst 0, 1) := by decide +kernel
theorem dX8_readStreet_6 : decode cX8_readStreet 6 = .ok (.istore_n 1, 1) := by decide +kernel
theorem dX8_readStreet_7 : decode cX8_readStreet 7 = .ok (.iload_n 1, 1) := by decide +kernel
theorem dX8_readStreet_8 : decode cX8_readStreet 8 = .ok (.bipush 29, 2) := by decide +kernel
theorem dX8_readStreet_10 : decode cX8_readStreet 10 = .ok (.if_icmp .ge 16, 3) := by decide +kernel
theorem dX8_readStreet_13 : decode cX8_readStreet 13 = .ok (.aload_n 0, 1) := by decide +kernel
theorem dX8_readStreet_14 : decode cX8_readStreet 14 = .ok (.getfield 28, 3) := by decide +kernel
theorem dX8_readStreet_17 : decode cX8_readStreet 17 = .ok (.iload_n 1, 1) := by decide +kernel
theorem dX8_readStreet_18 : decode cX8_readStreet 18 = .ok (.iconst 0, 1) := by decide +kernel
theorem dX8_readStreet_19 : decode cX8_readStreet 19 = .ok (.iastore, 1) := by decide +kernel
theorem dX8_readStreet_20 : decode cX8_readStreet 20 = .ok (.iinc 1 1, 3) := by decide +kernel
theorem dX8_readStreet_23 : decode cX8_readStreet 23 = .ok (.goto (-16), 3) := by decide +kernel
theorem dX8_readStreet_26 : decode cX8_readStreet 26 = .ok (.aload_n 0, 1) := by decide +kernel
theorem dX8_readStreet_27 : decode cX8_readStreet 27 = .ok (.invokevirtual 111, 3) := by decide +kernel
theorem dX8_readStreet_30 : decode cX8_readStreet 30 = .ok (.aload_n 0, 1) := by decide +kernel
theorem dX8_readStreet_31 : decode cX8_readStreet 31 = .ok (.bipush 116, 2) := by decide +kernel
theorem dX8_readStreet_33 : decode cX8_readStreet 33 = .ok (.invokevirtual 114, 3) := by decide +kernel
theorem dX8_readStreet_36 : decode cX8_readStreet 36 = .ok (.ifCond .eq 29, 3) := by decide +kernel
theorem dX8_readStreet_39 : decode cX8_readStreet 39 = .ok (.aload_n 0, 1) := by decide +kernel
theorem dX8_readStreet_40 : decode cX8_readStreet 40 = .ok (.iconst 1, 1) := by decide +kernel
theorem dX8_readStreet_41 : decode cX8_readStreet 41 = .ok (.bipush 30, 2) := by decide +kernel
theorem dX8_readStreet_43 : decode cX8_readStreet 43 = .ok (.iconst 1, 1) := by decide +kernel
theorem dX8_readStreet_44 : decode cX8_readStreet 44 = .ok (.bipush 44, 2) := by decide +kernel
theorem dX8_readStreet_46 : decode cX8_readStreet 46 = .ok (.invokevirtual 120, 3) := by decide +kernel
theorem dX8_readStreet_49 : decode cX8_readStreet 49 = .ok (.ifCond .eq 16, 3) := by decide +kernel
theorem dX8_readStreet_52 : decode cX8_readStreet 52 = .ok (.aload_n 0, 1) := by decide +kernel
theorem dX8_readStreet_53 : decode cX8_readStreet 53 = .ok (.iconst 0, 1) := by decide +kernel
theorem dX8_readStreet_54 : decode cX8_readStreet 54 = .ok (.bipush 40, 2) := by decide +kernel
theorem dX8_readStreet_56 : decode cX8_readStreet 56 = .ok (.iconst 2, 1) := by decide +kernel
theorem dX8_readStreet_57 : decode cX8_readStreet 57 = .ok (.bipush 59, 2) := by decide +kernel
theorem dX8_readStreet_59 : decode cX8_readStreet 59 = .ok (.invokevirtual 120, 3) := by decide +kernel
theorem dX8_readStreet_62 : decode cX8_readStreet 62 = .ok (.ifCond .ne 5, 3) := by decide +kernel
theorem dX8_readStreet_65 : decode cX8_readStreet 65 = .ok (.iconst 0, 1) := by decide +kernel
theorem dX8_readStreet_66 : decode cX8_readStreet 66 = .ok (.ireturn, 1) := by decide +kernel
theorem dX8_readStreet_67 : decode cX8_readStreet 67 = .ok (.iconst 1, 1) := by decide +kernel
theorem dX8_readStreet_68 : decode cX8_readStreet 68 = .ok (.istore_n 1, 1) := by decide +kernel
theorem dX8_readStreet_69 : decode cX8_readStreet 69 = .ok (.iload_n 1, 1) := by decide +kernel
theorem dX8_readStreet_70 : decode cX8_readStreet 70 = .ok (.ifCond .eq 28, 3) := by decide +kernel
theorem dX8_readStreet_73 : decode cX8_readStreet 73 = .ok (.aload_n 0, 1) := by decide +kernel
theorem dX8_readStreet_74 : decode cX8_readStreet 74 = .ok (.getfield 91, 3) := by decide +kernel
theorem dX8_readStreet_77 : decode cX8_readStreet 77 = .ok (.iconst 3, 1) := by decide +kernel
theorem dX8_readStreet_78 : decode cX8_readStreet 78 = .ok (.if_icmp .ne 12, 3) := by decide +kernel
theorem dX8_readStreet_81 : decode cX8_readStreet 81 = .ok (.aload_n 0, 1) := by decide +kernel
theorem dX8_readStreet_82 : decode cX8_readStreet 82 = .ok (.getfield 28, 3) := by decide +kernel
theorem dX8_readStreet_85 : decode cX8_readStreet 85 = .ok (.iconst 0, 1) := by decide +kernel
theorem dX8_readStreet_86 : decode cX8_readStreet 86 = .ok (.iaload, 1) := by decide +kernel
theorem dX8_readStreet_87 : decode cX8_readStreet 87 = .ok (.ifCond .ne 11, 3) := by decide +kernel
theorem dX8_readStreet_90 : decode cX8_readStreet 90 = .ok (.aload_n 0, 1) := by decide +kernel
theorem dX8_readStreet_91 : decode cX8_readStreet 91 = .ok (.invokevirtual 124, 3) := by decide +kernel
theorem dX8_readStreet_94 : decode cX8_readStreet 94 = .ok (.istore_n 1, 1) := by decide +kernel
theorem dX8_readStreet_95 : decode cX8_readStreet 95 = .ok (.goto (-26), 3) := by decide +kernel
theorem dX8_readStreet_98 : decode cX8_readStreet 98 = .ok (.iload_n 1, 1) := by decide +kernel
theorem dX8_readStreet_99 : decode cX8_readStreet 99 = .ok (.ireturn, 1) := by decide +kernel
theorem dX8_street_0 : decode cX8_street 0 = .ok (.aload_n 0, 1) := by decide +kernel
theorem dX8_street_1 : decode cX8_street 1 = .ok (.invokevirtual 128, 3) := by decide +kernel
theorem dX8_street_4 : decode cX8_street 4 = .ok (.istore_n 1, 1) := by decide +kernel
theorem dX8_street_5 : decode cX8_street 5 = .ok (.aload_n 0, 1) := by decide +kernel
theorem dX8_street_6 : decode cX8_street 6 = .ok (.iconst 0, 1) := by decide +kernel
theorem dX8_street_7 : decode cX8_street 7 = .ok (.putfield 81, 3) := by decide +kernel
theorem dX8_street_10 : decode cX8_street 10 = .ok (.iload_n 1, 1) := by decide +kernel
theorem dX8_street_11 : decode cX8_street 11 = .ok (.ifCond .ne 19, 3) := by decide +kernel
theorem dX8_street_14 : decode cX8_street 14 = .ok (.aload_n 0, 1) := by decide +kernel
theorem dX8_street_15 : decode cX8_street 15 = .ok (.aload_n 0, 1) := by decide +kernel
theorem dX8_street_16 : decode cX8_street 16 = .ok (.getfield 105, 3) := by decide +kernel
theorem dX8_street_19 : decode cX8_street 19 = .ok (.putfield 131, 3) := by decide +kernel
theorem dX8_street_22 : decode cX8_street 22 = .ok (.ldc 134, 2) := by decide +kernel
theorem dX8_street_24 : decode cX8_street 24 = .ok (.aload_n 0, 1) := by decide +kernel
theorem dX8_street_25 : decode cX8_street 25 = .ok (.getfield 88, 3) := by decide +kernel
theorem dX8_street_28 : decode cX8_street 28 = .ok (.isub, 1) := by decide +kernel
theorem dX8_street_29 : decode cX8_street 29 = .ok (.ireturn, 1) := by decide +kernel
theorem dX8_street_30 : decode cX8_street 30 = .ok (.iconst 0, 1) := by decide +kernel
theorem dX8_street_31 : decode cX8_street 31 = .ok (.istore_n 2, 1) := by decide +kernel
theorem dX8_street_32 : decode cX8_street 32 = .ok (.iload_n 2, 1) := by decide +kernel
theorem dX8_street_33 : decode cX8_street 33 = .ok (.bipush 29, 2) := by decide +kernel
theorem dX8_street_35 : decode cX8_street 35 = .ok (.if_icmp .ge 21, 3) := by decide +kernel
theorem dX8_street_38 : decode cX8_street 38 = .ok (.aload_n 0, 1) := by decide +kernel
theorem dX8_street_39 : decode cX8_street 39 = .ok (.getfield 19, 3) := by decide +kernel
theorem dX8_street_42 : decode cX8_street 42 = .ok (.iload_n 2, 1) := by decide +kernel
theorem dX8_street_43 : decode cX8_street 43 = .ok (.aload_n 0, 1) := by decide +kernel
theorem dX8_street_44 : decode cX8_street 44 = .ok (.getfield 28, 3) := by decide +kernel
theorem dX8_street_47 : decode cX8_street 47 = .ok (.iload_n 2, 1) := by decide +kernel
theorem dX8_street_48 : decode cX8_street 48 = .ok (.iaload, 1) := by decide +kernel
theorem dX8_street_49 : decode cX8_street 49 = .ok (.iastore, 1) := by decide +kernel
theorem dX8_street_50 : decode cX8_street 50 = .ok (.iinc 2 1, 3) := by decide +kernel
theorem dX8_street_53 : decode cX8_street 53 = .ok (.goto (-21), 3) := by decide +kernel
theorem dX8_street_56 : decode cX8_street 56 = .ok (.aload_n 0, 1) := by decide +kernel
theorem dX8_street_57 : decode cX8_street 57 = .ok (.iconst 1, 1) := by decide +kernel
theorem dX8_street_58 : decode cX8_street 58 = .ok (.putfield 135, 3) := by decide +kernel
theorem dX8_street_61 : decode cX8_street 61 = .ok (.aload_n 0, 1) := by decide +kernel
theorem dX8_street_62 : decode cX8_street 62 = .ok (.iconst 0, 1) := by decide +kernel
theorem dX8_street_63 : decode cX8_street 63 = .ok (.putfield 139, 3) := by decide +kernel
theorem dX8_street_66 : decode cX8_street 66 = .ok (.aload_n 0, 1) := by decide +kernel
theorem dX8_street_67 : decode cX8_street 67 = .ok (.getfield 19, 3) := by decide +kernel
theorem dX8_street_70 : decode cX8_street 70 = .ok (.iconst 0, 1) := by decide +kernel
theorem dX8_street_71 : decode cX8_street 71 = .ok (.iaload, 1) := by decide +kernel
theorem dX8_street_72 : decode cX8_street 72 = .ok (.ireturn, 1) := by decide +kernel
theorem dX8_fault_0 : decode cX8_fault 0 = .ok (.aload_n 0, 1) := by decide +kernel
theorem dX8_fault_1 : decode cX8_fault 1 = .ok (.getfield 131, 3) := by decide +kernel
theorem dX8_fault_4 : decode cX8_fault 4 = .ok (.ireturn, 1) := by decide +kernel
theorem dX8_isHouse_0 : decode cX8_isHouse 0 = .ok (.iload_n 1, 1) := by decide +kernel
theorem dX8_isHouse_1 : decode cX8_isHouse 1 = .ok (.i2l, 1) := by decide +kernel
theorem dX8_isHouse_2 : decode cX8_isHouse 2 = .ok (.lconst 0, 1) := by decide +kernel
theorem dX8_isHouse_3 : decode cX8_isHouse 3 = .ok (.aload_n 0, 1) := by decide +kernel
theorem dX8_isHouse_4 : decode cX8_isHouse 4 = .ok (.getfield 19, 3) := by decide +kernel
theorem dX8_isHouse_7 : decode cX8_isHouse 7 = .ok (.iconst 0, 1) := by decide +kernel
theorem dX8_isHouse_8 : decode cX8_isHouse 8 = .ok (.iaload, 1) := by decide +kernel
theorem dX8_isHouse_9 : decode cX8_isHouse 9 = .ok (.iconst 1, 1) := by decide +kernel
theorem dX8_isHouse_10 : decode cX8_isHouse 10 = .ok (.isub, 1) := by decide +kernel
theorem dX8_isHouse_11 : decode cX8_isHouse 11 = .ok (.i2l, 1) := by decide +kernel
theorem dX8_isHouse_12 : decode cX8_isHouse 12 = .ok (.invokestatic 57, 3) := by decide +kernel
theorem dX8_isHouse_15 : decode cX8_isHouse 15 = .ok (.ireturn, 1) := by decide +kernel
theorem dX8_stands_0 : decode cX8_stands 0 = .ok (.aload_n 0, 1) := by decide +kernel
theorem dX8_stands_1 : decode cX8_stands 1 = .ok (.getfield 19, 3) := by decide +kernel
theorem dX8_stands_4 : decode cX8_stands 4 = .ok (.bipush 21, 2) := by decide +kernel
theorem dX8_stands_6 : decode cX8_stands 6 = .ok (.iload_n 1, 1) := by decide +kernel
theorem dX8_stands_7 : decode cX8_stands 7 = .ok (.iadd, 1) := by decide +kernel
theorem dX8_stands_8 : decode cX8_stands 8 = .ok (.iaload, 1) := by decide +kernel
theorem dX8_stands_9 : decode cX8_stands 9 = .ok (.ifCond .le 7, 3) := by decide +kernel
theorem dX8_stands_12 : decode cX8_stands 12 = .ok (.iconst 1, 1) := by decide +kernel
theorem dX8_stands_13 : decode cX8_stands 13 = .ok (.goto 4, 3) := by decide +kernel
theorem dX8_stands_16 : decode cX8_stands 16 = .ok (.iconst 0, 1) := by decide +kernel
theorem dX8_stands_17 : decode cX8_stands 17 = .ok (.ireturn, 1) := by decide +kernel
theorem dX8_leans_0 : decode cX8_leans 0 = .ok (.aload_n 0, 1) := by decide +kernel
theorem dX8_leans_1 : decode cX8_leans 1 = .ok (.iload_n 1, 1) := by decide +kernel
theorem dX8_leans_2 : decode cX8_leans 2 = .ok (.invokevirtual 142, 3) := by decide +kernel
theorem dX8_leans_5 : decode cX8_leans 5 = .ok (.ifCond .eq 25, 3) := by decide +kernel
theorem dX8_leans_8 : decode cX8_leans 8 = .ok (.aload_n 0, 1) := by decide +kernel
theorem dX8_leans_9 : decode cX8_leans 9 = .ok (.getfield 19, 3) := by decide +kernel
theorem dX8_leans_12 : decode cX8_leans 12 = .ok (.bipush 21, 2) := by decide +kernel
theorem dX8_leans_14 : decode cX8_leans 14 = .ok (.iload_n 1, 1) := by decide +kernel
theorem dX8_leans_15 : decode cX8_leans 15 = .ok (.iadd, 1) := by decide +kernel
theorem dX8_leans_16 : decode cX8_leans 16 = .ok (.iaload, 1) := by decide +kernel
theorem dX8_leans_17 : decode cX8_leans 17 = .ok (.aload_n 0, 1) := by decide +kernel
theorem dX8_leans_18 : decode cX8_leans 18 = .ok (.getfield 19, 3) := by decide +kernel
theorem dX8_leans_21 : decode cX8_leans 21 = .ok (.iconst 2, 1) := by decide +kernel
theorem dX8_leans_22 : decode cX8_leans 22 = .ok (.iaload, 1) := by decide +kernel
theorem dX8_leans_23 : decode cX8_leans 23 = .ok (.if_icmp .ge 7, 3) := by decide +kernel
theorem dX8_leans_26 : decode cX8_leans 26 = .ok (.iconst 1, 1) := by decide +kernel
theorem dX8_leans_27 : decode cX8_leans 27 = .ok (.goto 4, 3) := by decide +kernel
theorem dX8_leans_30 : decode cX8_leans 30 = .ok (.iconst 0, 1) := by decide +kernel
theorem dX8_leans_31 : decode cX8_leans 31 = .ok (.ireturn, 1) := by decide +kernel
theorem dX8_touches_0 : decode cX8_touches 0 = .ok (.iload_n 1, 1) := by decide +kernel
theorem dX8_touches_1 : decode cX8_touches 1 = .ok (.ifCond .le 22, 3) := by decide +kernel
theorem dX8_touches_4 : decode cX8_touches 4 = .ok (.aload_n 0, 1) := by decide +kernel
theorem dX8_touches_5 : decode cX8_touches 5 = .ok (.getfield 19, 3) := by decide +kernel
theorem dX8_touches_8 : decode cX8_touches 8 = .ok (.iconst 4, 1) := by decide +kernel
theorem dX8_touches_9 : decode cX8_touches 9 = .ok (.iaload, 1) := by decide +kernel
theorem dX8_touches_10 : decode cX8_touches 10 = .ok (.iload_n 1, 1) := by decide +kernel
theorem dX8_touches_11 : decode cX8_touches 11 = .ok (.iconst 1, 1) := by decide +kernel
theorem dX8_touches_12 : decode cX8_touches 12 = .ok (.isub, 1) := by decide +kernel
theorem dX8_touches_13 : decode cX8_touches 13 = .ok (.invokestatic 145, 3) := by decide +kernel
theorem dX8_touches_16 : decode cX8_touches 16 = .ok (.ifCond .eq 7, 3) := by decide +kernel
theorem dX8_touches_19 : decode cX8_touches 19 = .ok (.iconst 1, 1) := by decide +kernel
theorem dX8_touches_20 : decode cX8_touches 20 = .ok (.goto 4, 3) := by decide +kernel
theorem dX8_touches_23 : decode cX8_touches 23 = .ok (.iconst 0, 1) := by decide +kernel
theorem dX8_touches_24 : decode cX8_touches 24 = .ok (.aload_n 0, 1) := by decide +kernel
theorem dX8_touches_25 : decode cX8_touches 25 = .ok (.getfield 19, 3) := by decide +kernel
theorem dX8_touches_28 : decode cX8_touches 28 = .ok (.iconst 4, 1) := by decide +kernel
theorem dX8_touches_29 : decode cX8_touches 29 = .ok (.iaload, 1) := by decide +kernel
theorem dX8_touches_30 : decode cX8_touches 30 = .ok (.iload_n 1, 1) := by decide +kernel
theorem dX8_touches_31 : decode cX8_touches 31 = .ok (.invokestatic 145, 3) := by decide +kernel
theorem dX8_touches_34 : decode cX8_touches 34 = .ok (.ifCond .eq 7, 3) := by decide +kernel
theorem dX8_touches_37 : decode cX8_touches 37 = .ok (.iconst 1, 1) := by decide +kernel
theorem dX8_touches_38 : decode cX8_touches 38 = .ok (.goto 4, 3) := by decide +kernel
theorem dX8_touches_41 : decode cX8_touches 41 = .ok (.iconst 0, 1) := by decide +kernel
theorem dX8_touches_42 : decode cX8_touches 42 = .ok (.iadd, 1) := by decide +kernel
theorem dX8_touches_43 : decode cX8_touches 43 = .ok (.ireturn, 1) := by decide +kernel
theorem dX8_lossOf_0 : decode cX8_lossOf 0 = .ok (.aload_n 0, 1) := by decide +kernel
theorem dX8_lossOf_1 : decode cX8_lossOf 1 = .ok (.getfield 19, 3) := by decide +kernel
theorem dX8_lossOf_4 : decode cX8_lossOf 4 = .ok (.bipush 13, 2) := by decide +kernel
theorem dX8_lossOf_6 : decode cX8_lossOf 6 = .ok (.iload_n 1, 1) := by decide +kernel
theorem dX8_lossOf_7 : decode cX8_lossOf 7 = .ok (.iadd, 1) := by decide +kernel
theorem dX8_lossOf_8 : decode cX8_lossOf 8 = .ok (.iaload, 1) := by decide +kernel
theorem dX8_lossOf_9 : decode cX8_lossOf 9 = .ok (.istore_n 2, 1) := by decide +kernel
theorem dX8_lossOf_10 : decode cX8_lossOf 10 = .ok (.aload_n 0, 1) := by decide +kernel
theorem dX8_lossOf_11 : decode cX8_lossOf 11 = .ok (.iload_n 1, 1) := by decide +kernel
theorem dX8_lossOf_12 : decode cX8_lossOf 12 = .ok (.invokevirtual 142, 3) := by decide +kernel
theorem dX8_lossOf_15 : decode cX8_lossOf 15 = .ok (.ifCond .ne 5, 3) := by decide +kernel
theorem dX8_lossOf_18 : decode cX8_lossOf 18 = .ok (.iconst 0, 1) := by decide +kernel
theorem dX8_lossOf_19 : decode cX8_lossOf 19 = .ok (.ireturn, 1) := by decide +kernel
theorem dX8_lossOf_20 : decode cX8_lossOf 20 = .ok (.aload_n 0, 1) := by decide +kernel
theorem dX8_lossOf_21 : decode cX8_lossOf 21 = .ok (.getfield 19, 3) := by decide +kernel
theorem dX8_lossOf_24 : decode cX8_lossOf 24 = .ok (.iconst 5, 1) := by decide +kernel
theorem dX8_lossOf_25 : decode cX8_lossOf 25 = .ok (.iload_n 1, 1) := by decide +kernel
theorem dX8_lossOf_26 : decode cX8_lossOf 26 = .ok (.iadd, 1) := by decide +kernel
theorem dX8_lossOf_27 : decode cX8_lossOf 27 = .ok (.iaload, 1) := by decide +kernel
theorem dX8_lossOf_28 : decode cX8_lossOf 28 = .ok (.tableswitch 71 1 4 #[32, 34, 50, 63], 32) := by decide +kernel
theorem dX8_lossOf_60 : decode cX8_lossOf 60 = .ok (.iload_n 2, 1) := by decide +kernel
theorem dX8_lossOf_61 : decode cX8_lossOf 61 = .ok (.ireturn, 1) := by decide +kernel
theorem dX8_lossOf_62 : decode cX8_lossOf 62 = .ok (.aload_n 0, 1) := by decide +kernel
theorem dX8_lossOf_63 : decode cX8_lossOf 63 = .ok (.iload_n 1, 1) := by decide +kernel
theorem dX8_lossOf_64 : decode cX8_lossOf 64 = .ok (.invokevirtual 149, 3) := by decide +kernel
theorem dX8_lossOf_67 : decode cX8_lossOf 67 = .ok (.ifCond .eq 9, 3) := by decide +kernel
theorem dX8_lossOf_70 : decode cX8_lossOf 70 = .ok (.iconst 2, 1) := by decide +kernel
theorem dX8_lossOf_71 : decode cX8_lossOf 71 = .ok (.iload_n 2, 1) := by decide +kernel
theorem dX8_lossOf_72 : decode cX8_lossOf 72 = .ok (.imul, 1) := by decide +kernel
theorem dX8_lossOf_73 : decode cX8_lossOf 73 = .ok (.goto 4, 3) := by decide +kernel
theorem dX8_lossOf_76 : decode cX8_lossOf 76 = .ok (.iload_n 2, 1) := by decide +kernel
theorem dX8_lossOf_77 : decode cX8_lossOf 77 = .ok (.ireturn, 1) := by decide +kernel
theorem dX8_lossOf_78 : decode cX8_lossOf 78 = .ok (.iload_n 2, 1) := by decide +kernel
theorem dX8_lossOf_79 : decode cX8_lossOf 79 = .ok (.iconst 4, 1) := by decide +kernel
theorem dX8_lossOf_80 : decode cX8_lossOf 80 = .ok (.if_icmp .ge 7, 3) := by decide +kernel
theorem dX8_lossOf_83 : decode cX8_lossOf 83 = .ok (.iconst 1, 1) := by decide +kernel
theorem dX8_lossOf_84 : decode cX8_lossOf 84 = .ok (.goto 6, 3) := by decide +kernel
theorem dX8_lossOf_87 : decode cX8_lossOf 87 = .ok (.iload_n 2, 1) := by decide +kernel
theorem dX8_lossOf_88 : decode cX8_lossOf 88 = .ok (.iconst 2, 1) := by decide +kernel
theorem dX8_lossOf_89 : decode cX8_lossOf 89 = .ok (.idiv, 1) := by decide +kernel
theorem dX8_lossOf_90 : decode cX8_lossOf 90 = .ok (.ireturn, 1) := by decide +kernel
theorem dX8_lossOf_91 : decode cX8_lossOf 91 = .ok (.iconst 1, 1) := by decide +kernel
theorem dX8_lossOf_92 : decode cX8_lossOf 92 = .ok (.aload_n 0, 1) := by decide +kernel
theorem dX8_lossOf_93 : decode cX8_lossOf 93 = .ok (.iload_n 1, 1) := by decide +kernel
theorem dX8_lossOf_94 : decode cX8_lossOf 94 = .ok (.invokevirtual 152, 3) := by decide +kernel
theorem dX8_lossOf_97 : decode cX8_lossOf 97 = .ok (.iadd, 1) := by decide +kernel
theorem dX8_lossOf_98 : decode cX8_lossOf 98 = .ok (.ireturn, 1) := by decide +kernel
theorem dX8_lossOf_99 : decode cX8_lossOf 99 = .ok (.aload_n 0, 1) := by decide +kernel
theorem dX8_lossOf_100 : decode cX8_lossOf 100 = .ok (.getfield 19, 3) := by decide +kernel
theorem dX8_lossOf_103 : decode cX8_lossOf 103 = .ok (.bipush 21, 2) := by decide +kernel
theorem dX8_lossOf_105 : decode cX8_lossOf 105 = .ok (.iload_n 1, 1) := by decide +kernel
theorem dX8_lossOf_106 : decode cX8_lossOf 106 = .ok (.iadd, 1) := by decide +kernel
theorem dX8_lossOf_107 : decode cX8_lossOf 107 = .ok (.iaload, 1) := by decide +kernel
theorem dX8_lossOf_108 : decode cX8_lossOf 108 = .ok (.bipush 50, 2) := by decide +kernel
theorem dX8_lossOf_110 : decode cX8_lossOf 110 = .ok (.if_icmp .lt 7, 3) := by decide +kernel
theorem dX8_lossOf_113 : decode cX8_lossOf 113 = .ok (.iconst 0, 1) := by decide +kernel
theorem dX8_lossOf_114 : decode cX8_lossOf 114 = .ok (.goto 10, 3) := by decide +kernel
theorem dX8_lossOf_117 : decode cX8_lossOf 117 = .ok (.iconst 1, 1) := by decide +kernel
theorem dX8_lossOf_118 : decode cX8_lossOf 118 = .ok (.aload_n 0, 1) := by decide +kernel
theorem dX8_lossOf_119 : decode cX8_lossOf 119 = .ok (.iload_n 1, 1) := by decide +kernel
theorem dX8_lossOf_120 : decode cX8_lossOf 120 = .ok (.invokevirtual 152, 3) := by decide +kernel
theorem dX8_lossOf_123 : decode cX8_lossOf 123 = .ok (.iadd, 1) := by decide +kernel
theorem dX8_lossOf_124 : decode cX8_lossOf 124 = .ok (.ireturn, 1) := by decide +kernel
theorem dX8_loses_0 : decode cX8_loses 0 = .ok (.aload_n 0, 1) := by decide +kernel
theorem dX8_loses_1 : decode cX8_loses 1 = .ok (.getfield 19, 3) := by decide +kernel
theorem dX8_loses_4 : decode cX8_loses 4 = .ok (.bipush 21, 2) := by decide +kernel
theorem dX8_loses_6 : decode cX8_loses 6 = .ok (.iload_n 1, 1) := by decide +kernel
theorem dX8_loses_7 : decode cX8_loses 7 = .ok (.iadd, 1) := by decide +kernel
theorem dX8_loses_8 : decode cX8_loses 8 = .ok (.aload_n 0, 1) := by decide +kernel
theorem dX8_loses_9 : decode cX8_loses 9 = .ok (.getfield 19, 3) := by decide +kernel
theorem dX8_loses_12 : decode cX8_loses 12 = .ok (.bipush 21, 2) := by decide +kernel
theorem dX8_loses_14 : decode cX8_loses 14 = .ok (.iload_n 1, 1) := by decide +kernel
theorem dX8_loses_15 : decode cX8_loses 15 = .ok (.iadd, 1) := by decide +kernel
theorem dX8_loses_16 : decode cX8_loses 16 = .ok (.iaload, 1) := by decide +kernel
theorem dX8_loses_17 : decode cX8_loses 17 = .ok (.iload_n 2, 1) := by decide +kernel
theorem dX8_loses_18 : decode cX8_loses 18 = .ok (.if_icmp .le 17, 3) := by decide +kernel
theorem dX8_loses_21 : decode cX8_loses 21 = .ok (.aload_n 0, 1) := by decide +kernel
theorem dX8_loses_22 : decode cX8_loses 22 = .ok (.getfield 19, 3) := by decide +kernel
theorem dX8_loses_25 : decode cX8_loses 25 = .ok (.bipush 21, 2) := by decide +kernel
theorem dX8_loses_27 : decode cX8_loses 27 = .ok (.iload_n 1, 1) := by decide +kernel
theorem dX8_loses_28 : decode cX8_loses 28 = .ok (.iadd, 1) := by decide +kernel
theorem dX8_loses_29 : decode cX8_loses 29 = .ok (.iaload, 1) := by decide +kernel
theorem dX8_loses_30 : decode cX8_loses 30 = .ok (.iload_n 2, 1) := by decide +kernel
theorem dX8_loses_31 : decode cX8_loses 31 = .ok (.isub, 1) := by decide +kernel
theorem dX8_loses_32 : decode cX8_loses 32 = .ok (.goto 4, 3) := by decide +kernel
theorem dX8_loses_35 : decode cX8_loses 35 = .ok (.iconst 0, 1) := by decide +kernel
theorem dX8_loses_36 : decode cX8_loses 36 = .ok (.iastore, 1) := by decide +kernel
theorem dX8_loses_37 : decode cX8_loses 37 = .ok (.return_, 1) := by decide +kernel
theorem dX8_standing_0 : decode cX8_standing 0 = .ok (.iconst 0, 1) := by decide +kernel
theorem dX8_standing_1 : decode cX8_standing 1 = .ok (.istore_n 1, 1) := by decide +kernel
theorem dX8_standing_2 : decode cX8_standing 2 = .ok (.iconst 0, 1) := by decide +kernel
theorem dX8_standing_3 : decode cX8_standing 3 = .ok (.istore_n 2, 1) := by decide +kernel
theorem dX8_standing_4 : decode cX8_standing 4 = .ok (.iload_n 2, 1) := by decide +kernel
theorem dX8_standing_5 : decode cX8_standing 5 = .ok (.aload_n 0, 1) := by decide +kernel
theorem dX8_standing_6 : decode cX8_standing 6 = .ok (.getfield 19, 3) := by decide +kernel
theorem dX8_standing_9 : decode cX8_standing 9 = .ok (.iconst 0, 1) := by decide +kernel
theorem dX8_standing_10 : decode cX8_standing 10 = .ok (.iaload, 1) := by decide +kernel
theorem dX8_standing_11 : decode cX8_standing 11 = .ok (.if_icmp .ge 27, 3) := by decide +kernel
theorem dX8_standing_14 : decode cX8_standing 14 = .ok (.iload_n 1, 1) := by decide +kernel
theorem dX8_standing_15 : decode cX8_standing 15 = .ok (.aload_n 0, 1) := by decide +kernel
theorem dX8_standing_16 : decode cX8_standing 16 = .ok (.iload_n 2, 1) := by decide +kernel
theorem dX8_standing_17 : decode cX8_standing 17 = .ok (.invokevirtual 142, 3) := by decide +kernel
theorem dX8_standing_20 : decode cX8_standing 20 = .ok (.ifCond .eq 9, 3) := by decide +kernel
theorem dX8_standing_23 : decode cX8_standing 23 = .ok (.iconst 1, 1) := by decide +kernel
theorem dX8_standing_24 : decode cX8_standing 24 = .ok (.iload_n 2, 1) := by decide +kernel
theorem dX8_standing_25 : decode cX8_standing 25 = .ok (.ishl, 1) := by decide +kernel
theorem dX8_standing_26 : decode cX8_standing 26 = .ok (.goto 4, 3) := by decide +kernel
theorem dX8_standing_29 : decode cX8_standing 29 = .ok (.iconst 0, 1) := by decide +kernel
theorem dX8_standing_30 : decode cX8_standing 30 = .ok (.ior, 1) := by decide +kernel
theorem dX8_standing_31 : decode cX8_standing 31 = .ok (.istore_n 1, 1) := by decide +kernel
theorem dX8_standing_32 : decode cX8_standing 32 = .ok (.iinc 2 1, 3) := by decide +kernel
theorem dX8_standing_35 : decode cX8_standing 35 = .ok (.goto (-31), 3) := by decide +kernel
theorem dX8_standing_38 : decode cX8_standing 38 = .ok (.iload_n 1, 1) := by decide +kernel
theorem dX8_standing_39 : decode cX8_standing 39 = .ok (.ireturn, 1) := by decide +kernel
theorem dX8_oneHour_0 : decode cX8_oneHour 0 = .ok (.aload_n 0, 1) := by decide +kernel
theorem dX8_oneHour_1 : decode cX8_oneHour 1 = .ok (.invokevirtual 155, 3) := by decide +kernel
theorem dX8_oneHour_4 : decode cX8_oneHour 4 = .ok (.istore_n 1, 1) := by decide +kernel
theorem dX8_oneHour_5 : decode cX8_oneHour 5 = .ok (.iconst 0, 1) := by decide +kernel
theorem dX8_oneHour_6 : decode cX8_oneHour 6 = .ok (.istore_n 2, 1) := by decide +kernel
theorem dX8_oneHour_7 : decode cX8_oneHour 7 = .ok (.iload_n 2, 1) := by decide +kernel
theorem dX8_oneHour_8 : decode cX8_oneHour 8 = .ok (.aload_n 0, 1) := by decide +kernel
theorem dX8_oneHour_9 : decode cX8_oneHour 9 = .ok (.getfield 19, 3) := by decide +kernel
theorem dX8_oneHour_12 : decode cX8_oneHour 12 = .ok (.iconst 0, 1) := by decide +kernel
theorem dX8_oneHour_13 : decode cX8_oneHour 13 = .ok (.iaload, 1) := by decide +kernel
theorem dX8_oneHour_14 : decode cX8_oneHour 14 = .ok (.if_icmp .ge 19, 3) := by decide +kernel
theorem dX8_oneHour_17 : decode cX8_oneHour 17 = .ok (.aload_n 0, 1) := by decide +kernel
theorem dX8_oneHour_18 : decode cX8_oneHour 18 = .ok (.iload_n 2, 1) := by decide +kernel
theorem dX8_oneHour_19 : decode cX8_oneHour 19 = .ok (.aload_n 0, 1) := by decide +kernel
theorem dX8_oneHour_20 : decode cX8_oneHour 20 = .ok (.iload_n 2, 1) := by decide +kernel
theorem dX8_oneHour_21 : decode cX8_oneHour 21 = .ok (.invokevirtual 159, 3) := by decide +kernel
theorem dX8_oneHour_24 : decode cX8_oneHour 24 = .ok (.invokevirtual 162, 3) := by decide +kernel
theorem dX8_oneHour_27 : decode cX8_oneHour 27 = .ok (.iinc 2 1, 3) := by decide +kernel
theorem dX8_oneHour_30 : decode cX8_oneHour 30 = .ok (.goto (-23), 3) := by decide +kernel
theorem dX8_oneHour_33 : decode cX8_oneHour 33 = .ok (.iconst 0, 1) := by decide +kernel
theorem dX8_oneHour_34 : decode cX8_oneHour 34 = .ok (.istore_n 2, 1) := by decide +kernel
theorem dX8_oneHour_35 : decode cX8_oneHour 35 = .ok (.iload_n 2, 1) := by decide +kernel
theorem dX8_oneHour_36 : decode cX8_oneHour 36 = .ok (.aload_n 0, 1) := by decide +kernel
theorem dX8_oneHour_37 : decode cX8_oneHour 37 = .ok (.getfield 19, 3) := by decide +kernel
theorem dX8_oneHour_40 : decode cX8_oneHour 40 = .ok (.iconst 0, 1) := by decide +kernel
theorem dX8_oneHour_41 : decode cX8_oneHour 41 = .ok (.iaload, 1) := by decide +kernel
theorem dX8_oneHour_42 : decode cX8_oneHour 42 = .ok (.iconst 1, 1) := by decide +kernel
theorem dX8_oneHour_43 : decode cX8_oneHour 43 = .ok (.isub, 1) := by decide +kernel
theorem dX8_oneHour_44 : decode cX8_oneHour 44 = .ok (.if_icmp .ge 92, 3) := by decide +kernel
theorem dX8_oneHour_47 : decode cX8_oneHour 47 = .ok (.aload_n 0, 1) := by decide +kernel
theorem dX8_oneHour_48 : decode cX8_oneHour 48 = .ok (.getfield 19, 3) := by decide +kernel
theorem dX8_oneHour_51 : decode cX8_oneHour 51 = .ok (.iconst 4, 1) := by decide +kernel
theorem dX8_oneHour_52 : decode cX8_oneHour 52 = .ok (.iaload, 1) := by decide +kernel
theorem dX8_oneHour_53 : decode cX8_oneHour 53 = .ok (.iload_n 2, 1) := by decide +kernel
theorem dX8_oneHour_54 : decode cX8_oneHour 54 = .ok (.invokestatic 145, 3) := by decide +kernel
theorem dX8_oneHour_57 : decode cX8_oneHour 57 = .ok (.ifCond .eq 73, 3) := by decide +kernel
theorem dX8_oneHour_60 : decode cX8_oneHour 60 = .ok (.aload_n 0, 1) := by decide +kernel
theorem dX8_oneHour_61 : decode cX8_oneHour 61 = .ok (.iload_n 2, 1) := by decide +kernel
theorem dX8_oneHour_62 : decode cX8_oneHour 62 = .ok (.invokevirtual 142, 3) := by decide +kernel
theorem dX8_oneHour_65 : decode cX8_oneHour 65 = .ok (.ifCond .eq 65, 3) := by decide +kernel
theorem dX8_oneHour_68 : decode cX8_oneHour 68 = .ok (.aload_n 0, 1) := by decide +kernel
theorem dX8_oneHour_69 : decode cX8_oneHour 69 = .ok (.iload_n 2, 1) := by decide +kernel
theorem dX8_oneHour_70 : decode cX8_oneHour 70 = .ok (.iconst 1, 1) := by decide +kernel
theorem dX8_oneHour_71 : decode cX8_oneHour 71 = .ok (.iadd, 1) := by decide +kernel
theorem dX8_oneHour_72 : decode cX8_oneHour 72 = .ok (.invokevirtual 142, 3) := by decide +kernel
theorem dX8_oneHour_75 : decode cX8_oneHour 75 = .ok (.ifCond .eq 55, 3) := by decide +kernel
theorem dX8_oneHour_78 : decode cX8_oneHour 78 = .ok (.aload_n 0, 1) := by decide +kernel
theorem dX8_oneHour_79 : decode cX8_oneHour 79 = .ok (.getfield 19, 3) := by decide +kernel
theorem dX8_oneHour_82 : decode cX8_oneHour 82 = .ok (.bipush 21, 2) := by decide +kernel
theorem dX8_oneHour_84 : decode cX8_oneHour 84 = .ok (.iload_n 2, 1) := by decide +kernel
theorem dX8_oneHour_85 : decode cX8_oneHour 85 = .ok (.iadd, 1) := by decide +kernel
theorem dX8_oneHour_86 : decode cX8_oneHour 86 = .ok (.iaload, 1) := by decide +kernel
theorem dX8_oneHour_87 : decode cX8_oneHour 87 = .ok (.aload_n 0, 1) := by decide +kernel
theorem dX8_oneHour_88 : decode cX8_oneHour 88 = .ok (.getfield 19, 3) := by decide +kernel
theorem dX8_oneHour_91 : decode cX8_oneHour 91 = .ok (.bipush 21, 2) := by decide +kernel
theorem dX8_oneHour_93 : decode cX8_oneHour 93 = .ok (.iload_n 2, 1) := by decide +kernel
theorem dX8_oneHour_94 : decode cX8_oneHour 94 = .ok (.iadd, 1) := by decide +kernel
theorem dX8_oneHour_95 : decode cX8_oneHour 95 = .ok (.iconst 1, 1) := by decide +kernel
theorem dX8_oneHour_96 : decode cX8_oneHour 96 = .ok (.iadd, 1) := by decide +kernel
theorem dX8_oneHour_97 : decode cX8_oneHour 97 = .ok (.iaload, 1) := by decide +kernel
theorem dX8_oneHour_98 : decode cX8_oneHour 98 = .ok (.isub, 1) := by decide +kernel
theorem dX8_oneHour_99 : decode cX8_oneHour 99 = .ok (.iconst 4, 1) := by decide +kernel
theorem dX8_oneHour_100 : decode cX8_oneHour 100 = .ok (.idiv, 1) := by decide +kernel
theorem dX8_oneHour_101 : decode cX8_oneHour 101 = .ok (.istore_n 3, 1) := by decide +kernel
theorem dX8_oneHour_102 : decode cX8_oneHour 102 = .ok (.aload_n 0, 1) := by decide +kernel
theorem dX8_oneHour_103 : decode cX8_oneHour 103 = .ok (.getfield 19, 3) := by decide +kernel
theorem dX8_oneHour_106 : decode cX8_oneHour 106 = .ok (.bipush 21, 2) := by decide +kernel
theorem dX8_oneHour_108 : decode cX8_oneHour 108 = .ok (.iload_n 2, 1) := by decide +kernel
theorem dX8_oneHour_109 : decode cX8_oneHour 109 = .ok (.iadd, 1) := by decide +kernel
theorem dX8_oneHour_110 : decode cX8_oneHour 110 = .ok (.dup2, 1) := by decide +kernel
theorem dX8_oneHour_111 : decode cX8_oneHour 111 = .ok (.iaload, 1) := by decide +kernel
theorem dX8_oneHour_112 : decode cX8_oneHour 112 = .ok (.iload_n 3, 1) := by decide +kernel
theorem dX8_oneHour_113 : decode cX8_oneHour 113 = .ok (.isub, 1) := by decide +kernel
theorem dX8_oneHour_114 : decode cX8_oneHour 114 = .ok (.iastore, 1) := by decide +kernel
theorem dX8_oneHour_115 : decode cX8_oneHour 115 = .ok (.aload_n 0, 1) := by decide +kernel
theorem dX8_oneHour_116 : decode cX8_oneHour 116 = .ok (.getfield 19, 3) := by decide +kernel
theorem dX8_oneHour_119 : decode cX8_oneHour 119 = .ok (.bipush 21, 2) := by decide +kernel
theorem dX8_oneHour_121 : decode cX8_oneHour 121 = .ok (.iload_n 2, 1) := by decide +kernel
theorem dX8_oneHour_122 : decode cX8_oneHour 122 = .ok (.iadd, 1) := by decide +kernel
theorem dX8_oneHour_123 : decode cX8_oneHour 123 = .ok (.iconst 1, 1) := by decide +kernel
theorem dX8_oneHour_124 : decode cX8_oneHour 124 = .ok (.iadd, 1) := by decide +kernel
theorem dX8_oneHour_125 : decode cX8_oneHour 125 = .ok (.dup2, 1) := by decide +kernel
theorem dX8_oneHour_126 : decode cX8_oneHour 126 = .ok (.iaload, 1) := by decide +kernel
theorem dX8_oneHour_127 : decode cX8_oneHour 127 = .ok (.iload_n 3, 1) := by decide +kernel
theorem dX8_oneHour_128 : decode cX8_oneHour 128 = .ok (.iadd, 1) := by decide +kernel
theorem dX8_oneHour_129 : decode cX8_oneHour 129 = .ok (.iastore, 1) := by decide +kernel
theorem dX8_oneHour_130 : decode cX8_oneHour 130 = .ok (.iinc 2 1, 3) := by decide +kernel
theorem dX8_oneHour_133 : decode cX8_oneHour 133 = .ok (.goto (-98), 3) := by decide +kernel
theorem dX8_oneHour_136 : decode cX8_oneHour 136 = .ok (.iconst 0, 1) := by decide +kernel
theorem dX8_oneHour_137 : decode cX8_oneHour 137 = .ok (.istore_n 2, 1) := by decide +kernel
theorem dX8_oneHour_138 : decode cX8_oneHour 138 = .ok (.iload_n 2, 1) := by decide +kernel
theorem dX8_oneHour_139 : decode cX8_oneHour 139 = .ok (.aload_n 0, 1) := by decide +kernel
theorem dX8_oneHour_140 : decode cX8_oneHour 140 = .ok (.getfield 19, 3) := by decide +kernel
theorem dX8_oneHour_143 : decode cX8_oneHour 143 = .ok (.iconst 0, 1) := by decide +kernel
theorem dX8_oneHour_144 : decode cX8_oneHour 144 = .ok (.iaload, 1) := by decide +kernel
theorem dX8_oneHour_145 : decode cX8_oneHour 145 = .ok (.iconst 1, 1) := by decide +kernel
theorem dX8_oneHour_146 : decode cX8_oneHour 146 = .ok (.isub, 1) := by decide +kernel
theorem dX8_oneHour_147 : decode cX8_oneHour 147 = .ok (.if_icmp .ge 38, 3) := by decide +kernel
theorem dX8_oneHour_150 : decode cX8_oneHour 150 = .ok (.iload_n 1, 1) := by decide +kernel
theorem dX8_oneHour_151 : decode cX8_oneHour 151 = .ok (.iload_n 2, 1) := by decide +kernel
theorem dX8_oneHour_152 : decode cX8_oneHour 152 = .ok (.invokestatic 145, 3) := by decide +kernel
theorem dX8_oneHour_155 : decode cX8_oneHour 155 = .ok (.ifCond .eq 24, 3) := by decide +kernel
theorem dX8_oneHour_158 : decode cX8_oneHour 158 = .ok (.aload_n 0, 1) := by decide +kernel
theorem dX8_oneHour_159 : decode cX8_oneHour 159 = .ok (.iload_n 2, 1) := by decide +kernel
theorem dX8_oneHour_160 : decode cX8_oneHour 160 = .ok (.invokevirtual 142, 3) := by decide +kernel
theorem dX8_oneHour_163 : decode cX8_oneHour 163 = .ok (.ifCond .ne 16, 3) := by decide +kernel
theorem dX8_oneHour_166 : decode cX8_oneHour 166 = .ok (.aload_n 0, 1) := by decide +kernel
theorem dX8_oneHour_167 : decode cX8_oneHour 167 = .ok (.iload_n 2, 1) := by decide +kernel
theorem dX8_oneHour_168 : decode cX8_oneHour 168 = .ok (.iconst 1, 1) := by decide +kernel
theorem dX8_oneHour_169 : decode cX8_oneHour 169 = .ok (.iadd, 1) := by decide +kernel
theorem dX8_oneHour_170 : decode cX8_oneHour 170 = .ok (.aload_n 0, 1) := by decide +kernel
theorem dX8_oneHour_171 : decode cX8_oneHour 171 = .ok (.getfield 19, 3) := by decide +kernel
theorem dX8_oneHour_174 : decode cX8_oneHour 174 = .ok (.iconst 2, 1) := by decide +kernel
theorem dX8_oneHour_175 : decode cX8_oneHour 175 = .ok (.iaload, 1) := by decide +kernel
theorem dX8_oneHour_176 : decode cX8_oneHour 176 = .ok (.invokevirtual 162, 3) := by decide +kernel
theorem dX8_oneHour_179 : decode cX8_oneHour 179 = .ok (.iinc 2 1, 3) := by decide +kernel
theorem dX8_oneHour_182 : decode cX8_oneHour 182 = .ok (.goto (-44), 3) := by decide +kernel
theorem dX8_oneHour_185 : decode cX8_oneHour 185 = .ok (.aload_n 0, 1) := by decide +kernel
theorem dX8_oneHour_186 : decode cX8_oneHour 186 = .ok (.getfield 19, 3) := by decide +kernel
theorem dX8_oneHour_189 : decode cX8_oneHour 189 = .ok (.iconst 3, 1) := by decide +kernel
theorem dX8_oneHour_190 : decode cX8_oneHour 190 = .ok (.dup2, 1) := by decide +kernel
theorem dX8_oneHour_191 : decode cX8_oneHour 191 = .ok (.iaload, 1) := by decide +kernel
theorem dX8_oneHour_192 : decode cX8_oneHour 192 = .ok (.iconst 1, 1) := by decide +kernel
theorem dX8_oneHour_193 : decode cX8_oneHour 193 = .ok (.iadd, 1) := by decide +kernel
theorem dX8_oneHour_194 : decode cX8_oneHour 194 = .ok (.iastore, 1) := by decide +kernel
theorem dX8_oneHour_195 : decode cX8_oneHour 195 = .ok (.return_, 1) := by decide +kernel
theorem dX8_lashBy_0 : decode cX8_lashBy 0 = .ok (.aload_n 0, 1) := by decide +kernel
theorem dX8_lashBy_1 : decode cX8_lashBy 1 = .ok (.getfield 19, 3) := by decide +kernel
theorem dX8_lashBy_4 : decode cX8_lashBy 4 = .ok (.bipush 21, 2) := by decide +kernel
theorem dX8_lashBy_6 : decode cX8_lashBy 6 = .ok (.iload_n 1, 1) := by decide +kernel
theorem dX8_lashBy_7 : decode cX8_lashBy 7 = .ok (.iadd, 1) := by decide +kernel
theorem dX8_lashBy_8 : decode cX8_lashBy 8 = .ok (.aload_n 0, 1) := by decide +kernel
theorem dX8_lashBy_9 : decode cX8_lashBy 9 = .ok (.getfield 19, 3) := by decide +kernel
theorem dX8_lashBy_12 : decode cX8_lashBy 12 = .ok (.bipush 21, 2) := by decide +kernel
theorem dX8_lashBy_14 : decode cX8_lashBy 14 = .ok (.iload_n 1, 1) := by decide +kernel
theorem dX8_lashBy_15 : decode cX8_lashBy 15 = .ok (.iadd, 1) := by decide +kernel
theorem dX8_lashBy_16 : decode cX8_lashBy 16 = .ok (.iaload, 1) := by decide +kernel
theorem dX8_lashBy_17 : decode cX8_lashBy 17 = .ok (.iload_n 2, 1) := by decide +kernel
theorem dX8_lashBy_18 : decode cX8_lashBy 18 = .ok (.iadd, 1) := by decide +kernel
theorem dX8_lashBy_19 : decode cX8_lashBy 19 = .ok (.bipush 99, 2) := by decide +kernel
theorem dX8_lashBy_21 : decode cX8_lashBy 21 = .ok (.if_icmp .le 8, 3) := by decide +kernel
theorem dX8_lashBy_24 : decode cX8_lashBy 24 = .ok (.bipush 99, 2) := by decide +kernel
theorem dX8_lashBy_26 : decode cX8_lashBy 26 = .ok (.goto 14, 3) := by decide +kernel
theorem dX8_lashBy_29 : decode cX8_lashBy 29 = .ok (.aload_n 0, 1) := by decide +kernel
theorem dX8_lashBy_30 : decode cX8_lashBy 30 = .ok (.getfield 19, 3) := by decide +kernel
theorem dX8_lashBy_33 : decode cX8_lashBy 33 = .ok (.bipush 21, 2) := by decide +kernel
theorem dX8_lashBy_35 : decode cX8_lashBy 35 = .ok (.iload_n 1, 1) := by decide +kernel
theorem dX8_lashBy_36 : decode cX8_lashBy 36 = .ok (.iadd, 1) := by decide +kernel
theorem dX8_lashBy_37 : decode cX8_lashBy 37 = .ok (.iaload, 1) := by decide +kernel
theorem dX8_lashBy_38 : decode cX8_lashBy 38 = .ok (.iload_n 2, 1) := by decide +kernel
theorem dX8_lashBy_39 : decode cX8_lashBy 39 = .ok (.iadd, 1) := by decide +kernel
theorem dX8_lashBy_40 : decode cX8_lashBy 40 = .ok (.iastore, 1) := by decide +kernel
theorem dX8_lashBy_41 : decode cX8_lashBy 41 = .ok (.return_, 1) := by decide +kernel
theorem dX8_spinOf_0 : decode cX8_spinOf 0 = .ok (.iconst 0, 1) := by decide +kernel
theorem dX8_spinOf_1 : decode cX8_spinOf 1 = .ok (.istore_n 3, 1) := by decide +kernel
theorem dX8_spinOf_2 : decode cX8_spinOf 2 = .ok (.iload_n 1, 1) := by decide +kernel
theorem dX8_spinOf_3 : decode cX8_spinOf 3 = .ok (.istore 4, 2) := by decide +kernel
theorem dX8_spinOf_5 : decode cX8_spinOf 5 = .ok (.iload 4, 2) := by decide +kernel
theorem dX8_spinOf_7 : decode cX8_spinOf 7 = .ok (.aload_n 0, 1) := by decide +kernel
theorem dX8_spinOf_8 : decode cX8_spinOf 8 = .ok (.getfield 19, 3) := by decide +kernel
theorem dX8_spinOf_11 : decode cX8_spinOf 11 = .ok (.iconst 0, 1) := by decide +kernel
theorem dX8_spinOf_12 : decode cX8_spinOf 12 = .ok (.iaload, 1) := by decide +kernel
theorem dX8_spinOf_13 : decode cX8_spinOf 13 = .ok (.if_icmp .ge 25, 3) := by decide +kernel
theorem dX8_spinOf_16 : decode cX8_spinOf 16 = .ok (.iload_n 3, 1) := by decide +kernel
theorem dX8_spinOf_17 : decode cX8_spinOf 17 = .ok (.aload_n 0, 1) := by decide +kernel
theorem dX8_spinOf_18 : decode cX8_spinOf 18 = .ok (.getfield 19, 3) := by decide +kernel
theorem dX8_spinOf_21 : decode cX8_spinOf 21 = .ok (.bipush 21, 2) := by decide +kernel
theorem dX8_spinOf_23 : decode cX8_spinOf 23 = .ok (.iload 4, 2) := by decide +kernel
theorem dX8_spinOf_25 : decode cX8_spinOf 25 = .ok (.iadd, 1) := by decide +kernel
theorem dX8_spinOf_26 : decode cX8_spinOf 26 = .ok (.iaload, 1) := by decide +kernel
theorem dX8_spinOf_27 : decode cX8_spinOf 27 = .ok (.iadd, 1) := by decide +kernel
theorem dX8_spinOf_28 : decode cX8_spinOf 28 = .ok (.istore_n 3, 1) := by decide +kernel
theorem dX8_spinOf_29 : decode cX8_spinOf 29 = .ok (.iload 4, 2) := by decide +kernel
theorem dX8_spinOf_31 : decode cX8_spinOf 31 = .ok (.iload_n 2, 1) := by decide +kernel
theorem dX8_spinOf_32 : decode cX8_spinOf 32 = .ok (.iadd, 1) := by decide +kernel
theorem dX8_spinOf_33 : decode cX8_spinOf 33 = .ok (.istore 4, 2) := by decide +kernel
theorem dX8_spinOf_35 : decode cX8_spinOf 35 = .ok (.goto (-30), 3) := by decide +kernel
theorem dX8_spinOf_38 : decode cX8_spinOf 38 = .ok (.iload_n 3, 1) := by decide +kernel
theorem dX8_spinOf_39 : decode cX8_spinOf 39 = .ok (.ireturn, 1) := by decide +kernel
theorem dX8_note_0 : decode cX8_note 0 = .ok (.aload_n 0, 1) := by decide +kernel
theorem dX8_note_1 : decode cX8_note 1 = .ok (.getfield 139, 3) := by decide +kernel
theorem dX8_note_4 : decode cX8_note 4 = .ok (.bipush 24, 2) := by decide +kernel
theorem dX8_note_6 : decode cX8_note 6 = .ok (.if_icmp .ne 43, 3) := by decide +kernel
theorem dX8_note_9 : decode cX8_note 9 = .ok (.iconst 0, 1) := by decide +kernel
theorem dX8_note_10 : decode cX8_note 10 = .ok (.istore_n 1, 1) := by decide +kernel
theorem dX8_note_11 : decode cX8_note 11 = .ok (.iload_n 1, 1) := by decide +kernel
theorem dX8_note_12 : decode cX8_note 12 = .ok (.sipush 667, 3) := by decide +kernel
theorem dX8_note_15 : decode cX8_note 15 = .ok (.if_icmp .ge 24, 3) := by decide +kernel
theorem dX8_note_18 : decode cX8_note 18 = .ok (.aload_n 0, 1) := by decide +kernel
theorem dX8_note_19 : decode cX8_note 19 = .ok (.getfield 31, 3) := by decide +kernel
theorem dX8_note_22 : decode cX8_note 22 = .ok (.iload_n 1, 1) := by decide +kernel
theorem dX8_note_23 : decode cX8_note 23 = .ok (.aload_n 0, 1) := by decide +kernel
theorem dX8_note_24 : decode cX8_note 24 = .ok (.getfield 31, 3) := by decide +kernel
theorem dX8_note_27 : decode cX8_note 27 = .ok (.iload_n 1, 1) := by decide +kernel
theorem dX8_note_28 : decode cX8_note 28 = .ok (.bipush 29, 2) := by decide +kernel
theorem dX8_note_30 : decode cX8_note 30 = .ok (.iadd, 1) := by decide +kernel
theorem dX8_note_31 : decode cX8_note 31 = .ok (.iaload, 1) := by decide +kernel
theorem dX8_note_32 : decode cX8_note 32 = .ok (.iastore, 1) := by decide +kernel
theorem dX8_note_33 : decode cX8_note 33 = .ok (.iinc 1 1, 3) := by decide +kernel
theorem dX8_note_36 : decode cX8_note 36 = .ok (.goto (-25), 3) := by decide +kernel
theorem dX8_note_39 : decode cX8_note 39 = .ok (.aload_n 0, 1) := by decide +kernel
theorem dX8_note_40 : decode cX8_note 40 = .ok (.dup, 1) := by decide +kernel
theorem dX8_note_41 : decode cX8_note 41 = .ok (.getfield 139, 3) := by decide +kernel
theorem dX8_note_44 : decode cX8_note 44 = .ok (.iconst 1, 1) := by decide +kernel
theorem dX8_note_45 : decode cX8_note 45 = .ok (.isub, 1) := by decide +kernel
theorem dX8_note_46 : decode cX8_note 46 = .ok (.putfield 139, 3) := by decide +kernel
theorem dX8_note_49 : decode cX8_note 49 = .ok (.iconst 0, 1) := by decide +kernel
theorem dX8_note_50 : decode cX8_note 50 = .ok (.istore_n 1, 1) := by decide +kernel
theorem dX8_note_51 : decode cX8_note 51 = .ok (.iload_n 1, 1) := by decide +kernel
theorem dX8_note_52 : decode cX8_note 52 = .ok (.bipush 29, 2) := by decide +kernel
theorem dX8_note_54 : decode cX8_note 54 = .ok (.if_icmp .ge 29, 3) := by decide +kernel
theorem dX8_note_57 : decode cX8_note 57 = .ok (.aload_n 0, 1) := by decide +kernel
theorem dX8_note_58 : decode cX8_note 58 = .ok (.getfield 31, 3) := by decide +kernel
theorem dX8_note_61 : decode cX8_note 61 = .ok (.bipush 29, 2) := by decide +kernel
theorem dX8_note_63 : decode cX8_note 63 = .ok (.aload_n 0, 1) := by decide +kernel
theorem dX8_note_64 : decode cX8_note 64 = .ok (.getfield 139, 3) := by decide +kernel
theorem dX8_note_67 : decode cX8_note 67 = .ok (.imul, 1) := by decide +kernel
theorem dX8_note_68 : decode cX8_note 68 = .ok (.iload_n 1, 1) := by decide +kernel
theorem dX8_note_69 : decode cX8_note 69 = .ok (.iadd, 1) := by decide +kernel
theorem dX8_note_70 : decode cX8_note 70 = .ok (.aload_n 0, 1) := by decide +kernel
theorem dX8_note_71 : decode cX8_note 71 = .ok (.getfield 19, 3) := by decide +kernel
theorem dX8_note_74 : decode cX8_note 74 = .ok (.iload_n 1, 1) := by decide +kernel
theorem dX8_note_75 : decode cX8_note 75 = .ok (.iaload, 1) := by decide +kernel
theorem dX8_note_76 : decode cX8_note 76 = .ok (.iastore, 1) := by decide +kernel
theorem dX8_note_77 : decode cX8_note 77 = .ok (.iinc 1 1, 3) := by decide +kernel
theorem dX8_note_80 : decode cX8_note 80 = .ok (.goto (-29), 3) := by decide +kernel
theorem dX8_note_83 : decode cX8_note 83 = .ok (.aload_n 0, 1) := by decide +kernel
theorem dX8_note_84 : decode cX8_note 84 = .ok (.dup, 1) := by decide +kernel
theorem dX8_note_85 : decode cX8_note 85 = .ok (.getfield 139, 3) := by decide +kernel
theorem dX8_note_88 : decode cX8_note 88 = .ok (.iconst 1, 1) := by decide +kernel
theorem dX8_note_89 : decode cX8_note 89 = .ok (.iadd, 1) := by decide +kernel
theorem dX8_note_90 : decode cX8_note 90 = .ok (.putfield 139, 3) := by decide +kernel
theorem dX8_note_93 : decode cX8_note 93 = .ok (.return_, 1) := by decide +kernel
theorem dX8_undo_0 : decode cX8_undo 0 = .ok (.aload_n 0, 1) := by decide +kernel
theorem dX8_undo_1 : decode cX8_undo 1 = .ok (.getfield 139, 3) := by decide +kernel
theorem dX8_undo_4 : decode cX8_undo 4 = .ok (.ifCond .ne 6, 3) := by decide +kernel
theorem dX8_undo_7 : decode cX8_undo 7 = .ok (.ldc 166, 2) := by decide +kernel
theorem dX8_undo_9 : decode cX8_undo 9 = .ok (.ireturn, 1) := by decide +kernel
theorem dX8_undo_10 : decode cX8_undo 10 = .ok (.aload_n 0, 1) := by decide +kernel
theorem dX8_undo_11 : decode cX8_undo 11 = .ok (.dup, 1) := by decide +kernel
theorem dX8_undo_12 : decode cX8_undo 12 = .ok (.getfield 139, 3) := by decide +kernel
theorem dX8_undo_15 : decode cX8_undo 15 = .ok (.iconst 1, 1) := by decide +kernel
theorem dX8_undo_16 : decode cX8_undo 16 = .ok (.isub, 1) := by decide +kernel
theorem dX8_undo_17 : decode cX8_undo 17 = .ok (.putfield 139, 3) := by decide +kernel
theorem dX8_undo_20 : decode cX8_undo 20 = .ok (.iconst 0, 1) := by decide +kernel
theorem dX8_undo_21 : decode cX8_undo 21 = .ok (.istore_n 1, 1) := by decide +kernel
theorem dX8_undo_22 : decode cX8_undo 22 = .ok (.iload_n 1, 1) := by decide +kernel
theorem dX8_undo_23 : decode cX8_undo 23 = .ok (.bipush 29, 2) := by decide +kernel
theorem dX8_undo_25 : decode cX8_undo 25 = .ok (.if_icmp .ge 29, 3) := by decide +kernel
theorem dX8_undo_28 : decode cX8_undo 28 = .ok (.aload_n 0, 1) := by decide +kernel
theorem dX8_undo_29 : decode cX8_undo 29 = .ok (.getfield 19, 3) := by decide +kernel
theorem dX8_undo_32 : decode cX8_undo 32 = .ok (.iload_n 1, 1) := by decide +kernel
theorem dX8_undo_33 : decode cX8_undo 33 = .ok (.aload_n 0, 1) := by decide +kernel
theorem dX8_undo_34 : decode cX8_undo 34 = .ok (.getfield 31, 3) := by decide +kernel
theorem dX8_undo_37 : decode cX8_undo 37 = .ok (.bipush 29, 2) := by decide +kernel
theorem dX8_undo_39 : decode cX8_undo 39 = .ok (.aload_n 0, 1) := by decide +kernel
theorem dX8_undo_40 : decode cX8_undo 40 = .ok (.getfield 139, 3) := by decide +kernel
theorem dX8_undo_43 : decode cX8_undo 43 = .ok (.imul, 1) := by decide +kernel
theorem dX8_undo_44 : decode cX8_undo 44 = .ok (.iload_n 1, 1) := by decide +kernel
theorem dX8_undo_45 : decode cX8_undo 45 = .ok (.iadd, 1) := by decide +kernel
theorem dX8_undo_46 : decode cX8_undo 46 = .ok (.iaload, 1) := by decide +kernel
theorem dX8_undo_47 : decode cX8_undo 47 = .ok (.iastore, 1) := by decide +kernel
theorem dX8_undo_48 : decode cX8_undo 48 = .ok (.iinc 1 1, 3) := by decide +kernel
theorem dX8_undo_51 : decode cX8_undo 51 = .ok (.goto (-29), 3) := by decide +kernel
theorem dX8_undo_54 : decode cX8_undo 54 = .ok (.aload_n 0, 1) := by decide +kernel
theorem dX8_undo_55 : decode cX8_undo 55 = .ok (.getfield 139, 3) := by decide +kernel
theorem dX8_undo_58 : decode cX8_undo 58 = .ok (.ireturn, 1) := by decide +kernel
theorem dX8_hours_0 : decode cX8_hours 0 = .ok (.aload_n 0, 1) := by decide +kernel
theorem dX8_hours_1 : decode cX8_hours 1 = .ok (.getfield 135, 3) := by decide +kernel
theorem dX8_hours_4 : decode cX8_hours 4 = .ok (.ifCond .ne 6, 3) := by decide +kernel
theorem dX8_hours_7 : decode cX8_hours 7 = .ok (.ldc 166, 2) := by decide +kernel
theorem dX8_hours_9 : decode cX8_hours 9 = .ok (.ireturn, 1) := by decide +kernel
theorem dX8_hours_10 : decode cX8_hours 10 = .ok (.iload_n 1, 1) := by decide +kernel
theorem dX8_hours_11 : decode cX8_hours 11 = .ok (.i2l, 1) := by decide +kernel
theorem dX8_hours_12 : decode cX8_hours 12 = .ok (.lconst 1, 1) := by decide +kernel
theorem dX8_hours_13 : decode cX8_hours 13 = .ok (.ldc2_w 167, 3) := by decide +kernel
theorem dX8_hours_16 : decode cX8_hours 16 = .ok (.invokestatic 57, 3) := by decide +kernel
theorem dX8_hours_19 : decode cX8_hours 19 = .ok (.ifCond .ne 6, 3) := by decide +kernel
theorem dX8_hours_22 : decode cX8_hours 22 = .ok (.ldc 67, 2) := by decide +kernel
theorem dX8_hours_24 : decode cX8_hours 24 = .ok (.ireturn, 1) := by decide +kernel
theorem dX8_hours_25 : decode cX8_hours 25 = .ok (.aload_n 0, 1) := by decide +kernel
theorem dX8_hours_26 : decode cX8_hours 26 = .ok (.getfield 19, 3) := by decide +kernel
theorem dX8_hours_29 : decode cX8_hours 29 = .ok (.iconst 3, 1) := by decide +kernel
theorem dX8_hours_30 : decode cX8_hours 30 = .ok (.iaload, 1) := by decide +kernel
theorem dX8_hours_31 : decode cX8_hours 31 = .ok (.iload_n 1, 1) := by decide +kernel
theorem dX8_hours_32 : decode cX8_hours 32 = .ok (.iadd, 1) := by decide +kernel
theorem dX8_hours_33 : decode cX8_hours 33 = .ok (.sipush 999, 3) := by decide +kernel
theorem dX8_hours_36 : decode cX8_hours 36 = .ok (.if_icmp .le 6, 3) := by decide +kernel
theorem dX8_hours_39 : decode cX8_hours 39 = .ok (.ldc 84, 2) := by decide +kernel
theorem dX8_hours_41 : decode cX8_hours 41 = .ok (.ireturn, 1) := by decide +kernel
theorem dX8_hours_42 : decode cX8_hours 42 = .ok (.iconst 0, 1) := by decide +kernel
theorem dX8_hours_43 : decode cX8_hours 43 = .ok (.istore_n 2, 1) := by decide +kernel
theorem dX8_hours_44 : decode cX8_hours 44 = .ok (.iload_n 2, 1) := by decide +kernel
theorem dX8_hours_45 : decode cX8_hours 45 = .ok (.iload_n 1, 1) := by decide +kernel
theorem dX8_hours_46 : decode cX8_hours 46 = .ok (.if_icmp .ge 17, 3) := by decide +kernel
theorem dX8_hours_49 : decode cX8_hours 49 = .ok (.aload_n 0, 1) := by decide +kernel
theorem dX8_hours_50 : decode cX8_hours 50 = .ok (.invokevirtual 169, 3) := by decide +kernel
theorem dX8_hours_53 : decode cX8_hours 53 = .ok (.aload_n 0, 1) := by decide +kernel
theorem dX8_hours_54 : decode cX8_hours 54 = .ok (.invokevirtual 172, 3) := by decide +kernel
theorem dX8_hours_57 : decode cX8_hours 57 = .ok (.iinc 2 1, 3) := by decide +kernel
theorem dX8_hours_60 : decode cX8_hours 60 = .ok (.goto (-16), 3) := by decide +kernel
theorem dX8_hours_63 : decode cX8_hours 63 = .ok (.aload_n 0, 1) := by decide +kernel
theorem dX8_hours_64 : decode cX8_hours 64 = .ok (.invokevirtual 155, 3) := by decide +kernel
theorem dX8_hours_67 : decode cX8_hours 67 = .ok (.ireturn, 1) := by decide +kernel
theorem dX8_lash_0 : decode cX8_lash 0 = .ok (.aload_n 0, 1) := by decide +kernel
theorem dX8_lash_1 : decode cX8_lash 1 = .ok (.iload_n 1, 1) := by decide +kernel
theorem dX8_lash_2 : decode cX8_lash 2 = .ok (.invokevirtual 175, 3) := by decide +kernel
theorem dX8_lash_5 : decode cX8_lash 5 = .ok (.ifCond .ne 6, 3) := by decide +kernel
theorem dX8_lash_8 : decode cX8_lash 8 = .ok (.ldc 67, 2) := by decide +kernel
theorem dX8_lash_10 : decode cX8_lash 10 = .ok (.ireturn, 1) := by decide +kernel
theorem dX8_lash_11 : decode cX8_lash 11 = .ok (.aload_n 0, 1) := by decide +kernel
theorem dX8_lash_12 : decode cX8_lash 12 = .ok (.iload_n 1, 1) := by decide +kernel
theorem dX8_lash_13 : decode cX8_lash 13 = .ok (.invokevirtual 142, 3) := by decide +kernel
theorem dX8_lash_16 : decode cX8_lash 16 = .ok (.ifCond .ne 6, 3) := by decide +kernel
theorem dX8_lash_19 : decode cX8_lash 19 = .ok (.ldc 166, 2) := by decide +kernel
theorem dX8_lash_21 : decode cX8_lash 21 = .ok (.ireturn, 1) := by decide +kernel
theorem dX8_lash_22 : decode cX8_lash 22 = .ok (.aload_n 0, 1) := by decide +kernel
theorem dX8_lash_23 : decode cX8_lash 23 = .ok (.invokevirtual 169, 3) := by decide +kernel
theorem dX8_lash_26 : decode cX8_lash 26 = .ok (.aload_n 0, 1) := by decide +kernel
theorem dX8_lash_27 : decode cX8_lash 27 = .ok (.iload_n 1, 1) := by decide +kernel
theorem dX8_lash_28 : decode cX8_lash 28 = .ok (.aload_n 0, 1) := by decide +kernel
theorem dX8_lash_29 : decode cX8_lash 29 = .ok (.getfield 19, 3) := by decide +kernel
theorem dX8_lash_32 : decode cX8_lash 32 = .ok (.iconst 1, 1) := by decide +kernel
theorem dX8_lash_33 : decode cX8_lash 33 = .ok (.iaload, 1) := by decide +kernel
theorem dX8_lash_34 : decode cX8_lash 34 = .ok (.invokevirtual 178, 3) := by decide +kernel
theorem dX8_lash_37 : decode cX8_lash 37 = .ok (.aload_n 0, 1) := by decide +kernel
theorem dX8_lash_38 : decode cX8_lash 38 = .ok (.getfield 19, 3) := by decide +kernel
theorem dX8_lash_41 : decode cX8_lash 41 = .ok (.bipush 21, 2) := by decide +kernel
theorem dX8_lash_43 : decode cX8_lash 43 = .ok (.iload_n 1, 1) := by decide +kernel
theorem dX8_lash_44 : decode cX8_lash 44 = .ok (.iadd, 1) := by decide +kernel
theorem dX8_lash_45 : decode cX8_lash 45 = .ok (.iaload, 1) := by decide +kernel
theorem dX8_lash_46 : decode cX8_lash 46 = .ok (.ireturn, 1) := by decide +kernel
theorem dX8_touch_0 : decode cX8_touch 0 = .ok (.iload_n 1, 1) := by decide +kernel
theorem dX8_touch_1 : decode cX8_touch 1 = .ok (.i2l, 1) := by decide +kernel
theorem dX8_touch_2 : decode cX8_touch 2 = .ok (.lconst 0, 1) := by decide +kernel
theorem dX8_touch_3 : decode cX8_touch 3 = .ok (.aload_n 0, 1) := by decide +kernel
theorem dX8_touch_4 : decode cX8_touch 4 = .ok (.getfield 19, 3) := by decide +kernel
theorem dX8_touch_7 : decode cX8_touch 7 = .ok (.iconst 0, 1) := by decide +kernel
theorem dX8_touch_8 : decode cX8_touch 8 = .ok (.iaload, 1) := by decide +kernel
theorem dX8_touch_9 : decode cX8_touch 9 = .ok (.iconst 2, 1) := by decide +kernel
theorem dX8_touch_10 : decode cX8_touch 10 = .ok (.isub, 1) := by decide +kernel
theorem dX8_touch_11 : decode cX8_touch 11 = .ok (.i2l, 1) := by decide +kernel
theorem dX8_touch_12 : decode cX8_touch 12 = .ok (.invokestatic 57, 3) := by decide +kernel
theorem dX8_touch_15 : decode cX8_touch 15 = .ok (.ifCond .eq 13, 3) := by decide +kernel
theorem dX8_touch_18 : decode cX8_touch 18 = .ok (.iload_n 2, 1) := by decide +kernel
theorem dX8_touch_19 : decode cX8_touch 19 = .ok (.i2l, 1) := by decide +kernel
theorem dX8_touch_20 : decode cX8_touch 20 = .ok (.lconst 0, 1) := by decide +kernel
theorem dX8_touch_21 : decode cX8_touch 21 = .ok (.lconst 1, 1) := by decide +kernel
theorem dX8_touch_22 : decode cX8_touch 22 = .ok (.invokestatic 57, 3) := by decide +kernel
theorem dX8_touch_25 : decode cX8_touch 25 = .ok (.ifCond .ne 6, 3) := by decide +kernel
theorem dX8_touch_28 : decode cX8_touch 28 = .ok (.ldc 67, 2) := by decide +kernel
theorem dX8_touch_30 : decode cX8_touch 30 = .ok (.ireturn, 1) := by decide +kernel
theorem dX8_touch_31 : decode cX8_touch 31 = .ok (.aload_n 0, 1) := by decide +kernel
theorem dX8_touch_32 : decode cX8_touch 32 = .ok (.getfield 19, 3) := by decide +kernel
theorem dX8_touch_35 : decode cX8_touch 35 = .ok (.iconst 4, 1) := by decide +kernel
theorem dX8_touch_36 : decode cX8_touch 36 = .ok (.iaload, 1) := by decide +kernel
theorem dX8_touch_37 : decode cX8_touch 37 = .ok (.iload_n 1, 1) := by decide +kernel
theorem dX8_touch_38 : decode cX8_touch 38 = .ok (.invokestatic 145, 3) := by decide +kernel
theorem dX8_touch_41 : decode cX8_touch 41 = .ok (.iload_n 2, 1) := by decide +kernel
theorem dX8_touch_42 : decode cX8_touch 42 = .ok (.iconst 1, 1) := by decide +kernel
theorem dX8_touch_43 : decode cX8_touch 43 = .ok (.if_icmp .ne 7, 3) := by decide +kernel
theorem dX8_touch_46 : decode cX8_touch 46 = .ok (.iconst 1, 1) := by decide +kernel
theorem dX8_touch_47 : decode cX8_touch 47 = .ok (.goto 4, 3) := by decide +kernel
theorem dX8_touch_50 : decode cX8_touch 50 = .ok (.iconst 0, 1) := by decide +kernel
theorem dX8_touch_51 : decode cX8_touch 51 = .ok (.if_icmp .ne 6, 3) := by decide +kernel
theorem dX8_touch_54 : decode cX8_touch 54 = .ok (.ldc 166, 2) := by decide +kernel
theorem dX8_touch_56 : decode cX8_touch 56 = .ok (.ireturn, 1) := by decide +kernel
theorem dX8_touch_57 : decode cX8_touch 57 = .ok (.aload_n 0, 1) := by decide +kernel
theorem dX8_touch_58 : decode cX8_touch 58 = .ok (.invokevirtual 169, 3) := by decide +kernel
theorem dX8_touch_61 : decode cX8_touch 61 = .ok (.aload_n 0, 1) := by decide +kernel
theorem dX8_touch_62 : decode cX8_touch 62 = .ok (.getfield 19, 3) := by decide +kernel
theorem dX8_touch_65 : decode cX8_touch 65 = .ok (.iconst 4, 1) := by decide +kernel
theorem dX8_touch_66 : decode cX8_touch 66 = .ok (.dup2, 1) := by decide +kernel
theorem dX8_touch_67 : decode cX8_touch 67 = .ok (.iaload, 1) := by decide +kernel
theorem dX8_touch_68 : decode cX8_touch 68 = .ok (.iconst 1, 1) := by decide +kernel
theorem dX8_touch_69 : decode cX8_touch 69 = .ok (.iload_n 1, 1) := by decide +kernel
theorem dX8_touch_70 : decode cX8_touch 70 = .ok (.ishl, 1) := by decide +kernel
theorem dX8_touch_71 : decode cX8_touch 71 = .ok (.ixor, 1) := by decide +kernel
theorem dX8_touch_72 : decode cX8_touch 72 = .ok (.iastore, 1) := by decide +kernel
theorem dX8_touch_73 : decode cX8_touch 73 = .ok (.aload_n 0, 1) := by decide +kernel
theorem dX8_touch_74 : decode cX8_touch 74 = .ok (.getfield 19, 3) := by decide +kernel
theorem dX8_touch_77 : decode cX8_touch 77 = .ok (.iconst 4, 1) := by decide +kernel
theorem dX8_touch_78 : decode cX8_touch 78 = .ok (.iaload, 1) := by decide +kernel
theorem dX8_touch_79 : decode cX8_touch 79 = .ok (.ireturn, 1) := by decide +kernel
theorem dX8_putUp_0 : decode cX8_putUp 0 = .ok (.aload_n 0, 1) := by decide +kernel
theorem dX8_putUp_1 : decode cX8_putUp 1 = .ok (.iload_n 1, 1) := by decide +kernel
theorem dX8_putUp_2 : decode cX8_putUp 2 = .ok (.invokevirtual 175, 3) := by decide +kernel
theorem dX8_putUp_5 : decode cX8_putUp 5 = .ok (.ifCond .ne 6, 3) := by decide +kernel
theorem dX8_putUp_8 : decode cX8_putUp 8 = .ok (.ldc 67, 2) := by decide +kernel
theorem dX8_putUp_10 : decode cX8_putUp 10 = .ok (.ireturn, 1) := by decide +kernel
theorem dX8_putUp_11 : decode cX8_putUp 11 = .ok (.aload_n 0, 1) := by decide +kernel
theorem dX8_putUp_12 : decode cX8_putUp 12 = .ok (.iload_n 1, 1) := by decide +kernel
theorem dX8_putUp_13 : decode cX8_putUp 13 = .ok (.invokevirtual 142, 3) := by decide +kernel
theorem dX8_putUp_16 : decode cX8_putUp 16 = .ok (.ifCond .eq 6, 3) := by decide +kernel
theorem dX8_putUp_19 : decode cX8_putUp 19 = .ok (.ldc 166, 2) := by decide +kernel
theorem dX8_putUp_21 : decode cX8_putUp 21 = .ok (.ireturn, 1) := by decide +kernel
theorem dX8_putUp_22 : decode cX8_putUp 22 = .ok (.aload_n 0, 1) := by decide +kernel
theorem dX8_putUp_23 : decode cX8_putUp 23 = .ok (.invokevirtual 169, 3) := by decide +kernel
theorem dX8_putUp_26 : decode cX8_putUp 26 = .ok (.aload_n 0, 1) := by decide +kernel
theorem dX8_putUp_27 : decode cX8_putUp 27 = .ok (.getfield 19, 3) := by decide +kernel
theorem dX8_putUp_30 : decode cX8_putUp 30 = .ok (.bipush 21, 2) := by decide +kernel
theorem dX8_putUp_32 : decode cX8_putUp 32 = .ok (.iload_n 1, 1) := by decide +kernel
theorem dX8_putUp_33 : decode cX8_putUp 33 = .ok (.iadd, 1) := by decide +kernel
theorem dX8_putUp_34 : decode cX8_putUp 34 = .ok (.bipush 50, 2) := by decide +kernel
theorem dX8_putUp_36 : decode cX8_putUp 36 = .ok (.iastore, 1) := by decide +kernel
theorem dX8_putUp_37 : decode cX8_putUp 37 = .ok (.aload_n 0, 1) := by decide +kernel
theorem dX8_putUp_38 : decode cX8_putUp 38 = .ok (.invokevirtual 155, 3) := by decide +kernel
theorem dX8_putUp_41 : decode cX8_putUp 41 = .ok (.ireturn, 1) := by decide +kernel
theorem dX8_house_0 : decode cX8_house 0 = .ok (.aload_n 0, 1) := by decide +kernel
theorem dX8_house_1 : decode cX8_house 1 = .ok (.iload_n 1, 1) := by decide +kernel
theorem dX8_house_2 : decode cX8_house 2 = .ok (.invokevirtual 175, 3) := by decide +kernel
theorem dX8_house_5 : decode cX8_house 5 = .ok (.ifCond .ne 6, 3) := by decide +kernel
theorem dX8_house_8 : decode cX8_house 8 = .ok (.ldc 67, 2) := by decide +kernel
theorem dX8_house_10 : decode cX8_house 10 = .ok (.ireturn, 1) := by decide +kernel
theorem dX8_house_11 : decode cX8_house 11 = .ok (.iload_n 2, 1) := by decide +kernel
theorem dX8_house_12 : decode cX8_house 12 = .ok (.tableswitch 100 0 5 #[40, 50, 60, 74, 88, 94], 40) := by decide +kernel
theorem dX8_house_52 : decode cX8_house 52 = .ok (.aload_n 0, 1) := by decide +kernel
theorem dX8_house_53 : decode cX8_house 53 = .ok (.getfield 19, 3) := by decide +kernel
theorem dX8_house_56 : decode cX8_house 56 = .ok (.bipush 21, 2) := by decide +kernel
theorem dX8_house_58 : decode cX8_house 58 = .ok (.iload_n 1, 1) := by decide +kernel
theorem dX8_house_59 : decode cX8_house 59 = .ok (.iadd, 1) := by decide +kernel
theorem dX8_house_60 : decode cX8_house 60 = .ok (.iaload, 1) := by decide +kernel
theorem dX8_house_61 : decode cX8_house 61 = .ok (.ireturn, 1) := by decide +kernel
theorem dX8_house_62 : decode cX8_house 62 = .ok (.aload_n 0, 1) := by decide +kernel
theorem dX8_house_63 : decode cX8_house 63 = .ok (.getfield 19, 3) := by decide +kernel
theorem dX8_house_66 : decode cX8_house 66 = .ok (.bipush 13, 2) := by decide +kernel
theorem dX8_house_68 : decode cX8_house 68 = .ok (.iload_n 1, 1) := by decide +kernel
theorem dX8_house_69 : decode cX8_house 69 = .ok (.iadd, 1) := by decide +kernel
theorem dX8_house_70 : decode cX8_house 70 = .ok (.iaload, 1) := by decide +kernel
theorem dX8_house_71 : decode cX8_house 71 = .ok (.ireturn, 1) := by decide +kernel
theorem dX8_house_72 : decode cX8_house 72 = .ok (.aload_n 0, 1) := by decide +kernel
theorem dX8_house_73 : decode cX8_house 73 = .ok (.iload_n 1, 1) := by decide +kernel
theorem dX8_house_74 : decode cX8_house 74 = .ok (.invokevirtual 142, 3) := by decide +kernel
theorem dX8_house_77 : decode cX8_house 77 = .ok (.ifCond .eq 7, 3) := by decide +kernel
theorem dX8_house_80 : decode cX8_house 80 = .ok (.iconst 0, 1) := by decide +kernel
theorem dX8_house_81 : decode cX8_house 81 = .ok (.goto 4, 3) := by decide +kernel
theorem dX8_house_84 : decode cX8_house 84 = .ok (.iconst 1, 1) := by decide +kernel
theorem dX8_house_85 : decode cX8_house 85 = .ok (.ireturn, 1) := by decide +kernel
theorem dX8_house_86 : decode cX8_house 86 = .ok (.aload_n 0, 1) := by decide +kernel
theorem dX8_house_87 : decode cX8_house 87 = .ok (.iload_n 1, 1) := by decide +kernel
theorem dX8_house_88 : decode cX8_house 88 = .ok (.invokevirtual 149, 3) := by decide +kernel
theorem dX8_house_91 : decode cX8_house 91 = .ok (.ifCond .eq 7, 3) := by decide +kernel
theorem dX8_house_94 : decode cX8_house 94 = .ok (.iconst 1, 1) := by decide +kernel
theorem dX8_house_95 : decode cX8_house 95 = .ok (.goto 4, 3) := by decide +kernel
theorem dX8_house_98 : decode cX8_house 98 = .ok (.iconst 0, 1) := by decide +kernel
theorem dX8_house_99 : decode cX8_house 99 = .ok (.ireturn, 1) := by decide +kernel
theorem dX8_house_100 : decode cX8_house 100 = .ok (.aload_n 0, 1) := by decide +kernel
theorem dX8_house_101 : decode cX8_house 101 = .ok (.iload_n 1, 1) := by decide +kernel
theorem dX8_house_102 : decode cX8_house 102 = .ok (.invokevirtual 159, 3) := by decide +kernel
theorem dX8_house_105 : decode cX8_house 105 = .ok (.ireturn, 1) := by decide +kernel
theorem dX8_house_106 : decode cX8_house 106 = .ok (.aload_n 0, 1) := by decide +kernel
theorem dX8_house_107 : decode cX8_house 107 = .ok (.iload_n 1, 1) := by decide +kernel
theorem dX8_house_108 : decode cX8_house 108 = .ok (.invokevirtual 152, 3) := by decide +kernel
theorem dX8_house_111 : decode cX8_house 111 = .ok (.ireturn, 1) := by decide +kernel
theorem dX8_house_112 : decode cX8_house 112 = .ok (.ldc 67, 2) := by decide +kernel
theorem dX8_house_114 : decode cX8_house 114 = .ok (.ireturn, 1) := by decide +kernel
theorem dX8_leaning_0 : decode cX8_leaning 0 = .ok (.iconst 0, 1) := by decide +kernel
theorem dX8_leaning_1 : decode cX8_leaning 1 = .ok (.istore_n 1, 1) := by decide +kernel
theorem dX8_leaning_2 : decode cX8_leaning 2 = .ok (.iconst 0, 1) := by decide +kernel
theorem dX8_leaning_3 : decode cX8_leaning 3 = .ok (.istore_n 2, 1) := by decide +kernel
theorem dX8_leaning_4 : decode cX8_leaning 4 = .ok (.iload_n 2, 1) := by decide +kernel
theorem dX8_leaning_5 : decode cX8_leaning 5 = .ok (.aload_n 0, 1) := by decide +kernel
theorem dX8_leaning_6 : decode cX8_leaning 6 = .ok (.getfield 19, 3) := by decide +kernel
theorem dX8_leaning_9 : decode cX8_leaning 9 = .ok (.iconst 0, 1) := by decide +kernel
theorem dX8_leaning_10 : decode cX8_leaning 10 = .ok (.iaload, 1) := by decide +kernel
theorem dX8_leaning_11 : decode cX8_leaning 11 = .ok (.if_icmp .ge 27, 3) := by decide +kernel
theorem dX8_leaning_14 : decode cX8_leaning 14 = .ok (.iload_n 1, 1) := by decide +kernel
theorem dX8_leaning_15 : decode cX8_leaning 15 = .ok (.aload_n 0, 1) := by decide +kernel
theorem dX8_leaning_16 : decode cX8_leaning 16 = .ok (.iload_n 2, 1) := by decide +kernel
theorem dX8_leaning_17 : decode cX8_leaning 17 = .ok (.invokevirtual 149, 3) := by decide +kernel
theorem dX8_leaning_20 : decode cX8_leaning 20 = .ok (.ifCond .eq 9, 3) := by decide +kernel
theorem dX8_leaning_23 : decode cX8_leaning 23 = .ok (.iconst 1, 1) := by decide +kernel
theorem dX8_leaning_24 : decode cX8_leaning 24 = .ok (.iload_n 2, 1) := by decide +kernel
theorem dX8_leaning_25 : decode cX8_leaning 25 = .ok (.ishl, 1) := by decide +kernel
theorem dX8_leaning_26 : decode cX8_leaning 26 = .ok (.goto 4, 3) := by decide +kernel
theorem dX8_leaning_29 : decode cX8_leaning 29 = .ok (.iconst 0, 1) := by decide +kernel
theorem dX8_leaning_30 : decode cX8_leaning 30 = .ok (.ior, 1) := by decide +kernel
theorem dX8_leaning_31 : decode cX8_leaning 31 = .ok (.istore_n 1, 1) := by decide +kernel
theorem dX8_leaning_32 : decode cX8_leaning 32 = .ok (.iinc 2 1, 3) := by decide +kernel
theorem dX8_leaning_35 : decode cX8_leaning 35 = .ok (.goto (-31), 3) := by decide +kernel
theorem dX8_leaning_38 : decode cX8_leaning 38 = .ok (.iload_n 1, 1) := by decide +kernel
theorem dX8_leaning_39 : decode cX8_leaning 39 = .ok (.ireturn, 1) := by decide +kernel
theorem dX8_stand_0 : decode cX8_stand 0 = .ok (.aload_n 0, 1) := by decide +kernel
theorem dX8_stand_1 : decode cX8_stand 1 = .ok (.getfield 135, 3) := by decide +kernel
theorem dX8_stand_4 : decode cX8_stand 4 = .ok (.ifCond .ne 6, 3) := by decide +kernel
theorem dX8_stand_7 : decode cX8_stand 7 = .ok (.ldc 166, 2) := by decide +kernel
theorem dX8_stand_9 : decode cX8_stand 9 = .ok (.ireturn, 1) := by decide +kernel
theorem dX8_stand_10 : decode cX8_stand 10 = .ok (.iload_n 1, 1) := by decide +kernel
theorem dX8_stand_11 : decode cX8_stand 11 = .ok (.tableswitch 75 0 5 #[37, 42, 47, 54, 61, 68], 37) := by decide +kernel
theorem dX8_stand_48 : decode cX8_stand 48 = .ok (.aload_n 0, 1) := by decide +kernel
theorem dX8_stand_49 : decode cX8_stand 49 = .ok (.invokevirtual 155, 3) := by decide +kernel
theorem dX8_stand_52 : decode cX8_stand 52 = .ok (.ireturn, 1) := by decide +kernel
theorem dX8_stand_53 : decode cX8_stand 53 = .ok (.aload_n 0, 1) := by decide +kernel
theorem dX8_stand_54 : decode cX8_stand 54 = .ok (.invokevirtual 181, 3) := by decide +kernel
theorem dX8_stand_57 : decode cX8_stand 57 = .ok (.ireturn, 1) := by decide +kernel
theorem dX8_stand_58 : decode cX8_stand 58 = .ok (.aload_n 0, 1) := by decide +kernel
theorem dX8_stand_59 : decode cX8_stand 59 = .ok (.getfield 19, 3) := by decide +kernel
theorem dX8_stand_62 : decode cX8_stand 62 = .ok (.iconst 4, 1) := by decide +kernel
theorem dX8_stand_63 : decode cX8_stand 63 = .ok (.iaload, 1) := by decide +kernel
theorem dX8_stand_64 : decode cX8_stand 64 = .ok (.ireturn, 1) := by decide +kernel
theorem dX8_stand_65 : decode cX8_stand 65 = .ok (.aload_n 0, 1) := by decide +kernel
theorem dX8_stand_66 : decode cX8_stand 66 = .ok (.iconst 0, 1) := by decide +kernel
theorem dX8_stand_67 : decode cX8_stand 67 = .ok (.iconst 1, 1) := by decide +kernel
theorem dX8_stand_68 : decode cX8_stand 68 = .ok (.invokevirtual 184, 3) := by decide +kernel
theorem dX8_stand_71 : decode cX8_stand 71 = .ok (.ireturn, 1) := by decide +kernel
theorem dX8_stand_72 : decode cX8_stand 72 = .ok (.aload_n 0, 1) := by decide +kernel
theorem dX8_stand_73 : decode cX8_stand 73 = .ok (.getfield 19, 3) := by decide +kernel
theorem dX8_stand_76 : decode cX8_stand 76 = .ok (.iconst 1, 1) := by decide +kernel
theorem dX8_stand_77 : decode cX8_stand 77 = .ok (.iaload, 1) := by decide +kernel
theorem dX8_stand_78 : decode cX8_stand 78 = .ok (.ireturn, 1) := by decide +kernel
theorem dX8_stand_79 : decode cX8_stand 79 = .ok (.aload_n 0, 1) := by decide +kernel
theorem dX8_stand_80 : decode cX8_stand 80 = .ok (.getfield 19, 3) := by decide +kernel
theorem dX8_stand_83 : decode cX8_stand 83 = .ok (.iconst 2, 1) := by decide +kernel
theorem dX8_stand_84 : decode cX8_stand 84 = .ok (.iaload, 1) := by decide +kernel
theorem dX8_stand_85 : decode cX8_stand 85 = .ok (.ireturn, 1) := by decide +kernel
theorem dX8_stand_86 : decode cX8_stand 86 = .ok (.ldc 67, 2) := by decide +kernel
theorem dX8_stand_88 : decode cX8_stand 88 = .ok (.ireturn, 1) := by decide +kernel
theorem dX8_putAside_0 : decode cX8_putAside 0 = .ok (.iconst 0, 1) := by decide +kernel
theorem dX8_putAside_1 : decode cX8_putAside 1 = .ok (.istore_n 1, 1) := by decide +kernel
theorem dX8_putAside_2 : decode cX8_putAside 2 = .ok (.iload_n 1, 1) := by decide +kernel
theorem dX8_putAside_3 : decode cX8_putAside 3 = .ok (.bipush 29, 2) := by decide +kernel
theorem dX8_putAside_5 : decode cX8_putAside 5 = .ok (.if_icmp .ge 21, 3) := by decide +kernel
theorem dX8_putAside_8 : decode cX8_putAside 8 = .ok (.aload_n 0, 1) := by decide +kernel
theorem dX8_putAside_9 : decode cX8_putAside 9 = .ok (.getfield 34, 3) := by decide +kernel
theorem dX8_putAside_12 : decode cX8_putAside 12 = .ok (.iload_n 1, 1) := by decide +kernel
theorem dX8_putAside_13 : decode cX8_putAside 13 = .ok (.aload_n 0, 1) := by decide +kernel
theorem dX8_putAside_14 : decode cX8_putAside 14 = .ok (.getfield 19, 3) := by decide +kernel
theorem dX8_putAside_17 : decode cX8_putAside 17 = .ok (.iload_n 1, 1) := by decide +kernel
theorem dX8_putAside_18 : decode cX8_putAside 18 = .ok (.iaload, 1) := by decide +kernel
theorem dX8_putAside_19 : decode cX8_putAside 19 = .ok (.iastore, 1) := by decide +kernel
theorem dX8_putAside_20 : decode cX8_putAside 20 = .ok (.iinc 1 1, 3) := by decide +kernel
theorem dX8_putAside_23 : decode cX8_putAside 23 = .ok (.goto (-21), 3) := by decide +kernel
theorem dX8_putAside_26 : decode cX8_putAside 26 = .ok (.return_, 1) := by decide +kernel
theorem dX8_takeBack_0 : decode cX8_takeBack 0 = .ok (.iconst 0, 1) := by decide +kernel
theorem dX8_takeBack_1 : decode cX8_takeBack 1 = .ok (.istore_n 1, 1) := by decide +kernel
theorem dX8_takeBack_2 : decode cX8_takeBack 2 = .ok (.iload_n 1, 1) := by decide +kernel
theorem dX8_takeBack_3 : decode cX8_takeBack 3 = .ok (.bipush 29, 2) := by decide +kernel
theorem dX8_takeBack_5 : decode cX8_takeBack 5 = .ok (.if_icmp .ge 21, 3) := by decide +kernel
theorem dX8_takeBack_8 : decode cX8_takeBack 8 = .ok (.aload_n 0, 1) := by decide +kernel
theorem dX8_takeBack_9 : decode cX8_takeBack 9 = .ok (.getfield 19, 3) := by decide +kernel
theorem dX8_takeBack_12 : decode cX8_takeBack 12 = .ok (.iload_n 1, 1) := by decide +kernel
theorem dX8_takeBack_13 : decode cX8_takeBack 13 = .ok (.aload_n 0, 1) := by decide +kernel
theorem dX8_takeBack_14 : decode cX8_takeBack 14 = .ok (.getfield 34, 3) := by decide +kernel
theorem dX8_takeBack_17 : decode cX8_takeBack 17 = .ok (.iload_n 1, 1) := by decide +kernel
theorem dX8_takeBack_18 : decode cX8_takeBack 18 = .ok (.iaload, 1) := by decide +kernel
theorem dX8_takeBack_19 : decode cX8_takeBack 19 = .ok (.iastore, 1) := by decide +kernel
theorem dX8_takeBack_20 : decode cX8_takeBack 20 = .ok (.iinc 1 1, 3) := by decide +kernel
theorem dX8_takeBack_23 : decode cX8_takeBack 23 = .ok (.goto (-21), 3) := by decide +kernel
theorem dX8_takeBack_26 : decode cX8_takeBack 26 = .ok (.return_, 1) := by decide +kernel
theorem dX8_goOn_0 : decode cX8_goOn 0 = .ok (.iconst 0, 1) := by decide +kernel
theorem dX8_goOn_1 : decode cX8_goOn 1 = .ok (.istore_n 2, 1) := by decide +kernel
theorem dX8_goOn_2 : decode cX8_goOn 2 = .ok (.iload_n 2, 1) := by decide +kernel
theorem dX8_goOn_3 : decode cX8_goOn 3 = .ok (.iload_n 1, 1) := by decide +kernel
theorem dX8_goOn_4 : decode cX8_goOn 4 = .ok (.if_icmp .ge 13, 3) := by decide +kernel
theorem dX8_goOn_7 : decode cX8_goOn 7 = .ok (.aload_n 0, 1) := by decide +kernel
theorem dX8_goOn_8 : decode cX8_goOn 8 = .ok (.invokevirtual 172, 3) := by decide +kernel
theorem dX8_goOn_11 : decode cX8_goOn 11 = .ok (.iinc 2 1, 3) := by decide +kernel
theorem dX8_goOn_14 : decode cX8_goOn 14 = .ok (.goto (-12), 3) := by decide +kernel
theorem dX8_goOn_17 : decode cX8_goOn 17 = .ok (.return_, 1) := by decide +kernel
theorem dX8_leftBehind_0 : decode cX8_leftBehind 0 = .ok (.aload_n 0, 1) := by decide +kernel
theorem dX8_leftBehind_1 : decode cX8_leftBehind 1 = .ok (.iload_n 1, 1) := by decide +kernel
theorem dX8_leftBehind_2 : decode cX8_leftBehind 2 = .ok (.invokevirtual 187, 3) := by decide +kernel
theorem dX8_leftBehind_5 : decode cX8_leftBehind 5 = .ok (.aload_n 0, 1) := by decide +kernel
theorem dX8_leftBehind_6 : decode cX8_leftBehind 6 = .ok (.invokevirtual 155, 3) := by decide +kernel
theorem dX8_leftBehind_9 : decode cX8_leftBehind 9 = .ok (.istore_n 2, 1) := by decide +kernel
theorem dX8_leftBehind_10 : decode cX8_leftBehind 10 = .ok (.aload_n 0, 1) := by decide +kernel
theorem dX8_leftBehind_11 : decode cX8_leftBehind 11 = .ok (.invokevirtual 191, 3) := by decide +kernel
theorem dX8_leftBehind_14 : decode cX8_leftBehind 14 = .ok (.iload_n 2, 1) := by decide +kernel
theorem dX8_leftBehind_15 : decode cX8_leftBehind 15 = .ok (.ireturn, 1) := by decide +kernel
theorem dX8_isWhat_0 : decode cX8_isWhat 0 = .ok (.iload_n 0, 1) := by decide +kernel
theorem dX8_isWhat_1 : decode cX8_isWhat 1 = .ok (.i2l, 1) := by decide +kernel
theorem dX8_isWhat_2 : decode cX8_isWhat 2 = .ok (.lconst 0, 1) := by decide +kernel
theorem dX8_isWhat_3 : decode cX8_isWhat 3 = .ok (.lconst 1, 1) := by decide +kernel
theorem dX8_isWhat_4 : decode cX8_isWhat 4 = .ok (.invokestatic 57, 3) := by decide +kernel
theorem dX8_isWhat_7 : decode cX8_isWhat 7 = .ok (.ireturn, 1) := by decide +kernel
theorem dX8_ahead_0 : decode cX8_ahead 0 = .ok (.aload_n 0, 1) := by decide +kernel
theorem dX8_ahead_1 : decode cX8_ahead 1 = .ok (.iload_n 1, 1) := by decide +kernel
theorem dX8_ahead_2 : decode cX8_ahead 2 = .ok (.invokevirtual 175, 3) := by decide +kernel
theorem dX8_ahead_5 : decode cX8_ahead 5 = .ok (.ifCond .eq 15, 3) := by decide +kernel
theorem dX8_ahead_8 : decode cX8_ahead 8 = .ok (.iload_n 2, 1) := by decide +kernel
theorem dX8_ahead_9 : decode cX8_ahead 9 = .ok (.i2l, 1) := by decide +kernel
theorem dX8_ahead_10 : decode cX8_ahead 10 = .ok (.lconst 0, 1) := by decide +kernel
theorem dX8_ahead_11 : decode cX8_ahead 11 = .ok (.ldc2_w 194, 3) := by decide +kernel
theorem dX8_ahead_14 : decode cX8_ahead 14 = .ok (.invokestatic 57, 3) := by decide +kernel
theorem dX8_ahead_17 : decode cX8_ahead 17 = .ok (.ifCond .ne 6, 3) := by decide +kernel
theorem dX8_ahead_20 : decode cX8_ahead 20 = .ok (.ldc 67, 2) := by decide +kernel
theorem dX8_ahead_22 : decode cX8_ahead 22 = .ok (.ireturn, 1) := by decide +kernel
theorem dX8_ahead_23 : decode cX8_ahead 23 = .ok (.aload_n 0, 1) := by decide +kernel
theorem dX8_ahead_24 : decode cX8_ahead 24 = .ok (.invokevirtual 196, 3) := by decide +kernel
theorem dX8_ahead_27 : decode cX8_ahead 27 = .ok (.aload_n 0, 1) := by decide +kernel
theorem dX8_ahead_28 : decode cX8_ahead 28 = .ok (.iload_n 2, 1) := by decide +kernel
theorem dX8_ahead_29 : decode cX8_ahead 29 = .ok (.invokevirtual 187, 3) := by decide +kernel
theorem dX8_ahead_32 : decode cX8_ahead 32 = .ok (.aload_n 0, 1) := by decide +kernel
theorem dX8_ahead_33 : decode cX8_ahead 33 = .ok (.getfield 19, 3) := by decide +kernel
theorem dX8_ahead_36 : decode cX8_ahead 36 = .ok (.bipush 21, 2) := by decide +kernel
theorem dX8_ahead_38 : decode cX8_ahead 38 = .ok (.iload_n 1, 1) := by decide +kernel
theorem dX8_ahead_39 : decode cX8_ahead 39 = .ok (.iadd, 1) := by decide +kernel
theorem dX8_ahead_40 : decode cX8_ahead 40 = .ok (.iaload, 1) := by decide +kernel
theorem dX8_ahead_41 : decode cX8_ahead 41 = .ok (.istore_n 3, 1) := by decide +kernel
theorem dX8_ahead_42 : decode cX8_ahead 42 = .ok (.aload_n 0, 1) := by decide +kernel
theorem dX8_ahead_43 : decode cX8_ahead 43 = .ok (.invokevirtual 191, 3) := by decide +kernel
theorem dX8_ahead_46 : decode cX8_ahead 46 = .ok (.iload_n 3, 1) := by decide +kernel
theorem dX8_ahead_47 : decode cX8_ahead 47 = .ok (.ireturn, 1) := by decide +kernel
theorem dX8_isHow_0 : decode cX8_isHow 0 = .ok (.iload_n 2, 1) := by decide +kernel
theorem dX8_isHow_1 : decode cX8_isHow 1 = .ok (.ifCond .ne 19, 3) := by decide +kernel
theorem dX8_isHow_4 : decode cX8_isHow 4 = .ok (.aload_n 0, 1) := by decide +kernel
theorem dX8_isHow_5 : decode cX8_isHow 5 = .ok (.iload_n 1, 1) := by decide +kernel
theorem dX8_isHow_6 : decode cX8_isHow 6 = .ok (.invokevirtual 142, 3) := by decide +kernel
theorem dX8_isHow_9 : decode cX8_isHow 9 = .ok (.ifCond .ne 7, 3) := by decide +kernel
theorem dX8_isHow_12 : decode cX8_isHow 12 = .ok (.iconst 1, 1) := by decide +kernel
theorem dX8_isHow_13 : decode cX8_isHow 13 = .ok (.goto 12, 3) := by decide +kernel
theorem dX8_isHow_16 : decode cX8_isHow 16 = .ok (.iconst 0, 1) := by decide +kernel
theorem dX8_isHow_17 : decode cX8_isHow 17 = .ok (.goto 8, 3) := by decide +kernel
theorem dX8_isHow_20 : decode cX8_isHow 20 = .ok (.aload_n 0, 1) := by decide +kernel
theorem dX8_isHow_21 : decode cX8_isHow 21 = .ok (.iload_n 1, 1) := by decide +kernel
theorem dX8_isHow_22 : decode cX8_isHow 22 = .ok (.invokevirtual 149, 3) := by decide +kernel
theorem dX8_isHow_25 : decode cX8_isHow 25 = .ok (.ireturn, 1) := by decide +kernel
theorem dX8_when_0 : decode cX8_when 0 = .ok (.aload_n 0, 1) := by decide +kernel
theorem dX8_when_1 : decode cX8_when 1 = .ok (.iload_n 1, 1) := by decide +kernel
theorem dX8_when_2 : decode cX8_when 2 = .ok (.invokevirtual 175, 3) := by decide +kernel
theorem dX8_when_5 : decode cX8_when 5 = .ok (.ifCond .eq 13, 3) := by decide +kernel
theorem dX8_when_8 : decode cX8_when 8 = .ok (.iload_n 2, 1) := by decide +kernel
theorem dX8_when_9 : decode cX8_when 9 = .ok (.i2l, 1) := by decide +kernel
theorem dX8_when_10 : decode cX8_when 10 = .ok (.lconst 0, 1) := by decide +kernel
theorem dX8_when_11 : decode cX8_when 11 = .ok (.lconst 1, 1) := by decide +kernel
theorem dX8_when_12 : decode cX8_when 12 = .ok (.invokestatic 57, 3) := by decide +kernel
theorem dX8_when_15 : decode cX8_when 15 = .ok (.ifCond .ne 6, 3) := by decide +kernel
theorem dX8_when_18 : decode cX8_when 18 = .ok (.ldc 67, 2) := by decide +kernel
theorem dX8_when_20 : decode cX8_when 20 = .ok (.ireturn, 1) := by decide +kernel
theorem dX8_when_21 : decode cX8_when 21 = .ok (.aload_n 0, 1) := by decide +kernel
theorem dX8_when_22 : decode cX8_when 22 = .ok (.invokevirtual 196, 3) := by decide +kernel
theorem dX8_when_25 : decode cX8_when 25 = .ok (.iconst 0, 1) := by decide +kernel
theorem dX8_when_26 : decode cX8_when 26 = .ok (.istore_n 3, 1) := by decide +kernel
theorem dX8_when_27 : decode cX8_when 27 = .ok (.aload_n 0, 1) := by decide +kernel
theorem dX8_when_28 : decode cX8_when 28 = .ok (.iload_n 1, 1) := by decide +kernel
theorem dX8_when_29 : decode cX8_when 29 = .ok (.iload_n 2, 1) := by decide +kernel
theorem dX8_when_30 : decode cX8_when 30 = .ok (.invokevirtual 199, 3) := by decide +kernel
theorem dX8_when_33 : decode cX8_when 33 = .ok (.ifCond .ne 19, 3) := by decide +kernel
theorem dX8_when_36 : decode cX8_when 36 = .ok (.iload_n 3, 1) := by decide +kernel
theorem dX8_when_37 : decode cX8_when 37 = .ok (.bipush 60, 2) := by decide +kernel
theorem dX8_when_39 : decode cX8_when 39 = .ok (.if_icmp .ge 13, 3) := by decide +kernel
theorem dX8_when_42 : decode cX8_when 42 = .ok (.aload_n 0, 1) := by decide +kernel
theorem dX8_when_43 : decode cX8_when 43 = .ok (.invokevirtual 172, 3) := by decide +kernel
theorem dX8_when_46 : decode cX8_when 46 = .ok (.iinc 3 1, 3) := by decide +kernel
theorem dX8_when_49 : decode cX8_when 49 = .ok (.goto (-22), 3) := by decide +kernel
theorem dX8_when_52 : decode cX8_when 52 = .ok (.aload_n 0, 1) := by decide +kernel
theorem dX8_when_53 : decode cX8_when 53 = .ok (.iload_n 1, 1) := by decide +kernel
theorem dX8_when_54 : decode cX8_when 54 = .ok (.iload_n 2, 1) := by decide +kernel
theorem dX8_when_55 : decode cX8_when 55 = .ok (.invokevirtual 199, 3) := by decide +kernel
theorem dX8_when_58 : decode cX8_when 58 = .ok (.istore 4, 2) := by decide +kernel
theorem dX8_when_60 : decode cX8_when 60 = .ok (.aload_n 0, 1) := by decide +kernel
theorem dX8_when_61 : decode cX8_when 61 = .ok (.invokevirtual 191, 3) := by decide +kernel
theorem dX8_when_64 : decode cX8_when 64 = .ok (.iload 4, 2) := by decide +kernel
theorem dX8_when_66 : decode cX8_when 66 = .ok (.ifCond .eq 7, 3) := by decide +kernel
theorem dX8_when_69 : decode cX8_when 69 = .ok (.iload_n 3, 1) := by decide +kernel
theorem dX8_when_70 : decode cX8_when 70 = .ok (.goto 5, 3) := by decide +kernel
theorem dX8_when_73 : decode cX8_when 73 = .ok (.ldc 202, 2) := by decide +kernel
theorem dX8_when_75 : decode cX8_when 75 = .ok (.ireturn, 1) := by decide +kernel
theorem dX8_least_0 : decode cX8_least 0 = .ok (.iconst 0, 1) := by decide +kernel
theorem dX8_least_1 : decode cX8_least 1 = .ok (.istore_n 1, 1) := by decide +kernel
theorem dX8_least_2 : decode cX8_least 2 = .ok (.iload_n 0, 1) := by decide +kernel
theorem dX8_least_3 : decode cX8_least 3 = .ok (.iload_n 1, 1) := by decide +kernel
theorem dX8_least_4 : decode cX8_least 4 = .ok (.invokestatic 145, 3) := by decide +kernel
theorem dX8_least_7 : decode cX8_least 7 = .ok (.ifCond .ne 9, 3) := by decide +kernel
theorem dX8_least_10 : decode cX8_least 10 = .ok (.iinc 1 1, 3) := by decide +kernel
theorem dX8_least_13 : decode cX8_least 13 = .ok (.goto (-11), 3) := by decide +kernel
theorem dX8_least_16 : decode cX8_least 16 = .ok (.iload_n 1, 1) := by decide +kernel
theorem dX8_least_17 : decode cX8_least 17 = .ok (.ireturn, 1) := by decide +kernel
theorem dX8_first_0 : decode cX8_first 0 = .ok (.aload_n 0, 1) := by decide +kernel
theorem dX8_first_1 : decode cX8_first 1 = .ok (.getfield 135, 3) := by decide +kernel
theorem dX8_first_4 : decode cX8_first 4 = .ok (.ifCond .ne 6, 3) := by decide +kernel
theorem dX8_first_7 : decode cX8_first 7 = .ok (.ldc 166, 2) := by decide +kernel
theorem dX8_first_9 : decode cX8_first 9 = .ok (.ireturn, 1) := by decide +kernel
theorem dX8_first_10 : decode cX8_first 10 = .ok (.iload_n 1, 1) := by decide +kernel
theorem dX8_first_11 : decode cX8_first 11 = .ok (.invokestatic 203, 3) := by decide +kernel
theorem dX8_first_14 : decode cX8_first 14 = .ok (.ifCond .ne 6, 3) := by decide +kernel
theorem dX8_first_17 : decode cX8_first 17 = .ok (.ldc 67, 2) := by decide +kernel
theorem dX8_first_19 : decode cX8_first 19 = .ok (.ireturn, 1) := by decide +kernel
theorem dX8_first_20 : decode cX8_first 20 = .ok (.aload_n 0, 1) := by decide +kernel
theorem dX8_first_21 : decode cX8_first 21 = .ok (.invokevirtual 196, 3) := by decide +kernel
theorem dX8_first_24 : decode cX8_first 24 = .ok (.aload_n 0, 1) := by decide +kernel
theorem dX8_first_25 : decode cX8_first 25 = .ok (.invokevirtual 155, 3) := by decide +kernel
theorem dX8_first_28 : decode cX8_first 28 = .ok (.istore_n 2, 1) := by decide +kernel
theorem dX8_first_29 : decode cX8_first 29 = .ok (.iconst 0, 1) := by decide +kernel
theorem dX8_first_30 : decode cX8_first 30 = .ok (.istore_n 3, 1) := by decide +kernel
theorem dX8_first_31 : decode cX8_first 31 = .ok (.aload_n 0, 1) := by decide +kernel
theorem dX8_first_32 : decode cX8_first 32 = .ok (.invokevirtual 155, 3) := by decide +kernel
theorem dX8_first_35 : decode cX8_first 35 = .ok (.iload_n 2, 1) := by decide +kernel
theorem dX8_first_36 : decode cX8_first 36 = .ok (.if_icmp .ne 19, 3) := by decide +kernel
theorem dX8_first_39 : decode cX8_first 39 = .ok (.iload_n 3, 1) := by decide +kernel
theorem dX8_first_40 : decode cX8_first 40 = .ok (.bipush 60, 2) := by decide +kernel
theorem dX8_first_42 : decode cX8_first 42 = .ok (.if_icmp .ge 13, 3) := by decide +kernel
theorem dX8_first_45 : decode cX8_first 45 = .ok (.aload_n 0, 1) := by decide +kernel
theorem dX8_first_46 : decode cX8_first 46 = .ok (.invokevirtual 172, 3) := by decide +kernel
theorem dX8_first_49 : decode cX8_first 49 = .ok (.iinc 3 1, 3) := by decide +kernel
theorem dX8_first_52 : decode cX8_first 52 = .ok (.goto (-21), 3) := by decide +kernel
theorem dX8_first_55 : decode cX8_first 55 = .ok (.iload_n 2, 1) := by decide +kernel
theorem dX8_first_56 : decode cX8_first 56 = .ok (.aload_n 0, 1) := by decide +kernel
theorem dX8_first_57 : decode cX8_first 57 = .ok (.invokevirtual 155, 3) := by decide +kernel
theorem dX8_first_60 : decode cX8_first 60 = .ok (.iconst (-1), 1) := by decide +kernel
theorem dX8_first_61 : decode cX8_first 61 = .ok (.ixor, 1) := by decide +kernel
theorem dX8_first_62 : decode cX8_first 62 = .ok (.iand, 1) := by decide +kernel
theorem dX8_first_63 : decode cX8_first 63 = .ok (.istore 4, 2) := by decide +kernel
theorem dX8_first_65 : decode cX8_first 65 = .ok (.aload_n 0, 1) := by decide +kernel
theorem dX8_first_66 : decode cX8_first 66 = .ok (.invokevirtual 191, 3) := by decide +kernel
theorem dX8_first_69 : decode cX8_first 69 = .ok (.iload 4, 2) := by decide +kernel
theorem dX8_first_71 : decode cX8_first 71 = .ok (.ifCond .ne 8, 3) := by decide +kernel
theorem dX8_first_74 : decode cX8_first 74 = .ok (.ldc 202, 2) := by decide +kernel
theorem dX8_first_76 : decode cX8_first 76 = .ok (.goto 16, 3) := by decide +kernel
theorem dX8_first_79 : decode cX8_first 79 = .ok (.iload_n 1, 1) := by decide +kernel
theorem dX8_first_80 : decode cX8_first 80 = .ok (.ifCond .ne 11, 3) := by decide +kernel
theorem dX8_first_83 : decode cX8_first 83 = .ok (.iload 4, 2) := by decide +kernel
theorem dX8_first_85 : decode cX8_first 85 = .ok (.invokestatic 206, 3) := by decide +kernel
theorem dX8_first_88 : decode cX8_first 88 = .ok (.goto 4, 3) := by decide +kernel
theorem dX8_first_91 : decode cX8_first 91 = .ok (.iload_n 3, 1) := by decide +kernel
theorem dX8_first_92 : decode cX8_first 92 = .ok (.ireturn, 1) := by decide +kernel
theorem dX8_left_0 : decode cX8_left 0 = .ok (.aload_n 0, 1) := by decide +kernel
theorem dX8_left_1 : decode cX8_left 1 = .ok (.getfield 135, 3) := by decide +kernel
theorem dX8_left_4 : decode cX8_left 4 = .ok (.ifCond .ne 6, 3) := by decide +kernel
theorem dX8_left_7 : decode cX8_left 7 = .ok (.ldc 166, 2) := by decide +kernel
theorem dX8_left_9 : decode cX8_left 9 = .ok (.ireturn, 1) := by decide +kernel
theorem dX8_left_10 : decode cX8_left 10 = .ok (.iload_n 1, 1) := by decide +kernel
theorem dX8_left_11 : decode cX8_left 11 = .ok (.i2l, 1) := by decide +kernel
theorem dX8_left_12 : decode cX8_left 12 = .ok (.lconst 0, 1) := by decide +kernel
theorem dX8_left_13 : decode cX8_left 13 = .ok (.ldc2_w 194, 3) := by decide +kernel
theorem dX8_left_16 : decode cX8_left 16 = .ok (.invokestatic 57, 3) := by decide +kernel
theorem dX8_left_19 : decode cX8_left 19 = .ok (.ifCond .ne 6, 3) := by decide +kernel
theorem dX8_left_22 : decode cX8_left 22 = .ok (.ldc 67, 2) := by decide +kernel
theorem dX8_left_24 : decode cX8_left 24 = .ok (.ireturn, 1) := by decide +kernel
theorem dX8_left_25 : decode cX8_left 25 = .ok (.aload_n 0, 1) := by decide +kernel
theorem dX8_left_26 : decode cX8_left 26 = .ok (.invokevirtual 196, 3) := by decide +kernel
theorem dX8_left_29 : decode cX8_left 29 = .ok (.aload_n 0, 1) := by decide +kernel
theorem dX8_left_30 : decode cX8_left 30 = .ok (.iload_n 1, 1) := by decide +kernel
theorem dX8_left_31 : decode cX8_left 31 = .ok (.invokevirtual 209, 3) := by decide +kernel
theorem dX8_left_34 : decode cX8_left 34 = .ok (.ireturn, 1) := by decide +kernel
theorem dX8_leastSpin_0 : decode cX8_leastSpin 0 = .ok (.iconst 0, 1) := by decide +kernel
theorem dX8_leastSpin_1 : decode cX8_leastSpin 1 = .ok (.istore_n 1, 1) := by decide +kernel
theorem dX8_leastSpin_2 : decode cX8_leastSpin 2 = .ok (.iconst 0, 1) := by decide +kernel
theorem dX8_leastSpin_3 : decode cX8_leastSpin 3 = .ok (.istore_n 2, 1) := by decide +kernel
theorem dX8_leastSpin_4 : decode cX8_leastSpin 4 = .ok (.iload_n 2, 1) := by decide +kernel
theorem dX8_leastSpin_5 : decode cX8_leastSpin 5 = .ok (.aload_n 0, 1) := by decide +kernel
theorem dX8_leastSpin_6 : decode cX8_leastSpin 6 = .ok (.getfield 19, 3) := by decide +kernel
theorem dX8_leastSpin_9 : decode cX8_leastSpin 9 = .ok (.iconst 0, 1) := by decide +kernel
theorem dX8_leastSpin_10 : decode cX8_leastSpin 10 = .ok (.iaload, 1) := by decide +kernel
theorem dX8_leastSpin_11 : decode cX8_leastSpin 11 = .ok (.if_icmp .ge 48, 3) := by decide +kernel
theorem dX8_leastSpin_14 : decode cX8_leastSpin 14 = .ok (.aload_n 0, 1) := by decide +kernel
theorem dX8_leastSpin_15 : decode cX8_leastSpin 15 = .ok (.iload_n 2, 1) := by decide +kernel
theorem dX8_leastSpin_16 : decode cX8_leastSpin 16 = .ok (.invokevirtual 142, 3) := by decide +kernel
theorem dX8_leastSpin_19 : decode cX8_leastSpin 19 = .ok (.ifCond .eq 32, 3) := by decide +kernel
theorem dX8_leastSpin_22 : decode cX8_leastSpin 22 = .ok (.iload_n 1, 1) := by decide +kernel
theorem dX8_leastSpin_23 : decode cX8_leastSpin 23 = .ok (.ifCond .eq 16, 3) := by decide +kernel
theorem dX8_leastSpin_26 : decode cX8_leastSpin 26 = .ok (.aload_n 0, 1) := by decide +kernel
theorem dX8_leastSpin_27 : decode cX8_leastSpin 27 = .ok (.getfield 19, 3) := by decide +kernel
theorem dX8_leastSpin_30 : decode cX8_leastSpin 30 = .ok (.bipush 21, 2) := by decide +kernel
theorem dX8_leastSpin_32 : decode cX8_leastSpin 32 = .ok (.iload_n 2, 1) := by decide +kernel
theorem dX8_leastSpin_33 : decode cX8_leastSpin 33 = .ok (.iadd, 1) := by decide +kernel
theorem dX8_leastSpin_34 : decode cX8_leastSpin 34 = .ok (.iaload, 1) := by decide +kernel
theorem dX8_leastSpin_35 : decode cX8_leastSpin 35 = .ok (.iload_n 1, 1) := by decide +kernel
theorem dX8_leastSpin_36 : decode cX8_leastSpin 36 = .ok (.if_icmp .ge 15, 3) := by decide +kernel
theorem dX8_leastSpin_39 : decode cX8_leastSpin 39 = .ok (.aload_n 0, 1) := by decide +kernel
theorem dX8_leastSpin_40 : decode cX8_leastSpin 40 = .ok (.getfield 19, 3) := by decide +kernel
theorem dX8_leastSpin_43 : decode cX8_leastSpin 43 = .ok (.bipush 21, 2) := by decide +kernel
theorem dX8_leastSpin_45 : decode cX8_leastSpin 45 = .ok (.iload_n 2, 1) := by decide +kernel
theorem dX8_leastSpin_46 : decode cX8_leastSpin 46 = .ok (.iadd, 1) := by decide +kernel
theorem dX8_leastSpin_47 : decode cX8_leastSpin 47 = .ok (.iaload, 1) := by decide +kernel
theorem dX8_leastSpin_48 : decode cX8_leastSpin 48 = .ok (.goto 4, 3) := by decide +kernel
theorem dX8_leastSpin_51 : decode cX8_leastSpin 51 = .ok (.iload_n 1, 1) := by decide +kernel
theorem dX8_leastSpin_52 : decode cX8_leastSpin 52 = .ok (.istore_n 1, 1) := by decide +kernel
theorem dX8_leastSpin_53 : decode cX8_leastSpin 53 = .ok (.iinc 2 1, 3) := by decide +kernel
theorem dX8_leastSpin_56 : decode cX8_leastSpin 56 = .ok (.goto (-52), 3) := by decide +kernel
theorem dX8_leastSpin_59 : decode cX8_leastSpin 59 = .ok (.iload_n 1, 1) := by decide +kernel
theorem dX8_leastSpin_60 : decode cX8_leastSpin 60 = .ok (.ireturn, 1) := by decide +kernel
theorem dX8_goesRound_0 : decode cX8_goesRound 0 = .ok (.iload_n 1, 1) := by decide +kernel
theorem dX8_goesRound_1 : decode cX8_goesRound 1 = .ok (.istore 5, 2) := by decide +kernel
theorem dX8_goesRound_3 : decode cX8_goesRound 3 = .ok (.iload_n 2, 1) := by decide +kernel
theorem dX8_goesRound_4 : decode cX8_goesRound 4 = .ok (.istore 6, 2) := by decide +kernel
theorem dX8_goesRound_6 : decode cX8_goesRound 6 = .ok (.iload 4, 2) := by decide +kernel
theorem dX8_goesRound_8 : decode cX8_goesRound 8 = .ok (.istore 7, 2) := by decide +kernel
theorem dX8_goesRound_10 : decode cX8_goesRound 10 = .ok (.iconst 0, 1) := by decide +kernel
theorem dX8_goesRound_11 : decode cX8_goesRound 11 = .ok (.istore 8, 2) := by decide +kernel
theorem dX8_goesRound_13 : decode cX8_goesRound 13 = .ok (.iload 8, 2) := by decide +kernel
theorem dX8_goesRound_15 : decode cX8_goesRound 15 = .ok (.iload_n 3, 1) := by decide +kernel
theorem dX8_goesRound_16 : decode cX8_goesRound 16 = .ok (.if_icmp .ge 70, 3) := by decide +kernel
theorem dX8_goesRound_19 : decode cX8_goesRound 19 = .ok (.iload 5, 2) := by decide +kernel
theorem dX8_goesRound_21 : decode cX8_goesRound 21 = .ok (.iload 6, 2) := by decide +kernel
theorem dX8_goesRound_23 : decode cX8_goesRound 23 = .ok (.iload 7, 2) := by decide +kernel
theorem dX8_goesRound_25 : decode cX8_goesRound 25 = .ok (.idiv, 1) := by decide +kernel
theorem dX8_goesRound_26 : decode cX8_goesRound 26 = .ok (.iconst 1, 1) := by decide +kernel
theorem dX8_goesRound_27 : decode cX8_goesRound 27 = .ok (.isub, 1) := by decide +kernel
theorem dX8_goesRound_28 : decode cX8_goesRound 28 = .ok (.iadd, 1) := by decide +kernel
theorem dX8_goesRound_29 : decode cX8_goesRound 29 = .ok (.istore 5, 2) := by decide +kernel
theorem dX8_goesRound_31 : decode cX8_goesRound 31 = .ok (.iload 6, 2) := by decide +kernel
theorem dX8_goesRound_33 : decode cX8_goesRound 33 = .ok (.iload 7, 2) := by decide +kernel
theorem dX8_goesRound_35 : decode cX8_goesRound 35 = .ok (.irem, 1) := by decide +kernel
theorem dX8_goesRound_36 : decode cX8_goesRound 36 = .ok (.istore 6, 2) := by decide +kernel
theorem dX8_goesRound_38 : decode cX8_goesRound 38 = .ok (.iload 7, 2) := by decide +kernel
theorem dX8_goesRound_40 : decode cX8_goesRound 40 = .ok (.iconst 3, 1) := by decide +kernel
theorem dX8_goesRound_41 : decode cX8_goesRound 41 = .ok (.idiv, 1) := by decide +kernel
theorem dX8_goesRound_42 : decode cX8_goesRound 42 = .ok (.istore 7, 2) := by decide +kernel
theorem dX8_goesRound_44 : decode cX8_goesRound 44 = .ok (.aload_n 0, 1) := by decide +kernel
theorem dX8_goesRound_45 : decode cX8_goesRound 45 = .ok (.iload 5, 2) := by decide +kernel
theorem dX8_goesRound_47 : decode cX8_goesRound 47 = .ok (.invokevirtual 175, 3) := by decide +kernel
theorem dX8_goesRound_50 : decode cX8_goesRound 50 = .ok (.ifCond .ne 5, 3) := by decide +kernel
theorem dX8_goesRound_53 : decode cX8_goesRound 53 = .ok (.iconst 0, 1) := by decide +kernel
theorem dX8_goesRound_54 : decode cX8_goesRound 54 = .ok (.ireturn, 1) := by decide +kernel
theorem dX8_goesRound_55 : decode cX8_goesRound 55 = .ok (.aload_n 0, 1) := by decide +kernel
theorem dX8_goesRound_56 : decode cX8_goesRound 56 = .ok (.iload 5, 2) := by decide +kernel
theorem dX8_goesRound_58 : decode cX8_goesRound 58 = .ok (.invokevirtual 142, 3) := by decide +kernel
theorem dX8_goesRound_61 : decode cX8_goesRound 61 = .ok (.ifCond .eq 15, 3) := by decide +kernel
theorem dX8_goesRound_64 : decode cX8_goesRound 64 = .ok (.aload_n 0, 1) := by decide +kernel
theorem dX8_goesRound_65 : decode cX8_goesRound 65 = .ok (.iload 5, 2) := by decide +kernel
theorem dX8_goesRound_67 : decode cX8_goesRound 67 = .ok (.aload_n 0, 1) := by decide +kernel
theorem dX8_goesRound_68 : decode cX8_goesRound 68 = .ok (.getfield 19, 3) := by decide +kernel
theorem dX8_goesRound_71 : decode cX8_goesRound 71 = .ok (.iconst 1, 1) := by decide +kernel
theorem dX8_goesRound_72 : decode cX8_goesRound 72 = .ok (.iaload, 1) := by decide +kernel
theorem dX8_goesRound_73 : decode cX8_goesRound 73 = .ok (.invokevirtual 178, 3) := by decide +kernel
theorem dX8_goesRound_76 : decode cX8_goesRound 76 = .ok (.aload_n 0, 1) := by decide +kernel
theorem dX8_goesRound_77 : decode cX8_goesRound 77 = .ok (.invokevirtual 172, 3) := by decide +kernel
theorem dX8_goesRound_80 : decode cX8_goesRound 80 = .ok (.iinc 8 1, 3) := by decide +kernel
theorem dX8_goesRound_83 : decode cX8_goesRound 83 = .ok (.goto (-70), 3) := by decide +kernel
theorem dX8_goesRound_86 : decode cX8_goesRound 86 = .ok (.iconst 1, 1) := by decide +kernel
theorem dX8_goesRound_87 : decode cX8_goesRound 87 = .ok (.ireturn, 1) := by decide +kernel
theorem dX8_round_0 : decode cX8_round 0 = .ok (.aload_n 0, 1) := by decide +kernel
theorem dX8_round_1 : decode cX8_round 1 = .ok (.iload_n 1, 1) := by decide +kernel
theorem dX8_round_2 : decode cX8_round 2 = .ok (.invokevirtual 175, 3) := by decide +kernel
theorem dX8_round_5 : decode cX8_round 5 = .ok (.ifCond .eq 21, 3) := by decide +kernel
theorem dX8_round_8 : decode cX8_round 8 = .ok (.iload_n 2, 1) := by decide +kernel
theorem dX8_round_9 : decode cX8_round 9 = .ok (.i2l, 1) := by decide +kernel
theorem dX8_round_10 : decode cX8_round 10 = .ok (.lconst 1, 1) := by decide +kernel
theorem dX8_round_11 : decode cX8_round 11 = .ok (.ldc2_w 55, 3) := by decide +kernel
theorem dX8_round_14 : decode cX8_round 14 = .ok (.invokestatic 57, 3) := by decide +kernel
theorem dX8_round_17 : decode cX8_round 17 = .ok (.ifCond .eq 9, 3) := by decide +kernel
theorem dX8_round_20 : decode cX8_round 20 = .ok (.iload_n 3, 1) := by decide +kernel
theorem dX8_round_21 : decode cX8_round 21 = .ok (.bipush (-2), 2) := by decide +kernel
theorem dX8_round_23 : decode cX8_round 23 = .ok (.if_icmp .ge 6, 3) := by decide +kernel
theorem dX8_round_26 : decode cX8_round 26 = .ok (.ldc 67, 2) := by decide +kernel
theorem dX8_round_28 : decode cX8_round 28 = .ok (.ireturn, 1) := by decide +kernel
theorem dX8_round_29 : decode cX8_round 29 = .ok (.iconst 1, 1) := by decide +kernel
theorem dX8_round_30 : decode cX8_round 30 = .ok (.istore 4, 2) := by decide +kernel
theorem dX8_round_32 : decode cX8_round 32 = .ok (.iconst 0, 1) := by decide +kernel
theorem dX8_round_33 : decode cX8_round 33 = .ok (.istore 5, 2) := by decide +kernel
theorem dX8_round_35 : decode cX8_round 35 = .ok (.iload 5, 2) := by decide +kernel
theorem dX8_round_37 : decode cX8_round 37 = .ok (.iload_n 2, 1) := by decide +kernel
theorem dX8_round_38 : decode cX8_round 38 = .ok (.if_icmp .ge 15, 3) := by decide +kernel
theorem dX8_round_41 : decode cX8_round 41 = .ok (.iload 4, 2) := by decide +kernel
theorem dX8_round_43 : decode cX8_round 43 = .ok (.iconst 3, 1) := by decide +kernel
theorem dX8_round_44 : decode cX8_round 44 = .ok (.imul, 1) := by decide +kernel
theorem dX8_round_45 : decode cX8_round 45 = .ok (.istore 4, 2) := by decide +kernel
theorem dX8_round_47 : decode cX8_round 47 = .ok (.iinc 5 1, 3) := by decide +kernel
theorem dX8_round_50 : decode cX8_round 50 = .ok (.goto (-15), 3) := by decide +kernel
theorem dX8_round_53 : decode cX8_round 53 = .ok (.aload_n 0, 1) := by decide +kernel
theorem dX8_round_54 : decode cX8_round 54 = .ok (.invokevirtual 196, 3) := by decide +kernel
theorem dX8_round_57 : decode cX8_round 57 = .ok (.iconst 0, 1) := by decide +kernel
theorem dX8_round_58 : decode cX8_round 58 = .ok (.istore 5, 2) := by decide +kernel
theorem dX8_round_60 : decode cX8_round 60 = .ok (.iconst (-1), 1) := by decide +kernel
theorem dX8_round_61 : decode cX8_round 61 = .ok (.istore 6, 2) := by decide +kernel
theorem dX8_round_63 : decode cX8_round 63 = .ok (.iconst 0, 1) := by decide +kernel
theorem dX8_round_64 : decode cX8_round 64 = .ok (.istore 7, 2) := by decide +kernel
theorem dX8_round_66 : decode cX8_round 66 = .ok (.iconst 0, 1) := by decide +kernel
theorem dX8_round_67 : decode cX8_round 67 = .ok (.istore 8, 2) := by decide +kernel
theorem dX8_round_69 : decode cX8_round 69 = .ok (.iload 8, 2) := by decide +kernel
theorem dX8_round_71 : decode cX8_round 71 = .ok (.iload 4, 2) := by decide +kernel
theorem dX8_round_73 : decode cX8_round 73 = .ok (.if_icmp .ge 80, 3) := by decide +kernel
theorem dX8_round_76 : decode cX8_round 76 = .ok (.aload_n 0, 1) := by decide +kernel
theorem dX8_round_77 : decode cX8_round 77 = .ok (.iload_n 1, 1) := by decide +kernel
theorem dX8_round_78 : decode cX8_round 78 = .ok (.iload 8, 2) := by decide +kernel
theorem dX8_round_80 : decode cX8_round 80 = .ok (.iload_n 2, 1) := by decide +kernel
theorem dX8_round_81 : decode cX8_round 81 = .ok (.iload 4, 2) := by decide +kernel
theorem dX8_round_83 : decode cX8_round 83 = .ok (.iconst 3, 1) := by decide +kernel
theorem dX8_round_84 : decode cX8_round 84 = .ok (.idiv, 1) := by decide +kernel
theorem dX8_round_85 : decode cX8_round 85 = .ok (.invokevirtual 212, 3) := by decide +kernel
theorem dX8_round_88 : decode cX8_round 88 = .ok (.istore 9, 2) := by decide +kernel
theorem dX8_round_90 : decode cX8_round 90 = .ok (.aload_n 0, 1) := by decide +kernel
theorem dX8_round_91 : decode cX8_round 91 = .ok (.invokevirtual 155, 3) := by decide +kernel
theorem dX8_round_94 : decode cX8_round 94 = .ok (.invokestatic 215, 3) := by decide +kernel
theorem dX8_round_97 : decode cX8_round 97 = .ok (.istore 10, 2) := by decide +kernel
theorem dX8_round_99 : decode cX8_round 99 = .ok (.aload_n 0, 1) := by decide +kernel
theorem dX8_round_100 : decode cX8_round 100 = .ok (.invokevirtual 218, 3) := by decide +kernel
theorem dX8_round_103 : decode cX8_round 103 = .ok (.istore 11, 2) := by decide +kernel
theorem dX8_round_105 : decode cX8_round 105 = .ok (.aload_n 0, 1) := by decide +kernel
theorem dX8_round_106 : decode cX8_round 106 = .ok (.invokevirtual 191, 3) := by decide +kernel
theorem dX8_round_109 : decode cX8_round 109 = .ok (.iload 9, 2) := by decide +kernel
theorem dX8_round_111 : decode cX8_round 111 = .ok (.ifCond .eq 36, 3) := by decide +kernel
theorem dX8_round_114 : decode cX8_round 114 = .ok (.iload 10, 2) := by decide +kernel
theorem dX8_round_116 : decode cX8_round 116 = .ok (.iload 6, 2) := by decide +kernel
theorem dX8_round_118 : decode cX8_round 118 = .ok (.if_icmp .gt 17, 3) := by decide +kernel
theorem dX8_round_121 : decode cX8_round 121 = .ok (.iload 10, 2) := by decide +kernel
theorem dX8_round_123 : decode cX8_round 123 = .ok (.iload 6, 2) := by decide +kernel
theorem dX8_round_125 : decode cX8_round 125 = .ok (.if_icmp .ne 22, 3) := by decide +kernel
theorem dX8_round_128 : decode cX8_round 128 = .ok (.iload 11, 2) := by decide +kernel
theorem dX8_round_130 : decode cX8_round 130 = .ok (.iload 7, 2) := by decide +kernel
theorem dX8_round_132 : decode cX8_round 132 = .ok (.if_icmp .le 15, 3) := by decide +kernel
theorem dX8_round_135 : decode cX8_round 135 = .ok (.iload 8, 2) := by decide +kernel
theorem dX8_round_137 : decode cX8_round 137 = .ok (.istore 5, 2) := by decide +kernel
theorem dX8_round_139 : decode cX8_round 139 = .ok (.iload 10, 2) := by decide +kernel
theorem dX8_round_141 : decode cX8_round 141 = .ok (.istore 6, 2) := by decide +kernel
theorem dX8_round_143 : decode cX8_round 143 = .ok (.iload 11, 2) := by decide +kernel
theorem dX8_round_145 : decode cX8_round 145 = .ok (.istore 7, 2) := by decide +kernel
theorem dX8_round_147 : decode cX8_round 147 = .ok (.iinc 8 1, 3) := by decide +kernel
theorem dX8_round_150 : decode cX8_round 150 = .ok (.goto (-81), 3) := by decide +kernel
theorem dX8_round_153 : decode cX8_round 153 = .ok (.iload_n 3, 1) := by decide +kernel
theorem dX8_round_154 : decode cX8_round 154 = .ok (.ifCond .ge 16, 3) := by decide +kernel
theorem dX8_round_157 : decode cX8_round 157 = .ok (.iload_n 3, 1) := by decide +kernel
theorem dX8_round_158 : decode cX8_round 158 = .ok (.iconst (-1), 1) := by decide +kernel
theorem dX8_round_159 : decode cX8_round 159 = .ok (.if_icmp .ne 8, 3) := by decide +kernel
theorem dX8_round_162 : decode cX8_round 162 = .ok (.iload 6, 2) := by decide +kernel
theorem dX8_round_164 : decode cX8_round 164 = .ok (.goto 5, 3) := by decide +kernel
theorem dX8_round_167 : decode cX8_round 167 = .ok (.iload 7, 2) := by decide +kernel
theorem dX8_round_169 : decode cX8_round 169 = .ok (.ireturn, 1) := by decide +kernel
theorem dX8_round_170 : decode cX8_round 170 = .ok (.iload 4, 2) := by decide +kernel
theorem dX8_round_172 : decode cX8_round 172 = .ok (.iconst 3, 1) := by decide +kernel
theorem dX8_round_173 : decode cX8_round 173 = .ok (.idiv, 1) := by decide +kernel
theorem dX8_round_174 : decode cX8_round 174 = .ok (.istore 8, 2) := by decide +kernel
theorem dX8_round_176 : decode cX8_round 176 = .ok (.iconst 0, 1) := by decide +kernel
theorem dX8_round_177 : decode cX8_round 177 = .ok (.istore 9, 2) := by decide +kernel
theorem dX8_round_179 : decode cX8_round 179 = .ok (.iload 9, 2) := by decide +kernel
theorem dX8_round_181 : decode cX8_round 181 = .ok (.iload_n 3, 1) := by decide +kernel
theorem dX8_round_182 : decode cX8_round 182 = .ok (.if_icmp .ge 28, 3) := by decide +kernel
theorem dX8_round_185 : decode cX8_round 185 = .ok (.iload 9, 2) := by decide +kernel
theorem dX8_round_187 : decode cX8_round 187 = .ok (.iload_n 2, 1) := by decide +kernel
theorem dX8_round_188 : decode cX8_round 188 = .ok (.if_icmp .ge 22, 3) := by decide +kernel
theorem dX8_round_191 : decode cX8_round 191 = .ok (.iload 5, 2) := by decide +kernel
theorem dX8_round_193 : decode cX8_round 193 = .ok (.iload 8, 2) := by decide +kernel
theorem dX8_round_195 : decode cX8_round 195 = .ok (.irem, 1) := by decide +kernel
theorem dX8_round_196 : decode cX8_round 196 = .ok (.istore 5, 2) := by decide +kernel
theorem dX8_round_198 : decode cX8_round 198 = .ok (.iload 8, 2) := by decide +kernel
theorem dX8_round_200 : decode cX8_round 200 = .ok (.iconst 3, 1) := by decide +kernel
theorem dX8_round_201 : decode cX8_round 201 = .ok (.idiv, 1) := by decide +kernel
theorem dX8_round_202 : decode cX8_round 202 = .ok (.istore 8, 2) := by decide +kernel
theorem dX8_round_204 : decode cX8_round 204 = .ok (.iinc 9 1, 3) := by decide +kernel
theorem dX8_round_207 : decode cX8_round 207 = .ok (.goto (-28), 3) := by decide +kernel
theorem dX8_round_210 : decode cX8_round 210 = .ok (.iload_n 3, 1) := by decide +kernel
theorem dX8_round_211 : decode cX8_round 211 = .ok (.iload_n 2, 1) := by decide +kernel
theorem dX8_round_212 : decode cX8_round 212 = .ok (.if_icmp .ge 11, 3) := by decide +kernel
theorem dX8_round_215 : decode cX8_round 215 = .ok (.iload 5, 2) := by decide +kernel
theorem dX8_round_217 : decode cX8_round 217 = .ok (.iload 8, 2) := by decide +kernel
theorem dX8_round_219 : decode cX8_round 219 = .ok (.idiv, 1) := by decide +kernel
theorem dX8_round_220 : decode cX8_round 220 = .ok (.goto 5, 3) := by decide +kernel
theorem dX8_round_223 : decode cX8_round 223 = .ok (.ldc 202, 2) := by decide +kernel
theorem dX8_round_225 : decode cX8_round 225 = .ok (.ireturn, 1) := by decide +kernel
theorem dX8_walls_0 : decode cX8_walls 0 = .ok (.aload_n 0, 1) := by decide +kernel
theorem dX8_walls_1 : decode cX8_walls 1 = .ok (.getfield 135, 3) := by decide +kernel
theorem dX8_walls_4 : decode cX8_walls 4 = .ok (.ifCond .ne 6, 3) := by decide +kernel
theorem dX8_walls_7 : decode cX8_walls 7 = .ok (.ldc 166, 2) := by decide +kernel
theorem dX8_walls_9 : decode cX8_walls 9 = .ok (.ireturn, 1) := by decide +kernel
theorem dX8_walls_10 : decode cX8_walls 10 = .ok (.iload_n 1, 1) := by decide +kernel
theorem dX8_walls_11 : decode cX8_walls 11 = .ok (.i2l, 1) := by decide +kernel
theorem dX8_walls_12 : decode cX8_walls 12 = .ok (.lconst 1, 1) := by decide +kernel
theorem dX8_walls_13 : decode cX8_walls 13 = .ok (.ldc2_w 194, 3) := by decide +kernel
theorem dX8_walls_16 : decode cX8_walls 16 = .ok (.invokestatic 57, 3) := by decide +kernel
theorem dX8_walls_19 : decode cX8_walls 19 = .ok (.ifCond .eq 10, 3) := by decide +kernel
theorem dX8_walls_22 : decode cX8_walls 22 = .ok (.iload_n 2, 1) := by decide +kernel
theorem dX8_walls_23 : decode cX8_walls 23 = .ok (.invokestatic 203, 3) := by decide +kernel
theorem dX8_walls_26 : decode cX8_walls 26 = .ok (.ifCond .ne 6, 3) := by decide +kernel
theorem dX8_walls_29 : decode cX8_walls 29 = .ok (.ldc 67, 2) := by decide +kernel
theorem dX8_walls_31 : decode cX8_walls 31 = .ok (.ireturn, 1) := by decide +kernel
theorem dX8_walls_32 : decode cX8_walls 32 = .ok (.aload_n 0, 1) := by decide +kernel
theorem dX8_walls_33 : decode cX8_walls 33 = .ok (.invokevirtual 196, 3) := by decide +kernel
theorem dX8_walls_36 : decode cX8_walls 36 = .ok (.iconst 0, 1) := by decide +kernel
theorem dX8_walls_37 : decode cX8_walls 37 = .ok (.istore_n 3, 1) := by decide +kernel
theorem dX8_walls_38 : decode cX8_walls 38 = .ok (.iconst (-1), 1) := by decide +kernel
theorem dX8_walls_39 : decode cX8_walls 39 = .ok (.istore 4, 2) := by decide +kernel
theorem dX8_walls_41 : decode cX8_walls 41 = .ok (.iconst 0, 1) := by decide +kernel
theorem dX8_walls_42 : decode cX8_walls 42 = .ok (.istore 5, 2) := by decide +kernel
theorem dX8_walls_44 : decode cX8_walls 44 = .ok (.iload 5, 2) := by decide +kernel
theorem dX8_walls_46 : decode cX8_walls 46 = .ok (.iconst 1, 1) := by decide +kernel
theorem dX8_walls_47 : decode cX8_walls 47 = .ok (.aload_n 0, 1) := by decide +kernel
theorem dX8_walls_48 : decode cX8_walls 48 = .ok (.getfield 19, 3) := by decide +kernel
theorem dX8_walls_51 : decode cX8_walls 51 = .ok (.iconst 0, 1) := by decide +kernel
theorem dX8_walls_52 : decode cX8_walls 52 = .ok (.iaload, 1) := by decide +kernel
theorem dX8_walls_53 : decode cX8_walls 53 = .ok (.iconst 1, 1) := by decide +kernel
theorem dX8_walls_54 : decode cX8_walls 54 = .ok (.isub, 1) := by decide +kernel
theorem dX8_walls_55 : decode cX8_walls 55 = .ok (.ishl, 1) := by decide +kernel
theorem dX8_walls_56 : decode cX8_walls 56 = .ok (.if_icmp .ge 60, 3) := by decide +kernel
theorem dX8_walls_59 : decode cX8_walls 59 = .ok (.aload_n 0, 1) := by decide +kernel
theorem dX8_walls_60 : decode cX8_walls 60 = .ok (.getfield 19, 3) := by decide +kernel
theorem dX8_walls_63 : decode cX8_walls 63 = .ok (.iconst 4, 1) := by decide +kernel
theorem dX8_walls_64 : decode cX8_walls 64 = .ok (.iload 5, 2) := by decide +kernel
theorem dX8_walls_66 : decode cX8_walls 66 = .ok (.iastore, 1) := by decide +kernel
theorem dX8_walls_67 : decode cX8_walls 67 = .ok (.aload_n 0, 1) := by decide +kernel
theorem dX8_walls_68 : decode cX8_walls 68 = .ok (.iload_n 1, 1) := by decide +kernel
theorem dX8_walls_69 : decode cX8_walls 69 = .ok (.invokevirtual 209, 3) := by decide +kernel
theorem dX8_walls_72 : decode cX8_walls 72 = .ok (.invokestatic 215, 3) := by decide +kernel
theorem dX8_walls_75 : decode cX8_walls 75 = .ok (.istore 6, 2) := by decide +kernel
theorem dX8_walls_77 : decode cX8_walls 77 = .ok (.iload 6, 2) := by decide +kernel
theorem dX8_walls_79 : decode cX8_walls 79 = .ok (.iload 4, 2) := by decide +kernel
theorem dX8_walls_81 : decode cX8_walls 81 = .ok (.if_icmp .gt 22, 3) := by decide +kernel
theorem dX8_walls_84 : decode cX8_walls 84 = .ok (.iload 6, 2) := by decide +kernel
theorem dX8_walls_86 : decode cX8_walls 86 = .ok (.iload 4, 2) := by decide +kernel
theorem dX8_walls_88 : decode cX8_walls 88 = .ok (.if_icmp .ne 22, 3) := by decide +kernel
theorem dX8_walls_91 : decode cX8_walls 91 = .ok (.iload 5, 2) := by decide +kernel
theorem dX8_walls_93 : decode cX8_walls 93 = .ok (.invokestatic 215, 3) := by decide +kernel
theorem dX8_walls_96 : decode cX8_walls 96 = .ok (.iload_n 3, 1) := by decide +kernel
theorem dX8_walls_97 : decode cX8_walls 97 = .ok (.invokestatic 215, 3) := by decide +kernel
theorem dX8_walls_100 : decode cX8_walls 100 = .ok (.if_icmp .ge 10, 3) := by decide +kernel
theorem dX8_walls_103 : decode cX8_walls 103 = .ok (.iload 5, 2) := by decide +kernel
theorem dX8_walls_105 : decode cX8_walls 105 = .ok (.istore_n 3, 1) := by decide +kernel
theorem dX8_walls_106 : decode cX8_walls 106 = .ok (.iload 6, 2) := by decide +kernel
theorem dX8_walls_108 : decode cX8_walls 108 = .ok (.istore 4, 2) := by decide +kernel
theorem dX8_walls_110 : decode cX8_walls 110 = .ok (.iinc 5 1, 3) := by decide +kernel
theorem dX8_walls_113 : decode cX8_walls 113 = .ok (.goto (-69), 3) := by decide +kernel
theorem dX8_walls_116 : decode cX8_walls 116 = .ok (.iload_n 2, 1) := by decide +kernel
theorem dX8_walls_117 : decode cX8_walls 117 = .ok (.ifCond .ne 7, 3) := by decide +kernel
theorem dX8_walls_120 : decode cX8_walls 120 = .ok (.iload_n 3, 1) := by decide +kernel
theorem dX8_walls_121 : decode cX8_walls 121 = .ok (.goto 5, 3) := by decide +kernel
theorem dX8_walls_124 : decode cX8_walls 124 = .ok (.iload 4, 2) := by decide +kernel
theorem dX8_walls_126 : decode cX8_walls 126 = .ok (.ireturn, 1) := by decide +kernel
theorem dX8_steady_0 : decode cX8_steady 0 = .ok (.aload_n 0, 1) := by decide +kernel
theorem dX8_steady_1 : decode cX8_steady 1 = .ok (.getfield 135, 3) := by decide +kernel
theorem dX8_steady_4 : decode cX8_steady 4 = .ok (.ifCond .ne 6, 3) := by decide +kernel
theorem dX8_steady_7 : decode cX8_steady 7 = .ok (.ldc 166, 2) := by decide +kernel
theorem dX8_steady_9 : decode cX8_steady 9 = .ok (.ireturn, 1) := by decide +kernel
theorem dX8_steady_10 : decode cX8_steady 10 = .ok (.iload_n 1, 1) := by decide +kernel
theorem dX8_steady_11 : decode cX8_steady 11 = .ok (.i2l, 1) := by decide +kernel
theorem dX8_steady_12 : decode cX8_steady 12 = .ok (.lconst 1, 1) := by decide +kernel
theorem dX8_steady_13 : decode cX8_steady 13 = .ok (.ldc2_w 194, 3) := by decide +kernel
theorem dX8_steady_16 : decode cX8_steady 16 = .ok (.invokestatic 57, 3) := by decide +kernel
theorem dX8_steady_19 : decode cX8_steady 19 = .ok (.ifCond .eq 10, 3) := by decide +kernel
theorem dX8_steady_22 : decode cX8_steady 22 = .ok (.iload_n 2, 1) := by decide +kernel
theorem dX8_steady_23 : decode cX8_steady 23 = .ok (.invokestatic 203, 3) := by decide +kernel
theorem dX8_steady_26 : decode cX8_steady 26 = .ok (.ifCond .ne 6, 3) := by decide +kernel
theorem dX8_steady_29 : decode cX8_steady 29 = .ok (.ldc 67, 2) := by decide +kernel
theorem dX8_steady_31 : decode cX8_steady 31 = .ok (.ireturn, 1) := by decide +kernel
theorem dX8_steady_32 : decode cX8_steady 32 = .ok (.aload_n 0, 1) := by decide +kernel
theorem dX8_steady_33 : decode cX8_steady 33 = .ok (.invokevirtual 196, 3) := by decide +kernel
theorem dX8_steady_36 : decode cX8_steady 36 = .ok (.ldc 202, 2) := by decide +kernel
theorem dX8_steady_38 : decode cX8_steady 38 = .ok (.istore_n 3, 1) := by decide +kernel
theorem dX8_steady_39 : decode cX8_steady 39 = .ok (.ldc 202, 2) := by decide +kernel
theorem dX8_steady_41 : decode cX8_steady 41 = .ok (.istore 4, 2) := by decide +kernel
theorem dX8_steady_43 : decode cX8_steady 43 = .ok (.iconst 0, 1) := by decide +kernel
theorem dX8_steady_44 : decode cX8_steady 44 = .ok (.istore 5, 2) := by decide +kernel
theorem dX8_steady_46 : decode cX8_steady 46 = .ok (.iload 5, 2) := by decide +kernel
theorem dX8_steady_48 : decode cX8_steady 48 = .ok (.aload_n 0, 1) := by decide +kernel
theorem dX8_steady_49 : decode cX8_steady 49 = .ok (.getfield 19, 3) := by decide +kernel
theorem dX8_steady_52 : decode cX8_steady 52 = .ok (.iconst 0, 1) := by decide +kernel
theorem dX8_steady_53 : decode cX8_steady 53 = .ok (.iaload, 1) := by decide +kernel
theorem dX8_steady_54 : decode cX8_steady 54 = .ok (.if_icmp .ge 70, 3) := by decide +kernel
theorem dX8_steady_57 : decode cX8_steady 57 = .ok (.aload_n 0, 1) := by decide +kernel
theorem dX8_steady_58 : decode cX8_steady 58 = .ok (.iload 5, 2) := by decide +kernel
theorem dX8_steady_60 : decode cX8_steady 60 = .ok (.invokevirtual 142, 3) := by decide +kernel
theorem dX8_steady_63 : decode cX8_steady 63 = .ok (.ifCond .eq 55, 3) := by decide +kernel
theorem dX8_steady_66 : decode cX8_steady 66 = .ok (.aload_n 0, 1) := by decide +kernel
theorem dX8_steady_67 : decode cX8_steady 67 = .ok (.getfield 19, 3) := by decide +kernel
theorem dX8_steady_70 : decode cX8_steady 70 = .ok (.bipush 21, 2) := by decide +kernel
theorem dX8_steady_72 : decode cX8_steady 72 = .ok (.iload 5, 2) := by decide +kernel
theorem dX8_steady_74 : decode cX8_steady 74 = .ok (.iadd, 1) := by decide +kernel
theorem dX8_steady_75 : decode cX8_steady 75 = .ok (.bipush 99, 2) := by decide +kernel
theorem dX8_steady_77 : decode cX8_steady 77 = .ok (.iastore, 1) := by decide +kernel
theorem dX8_steady_78 : decode cX8_steady 78 = .ok (.aload_n 0, 1) := by decide +kernel
theorem dX8_steady_79 : decode cX8_steady 79 = .ok (.iload_n 1, 1) := by decide +kernel
theorem dX8_steady_80 : decode cX8_steady 80 = .ok (.invokevirtual 209, 3) := by decide +kernel
theorem dX8_steady_83 : decode cX8_steady 83 = .ok (.invokestatic 215, 3) := by decide +kernel
theorem dX8_steady_86 : decode cX8_steady 86 = .ok (.istore 6, 2) := by decide +kernel
theorem dX8_steady_88 : decode cX8_steady 88 = .ok (.iload 6, 2) := by decide +kernel
theorem dX8_steady_90 : decode cX8_steady 90 = .ok (.iload 4, 2) := by decide +kernel
theorem dX8_steady_92 : decode cX8_steady 92 = .ok (.if_icmp .le 8, 3) := by decide +kernel
theorem dX8_steady_95 : decode cX8_steady 95 = .ok (.iload 5, 2) := by decide +kernel
theorem dX8_steady_97 : decode cX8_steady 97 = .ok (.goto 4, 3) := by decide +kernel
theorem dX8_steady_100 : decode cX8_steady 100 = .ok (.iload_n 3, 1) := by decide +kernel
theorem dX8_steady_101 : decode cX8_steady 101 = .ok (.istore_n 3, 1) := by decide +kernel
theorem dX8_steady_102 : decode cX8_steady 102 = .ok (.iload 6, 2) := by decide +kernel
theorem dX8_steady_104 : decode cX8_steady 104 = .ok (.iload 4, 2) := by decide +kernel
theorem dX8_steady_106 : decode cX8_steady 106 = .ok (.if_icmp .le 8, 3) := by decide +kernel
theorem dX8_steady_109 : decode cX8_steady 109 = .ok (.iload 6, 2) := by decide +kernel
theorem dX8_steady_111 : decode cX8_steady 111 = .ok (.goto 5, 3) := by decide +kernel
theorem dX8_steady_114 : decode cX8_steady 114 = .ok (.iload 4, 2) := by decide +kernel
theorem dX8_steady_116 : decode cX8_steady 116 = .ok (.istore 4, 2) := by decide +kernel
theorem dX8_steady_118 : decode cX8_steady 118 = .ok (.iinc 5 1, 3) := by decide +kernel
theorem dX8_steady_121 : decode cX8_steady 121 = .ok (.goto (-75), 3) := by decide +kernel
theorem dX8_steady_124 : decode cX8_steady 124 = .ok (.iload_n 2, 1) := by decide +kernel
theorem dX8_steady_125 : decode cX8_steady 125 = .ok (.ifCond .ne 7, 3) := by decide +kernel
theorem dX8_steady_128 : decode cX8_steady 128 = .ok (.iload_n 3, 1) := by decide +kernel
theorem dX8_steady_129 : decode cX8_steady 129 = .ok (.goto 5, 3) := by decide +kernel
theorem dX8_steady_132 : decode cX8_steady 132 = .ok (.iload 4, 2) := by decide +kernel
theorem dX8_steady_134 : decode cX8_steady 134 = .ok (.ireturn, 1) := by decide +kernel
theorem dX8_lashTurns_0 : decode cX8_lashTurns 0 = .ok (.iload_n 1, 1) := by decide +kernel
theorem dX8_lashTurns_1 : decode cX8_lashTurns 1 = .ok (.istore_n 3, 1) := by decide +kernel
theorem dX8_lashTurns_2 : decode cX8_lashTurns 2 = .ok (.iload_n 2, 1) := by decide +kernel
theorem dX8_lashTurns_3 : decode cX8_lashTurns 3 = .ok (.iconst 1, 1) := by decide +kernel
theorem dX8_lashTurns_4 : decode cX8_lashTurns 4 = .ok (.isub, 1) := by decide +kernel
theorem dX8_lashTurns_5 : decode cX8_lashTurns 5 = .ok (.istore 4, 2) := by decide +kernel
theorem dX8_lashTurns_7 : decode cX8_lashTurns 7 = .ok (.iload 4, 2) := by decide +kernel
theorem dX8_lashTurns_9 : decode cX8_lashTurns 9 = .ok (.ifCond .lt 57, 3) := by decide +kernel
theorem dX8_lashTurns_12 : decode cX8_lashTurns 12 = .ok (.iload_n 3, 1) := by decide +kernel
theorem dX8_lashTurns_13 : decode cX8_lashTurns 13 = .ok (.iconst 5, 1) := by decide +kernel
theorem dX8_lashTurns_14 : decode cX8_lashTurns 14 = .ok (.irem, 1) := by decide +kernel
theorem dX8_lashTurns_15 : decode cX8_lashTurns 15 = .ok (.iconst 2, 1) := by decide +kernel
theorem dX8_lashTurns_16 : decode cX8_lashTurns 16 = .ok (.imul, 1) := by decide +kernel
theorem dX8_lashTurns_17 : decode cX8_lashTurns 17 = .ok (.iconst 2, 1) := by decide +kernel
theorem dX8_lashTurns_18 : decode cX8_lashTurns 18 = .ok (.isub, 1) := by decide +kernel
theorem dX8_lashTurns_19 : decode cX8_lashTurns 19 = .ok (.iload 4, 2) := by decide +kernel
theorem dX8_lashTurns_21 : decode cX8_lashTurns 21 = .ok (.iconst 2, 1) := by decide +kernel
theorem dX8_lashTurns_22 : decode cX8_lashTurns 22 = .ok (.irem, 1) := by decide +kernel
theorem dX8_lashTurns_23 : decode cX8_lashTurns 23 = .ok (.iadd, 1) := by decide +kernel
theorem dX8_lashTurns_24 : decode cX8_lashTurns 24 = .ok (.istore 5, 2) := by decide +kernel
theorem dX8_lashTurns_26 : decode cX8_lashTurns 26 = .ok (.iload_n 3, 1) := by decide +kernel
theorem dX8_lashTurns_27 : decode cX8_lashTurns 27 = .ok (.iconst 5, 1) := by decide +kernel
theorem dX8_lashTurns_28 : decode cX8_lashTurns 28 = .ok (.idiv, 1) := by decide +kernel
theorem dX8_lashTurns_29 : decode cX8_lashTurns 29 = .ok (.istore_n 3, 1) := by decide +kernel
theorem dX8_lashTurns_30 : decode cX8_lashTurns 30 = .ok (.aload_n 0, 1) := by decide +kernel
theorem dX8_lashTurns_31 : decode cX8_lashTurns 31 = .ok (.iload 5, 2) := by decide +kernel
theorem dX8_lashTurns_33 : decode cX8_lashTurns 33 = .ok (.invokevirtual 175, 3) := by decide +kernel
theorem dX8_lashTurns_36 : decode cX8_lashTurns 36 = .ok (.ifCond .eq 24, 3) := by decide +kernel
theorem dX8_lashTurns_39 : decode cX8_lashTurns 39 = .ok (.aload_n 0, 1) := by decide +kernel
theorem dX8_lashTurns_40 : decode cX8_lashTurns 40 = .ok (.iload 5, 2) := by decide +kernel
theorem dX8_lashTurns_42 : decode cX8_lashTurns 42 = .ok (.invokevirtual 142, 3) := by decide +kernel
theorem dX8_lashTurns_45 : decode cX8_lashTurns 45 = .ok (.ifCond .eq 15, 3) := by decide +kernel
theorem dX8_lashTurns_48 : decode cX8_lashTurns 48 = .ok (.aload_n 0, 1) := by decide +kernel
theorem dX8_lashTurns_49 : decode cX8_lashTurns 49 = .ok (.iload 5, 2) := by decide +kernel
theorem dX8_lashTurns_51 : decode cX8_lashTurns 51 = .ok (.aload_n 0, 1) := by decide +kernel
theorem dX8_lashTurns_52 : decode cX8_lashTurns 52 = .ok (.getfield 19, 3) := by decide +kernel
theorem dX8_lashTurns_55 : decode cX8_lashTurns 55 = .ok (.iconst 1, 1) := by decide +kernel
theorem dX8_lashTurns_56 : decode cX8_lashTurns 56 = .ok (.iaload, 1) := by decide +kernel
theorem dX8_lashTurns_57 : decode cX8_lashTurns 57 = .ok (.invokevirtual 178, 3) := by decide +kernel
theorem dX8_lashTurns_60 : decode cX8_lashTurns 60 = .ok (.iinc 4 (-1), 3) := by decide +kernel
theorem dX8_lashTurns_63 : decode cX8_lashTurns 63 = .ok (.goto (-56), 3) := by decide +kernel
theorem dX8_lashTurns_66 : decode cX8_lashTurns 66 = .ok (.return_, 1) := by decide +kernel
theorem dX8_boys_0 : decode cX8_boys 0 = .ok (.aload_n 0, 1) := by decide +kernel
theorem dX8_boys_1 : decode cX8_boys 1 = .ok (.getfield 135, 3) := by decide +kernel
theorem dX8_boys_4 : decode cX8_boys 4 = .ok (.ifCond .ne 6, 3) := by decide +kernel
theorem dX8_boys_7 : decode cX8_boys 7 = .ok (.ldc 166, 2) := by decide +kernel
theorem dX8_boys_9 : decode cX8_boys 9 = .ok (.ireturn, 1) := by decide +kernel
theorem dX8_boys_10 : decode cX8_boys 10 = .ok (.iload_n 1, 1) := by decide +kernel
theorem dX8_boys_11 : decode cX8_boys 11 = .ok (.i2l, 1) := by decide +kernel
theorem dX8_boys_12 : decode cX8_boys 12 = .ok (.lconst 0, 1) := by decide +kernel
theorem dX8_boys_13 : decode cX8_boys 13 = .ok (.ldc2_w 221, 3) := by decide +kernel
theorem dX8_boys_16 : decode cX8_boys 16 = .ok (.invokestatic 57, 3) := by decide +kernel
theorem dX8_boys_19 : decode cX8_boys 19 = .ok (.ifCond .eq 15, 3) := by decide +kernel
theorem dX8_boys_22 : decode cX8_boys 22 = .ok (.iload_n 2, 1) := by decide +kernel
theorem dX8_boys_23 : decode cX8_boys 23 = .ok (.i2l, 1) := by decide +kernel
theorem dX8_boys_24 : decode cX8_boys 24 = .ok (.lconst 1, 1) := by decide +kernel
theorem dX8_boys_25 : decode cX8_boys 25 = .ok (.ldc2_w 223, 3) := by decide +kernel
theorem dX8_boys_28 : decode cX8_boys 28 = .ok (.invokestatic 57, 3) := by decide +kernel
theorem dX8_boys_31 : decode cX8_boys 31 = .ok (.ifCond .ne 6, 3) := by decide +kernel
theorem dX8_boys_34 : decode cX8_boys 34 = .ok (.ldc 67, 2) := by decide +kernel
theorem dX8_boys_36 : decode cX8_boys 36 = .ok (.ireturn, 1) := by decide +kernel
theorem dX8_boys_37 : decode cX8_boys 37 = .ok (.aload_n 0, 1) := by decide +kernel
theorem dX8_boys_38 : decode cX8_boys 38 = .ok (.invokevirtual 196, 3) := by decide +kernel
theorem dX8_boys_41 : decode cX8_boys 41 = .ok (.iconst 1, 1) := by decide +kernel
theorem dX8_boys_42 : decode cX8_boys 42 = .ok (.istore_n 3, 1) := by decide +kernel
theorem dX8_boys_43 : decode cX8_boys 43 = .ok (.iconst 0, 1) := by decide +kernel
theorem dX8_boys_44 : decode cX8_boys 44 = .ok (.istore 4, 2) := by decide +kernel
theorem dX8_boys_46 : decode cX8_boys 46 = .ok (.iload 4, 2) := by decide +kernel
theorem dX8_boys_48 : decode cX8_boys 48 = .ok (.iload_n 1, 1) := by decide +kernel
theorem dX8_boys_49 : decode cX8_boys 49 = .ok (.if_icmp .ge 13, 3) := by decide +kernel
theorem dX8_boys_52 : decode cX8_boys 52 = .ok (.iload_n 3, 1) := by decide +kernel
theorem dX8_boys_53 : decode cX8_boys 53 = .ok (.iconst 5, 1) := by decide +kernel
theorem dX8_boys_54 : decode cX8_boys 54 = .ok (.imul, 1) := by decide +kernel
theorem dX8_boys_55 : decode cX8_boys 55 = .ok (.istore_n 3, 1) := by decide +kernel
theorem dX8_boys_56 : decode cX8_boys 56 = .ok (.iinc 4 1, 3) := by decide +kernel
theorem dX8_boys_59 : decode cX8_boys 59 = .ok (.goto (-13), 3) := by decide +kernel
theorem dX8_boys_62 : decode cX8_boys 62 = .ok (.iconst 0, 1) := by decide +kernel
theorem dX8_boys_63 : decode cX8_boys 63 = .ok (.istore 4, 2) := by decide +kernel
theorem dX8_boys_65 : decode cX8_boys 65 = .ok (.iload 4, 2) := by decide +kernel
theorem dX8_boys_67 : decode cX8_boys 67 = .ok (.iload_n 3, 1) := by decide +kernel
theorem dX8_boys_68 : decode cX8_boys 68 = .ok (.if_icmp .ge 45, 3) := by decide +kernel
theorem dX8_boys_71 : decode cX8_boys 71 = .ok (.aload_n 0, 1) := by decide +kernel
theorem dX8_boys_72 : decode cX8_boys 72 = .ok (.iload 4, 2) := by decide +kernel
theorem dX8_boys_74 : decode cX8_boys 74 = .ok (.iload_n 1, 1) := by decide +kernel
theorem dX8_boys_75 : decode cX8_boys 75 = .ok (.invokevirtual 225, 3) := by decide +kernel
theorem dX8_boys_78 : decode cX8_boys 78 = .ok (.aload_n 0, 1) := by decide +kernel
theorem dX8_boys_79 : decode cX8_boys 79 = .ok (.iload_n 2, 1) := by decide +kernel
theorem dX8_boys_80 : decode cX8_boys 80 = .ok (.invokevirtual 187, 3) := by decide +kernel
theorem dX8_boys_83 : decode cX8_boys 83 = .ok (.aload_n 0, 1) := by decide +kernel
theorem dX8_boys_84 : decode cX8_boys 84 = .ok (.getfield 37, 3) := by decide +kernel
theorem dX8_boys_87 : decode cX8_boys 87 = .ok (.iload 4, 2) := by decide +kernel
theorem dX8_boys_89 : decode cX8_boys 89 = .ok (.aload_n 0, 1) := by decide +kernel
theorem dX8_boys_90 : decode cX8_boys 90 = .ok (.iconst 0, 1) := by decide +kernel
theorem dX8_boys_91 : decode cX8_boys 91 = .ok (.iconst 2, 1) := by decide +kernel
theorem dX8_boys_92 : decode cX8_boys 92 = .ok (.invokevirtual 184, 3) := by decide +kernel
theorem dX8_boys_95 : decode cX8_boys 95 = .ok (.aload_n 0, 1) := by decide +kernel
theorem dX8_boys_96 : decode cX8_boys 96 = .ok (.iconst 1, 1) := by decide +kernel
theorem dX8_boys_97 : decode cX8_boys 97 = .ok (.iconst 2, 1) := by decide +kernel
theorem dX8_boys_98 : decode cX8_boys 98 = .ok (.invokevirtual 184, 3) := by decide +kernel
theorem dX8_boys_101 : decode cX8_boys 101 = .ok (.isub, 1) := by decide +kernel
theorem dX8_boys_102 : decode cX8_boys 102 = .ok (.iastore, 1) := by decide +kernel
theorem dX8_boys_103 : decode cX8_boys 103 = .ok (.aload_n 0, 1) := by decide +kernel
theorem dX8_boys_104 : decode cX8_boys 104 = .ok (.invokevirtual 191, 3) := by decide +kernel
theorem dX8_boys_107 : decode cX8_boys 107 = .ok (.iinc 4 1, 3) := by decide +kernel
theorem dX8_boys_110 : decode cX8_boys 110 = .ok (.goto (-45), 3) := by decide +kernel
theorem dX8_boys_113 : decode cX8_boys 113 = .ok (.iload_n 1, 1) := by decide +kernel
theorem dX8_boys_114 : decode cX8_boys 114 = .ok (.iconst 1, 1) := by decide +kernel
theorem dX8_boys_115 : decode cX8_boys 115 = .ok (.isub, 1) := by decide +kernel
theorem dX8_boys_116 : decode cX8_boys 116 = .ok (.istore 4, 2) := by decide +kernel
theorem dX8_boys_118 : decode cX8_boys 118 = .ok (.iload 4, 2) := by decide +kernel
theorem dX8_boys_120 : decode cX8_boys 120 = .ok (.ifCond .lt 113, 3) := by decide +kernel
theorem dX8_boys_123 : decode cX8_boys 123 = .ok (.iload_n 3, 1) := by decide +kernel
theorem dX8_boys_124 : decode cX8_boys 124 = .ok (.iconst 5, 1) := by decide +kernel
theorem dX8_boys_125 : decode cX8_boys 125 = .ok (.idiv, 1) := by decide +kernel
theorem dX8_boys_126 : decode cX8_boys 126 = .ok (.istore_n 3, 1) := by decide +kernel
theorem dX8_boys_127 : decode cX8_boys 127 = .ok (.iconst 0, 1) := by decide +kernel
theorem dX8_boys_128 : decode cX8_boys 128 = .ok (.istore 5, 2) := by decide +kernel
theorem dX8_boys_130 : decode cX8_boys 130 = .ok (.iload 5, 2) := by decide +kernel
theorem dX8_boys_132 : decode cX8_boys 132 = .ok (.iload_n 3, 1) := by decide +kernel
theorem dX8_boys_133 : decode cX8_boys 133 = .ok (.if_icmp .ge 94, 3) := by decide +kernel
theorem dX8_boys_136 : decode cX8_boys 136 = .ok (.aload_n 0, 1) := by decide +kernel
theorem dX8_boys_137 : decode cX8_boys 137 = .ok (.getfield 37, 3) := by decide +kernel
theorem dX8_boys_140 : decode cX8_boys 140 = .ok (.iconst 5, 1) := by decide +kernel
theorem dX8_boys_141 : decode cX8_boys 141 = .ok (.iload 5, 2) := by decide +kernel
theorem dX8_boys_143 : decode cX8_boys 143 = .ok (.imul, 1) := by decide +kernel
theorem dX8_boys_144 : decode cX8_boys 144 = .ok (.iaload, 1) := by decide +kernel
theorem dX8_boys_145 : decode cX8_boys 145 = .ok (.istore 6, 2) := by decide +kernel
theorem dX8_boys_147 : decode cX8_boys 147 = .ok (.iconst 1, 1) := by decide +kernel
theorem dX8_boys_148 : decode cX8_boys 148 = .ok (.istore 7, 2) := by decide +kernel
theorem dX8_boys_150 : decode cX8_boys 150 = .ok (.iload 7, 2) := by decide +kernel
theorem dX8_boys_152 : decode cX8_boys 152 = .ok (.iconst 5, 1) := by decide +kernel
theorem dX8_boys_153 : decode cX8_boys 153 = .ok (.if_icmp .ge 59, 3) := by decide +kernel
theorem dX8_boys_156 : decode cX8_boys 156 = .ok (.aload_n 0, 1) := by decide +kernel
theorem dX8_boys_157 : decode cX8_boys 157 = .ok (.getfield 37, 3) := by decide +kernel
theorem dX8_boys_160 : decode cX8_boys 160 = .ok (.iconst 5, 1) := by decide +kernel
theorem dX8_boys_161 : decode cX8_boys 161 = .ok (.iload 5, 2) := by decide +kernel
theorem dX8_boys_163 : decode cX8_boys 163 = .ok (.imul, 1) := by decide +kernel
theorem dX8_boys_164 : decode cX8_boys 164 = .ok (.iload 7, 2) := by decide +kernel
theorem dX8_boys_166 : decode cX8_boys 166 = .ok (.iadd, 1) := by decide +kernel
theorem dX8_boys_167 : decode cX8_boys 167 = .ok (.iaload, 1) := by decide +kernel
theorem dX8_boys_168 : decode cX8_boys 168 = .ok (.istore 8, 2) := by decide +kernel
theorem dX8_boys_170 : decode cX8_boys 170 = .ok (.iload 4, 2) := by decide +kernel
theorem dX8_boys_172 : decode cX8_boys 172 = .ok (.iconst 2, 1) := by decide +kernel
theorem dX8_boys_173 : decode cX8_boys 173 = .ok (.irem, 1) := by decide +kernel
theorem dX8_boys_174 : decode cX8_boys 174 = .ok (.ifCond .ne 7, 3) := by decide +kernel
theorem dX8_boys_177 : decode cX8_boys 177 = .ok (.iconst 1, 1) := by decide +kernel
theorem dX8_boys_178 : decode cX8_boys 178 = .ok (.goto 4, 3) := by decide +kernel
theorem dX8_boys_181 : decode cX8_boys 181 = .ok (.iconst 0, 1) := by decide +kernel
theorem dX8_boys_182 : decode cX8_boys 182 = .ok (.iload 8, 2) := by decide +kernel
theorem dX8_boys_184 : decode cX8_boys 184 = .ok (.iload 6, 2) := by decide +kernel
theorem dX8_boys_186 : decode cX8_boys 186 = .ok (.if_icmp .le 7, 3) := by decide +kernel
theorem dX8_boys_189 : decode cX8_boys 189 = .ok (.iconst 1, 1) := by decide +kernel
theorem dX8_boys_190 : decode cX8_boys 190 = .ok (.goto 4, 3) := by decide +kernel
theorem dX8_boys_193 : decode cX8_boys 193 = .ok (.iconst 0, 1) := by decide +kernel
theorem dX8_boys_194 : decode cX8_boys 194 = .ok (.if_icmp .ne 8, 3) := by decide +kernel
theorem dX8_boys_197 : decode cX8_boys 197 = .ok (.iload 8, 2) := by decide +kernel
theorem dX8_boys_199 : decode cX8_boys 199 = .ok (.goto 5, 3) := by decide +kernel
theorem dX8_boys_202 : decode cX8_boys 202 = .ok (.iload 6, 2) := by decide +kernel
theorem dX8_boys_204 : decode cX8_boys 204 = .ok (.istore 6, 2) := by decide +kernel
theorem dX8_boys_206 : decode cX8_boys 206 = .ok (.iinc 7 1, 3) := by decide +kernel
theorem dX8_boys_209 : decode cX8_boys 209 = .ok (.goto (-59), 3) := by decide +kernel
theorem dX8_boys_212 : decode cX8_boys 212 = .ok (.aload_n 0, 1) := by decide +kernel
theorem dX8_boys_213 : decode cX8_boys 213 = .ok (.getfield 37, 3) := by decide +kernel
theorem dX8_boys_216 : decode cX8_boys 216 = .ok (.iload 5, 2) := by decide +kernel
theorem dX8_boys_218 : decode cX8_boys 218 = .ok (.iload 6, 2) := by decide +kernel
theorem dX8_boys_220 : decode cX8_boys 220 = .ok (.iastore, 1) := by decide +kernel
theorem dX8_boys_221 : decode cX8_boys 221 = .ok (.iinc 5 1, 3) := by decide +kernel
theorem dX8_boys_224 : decode cX8_boys 224 = .ok (.goto (-94), 3) := by decide +kernel
theorem dX8_boys_227 : decode cX8_boys 227 = .ok (.iinc 4 (-1), 3) := by decide +kernel
theorem dX8_boys_230 : decode cX8_boys 230 = .ok (.goto (-112), 3) := by decide +kernel
theorem dX8_boys_233 : decode cX8_boys 233 = .ok (.aload_n 0, 1) := by decide +kernel
theorem dX8_boys_234 : decode cX8_boys 234 = .ok (.getfield 37, 3) := by decide +kernel
theorem dX8_boys_237 : decode cX8_boys 237 = .ok (.iconst 0, 1) := by decide +kernel
theorem dX8_boys_238 : decode cX8_boys 238 = .ok (.iaload, 1) := by decide +kernel
theorem dX8_boys_239 : decode cX8_boys 239 = .ok (.ireturn, 1) := by decide +kernel
theorem dX8_lackOf_0 : decode cX8_lackOf 0 = .ok (.aload_n 0, 1) := by decide +kernel
theorem dX8_lackOf_1 : decode cX8_lackOf 1 = .ok (.iload_n 1, 1) := by decide +kernel
theorem dX8_lackOf_2 : decode cX8_lackOf 2 = .ok (.invokevirtual 142, 3) := by decide +kernel
theorem dX8_lackOf_5 : decode cX8_lackOf 5 = .ok (.ifCond .eq 18, 3) := by decide +kernel
theorem dX8_lackOf_8 : decode cX8_lackOf 8 = .ok (.bipush 99, 2) := by decide +kernel
theorem dX8_lackOf_10 : decode cX8_lackOf 10 = .ok (.aload_n 0, 1) := by decide +kernel
theorem dX8_lackOf_11 : decode cX8_lackOf 11 = .ok (.getfield 19, 3) := by decide +kernel
theorem dX8_lackOf_14 : decode cX8_lackOf 14 = .ok (.bipush 21, 2) := by decide +kernel
theorem dX8_lackOf_16 : decode cX8_lackOf 16 = .ok (.iload_n 1, 1) := by decide +kernel
theorem dX8_lackOf_17 : decode cX8_lackOf 17 = .ok (.iadd, 1) := by decide +kernel
theorem dX8_lackOf_18 : decode cX8_lackOf 18 = .ok (.iaload, 1) := by decide +kernel
theorem dX8_lackOf_19 : decode cX8_lackOf 19 = .ok (.isub, 1) := by decide +kernel
theorem dX8_lackOf_20 : decode cX8_lackOf 20 = .ok (.goto 4, 3) := by decide +kernel
theorem dX8_lackOf_23 : decode cX8_lackOf 23 = .ok (.iconst 0, 1) := by decide +kernel
theorem dX8_lackOf_24 : decode cX8_lackOf 24 = .ok (.ireturn, 1) := by decide +kernel
theorem dX8_string_0 : decode cX8_string 0 = .ok (.aload_n 0, 1) := by decide +kernel
theorem dX8_string_1 : decode cX8_string 1 = .ok (.iload_n 1, 1) := by decide +kernel
theorem dX8_string_2 : decode cX8_string 2 = .ok (.invokevirtual 175, 3) := by decide +kernel
theorem dX8_string_5 : decode cX8_string 5 = .ok (.ifCond .eq 15, 3) := by decide +kernel
theorem dX8_string_8 : decode cX8_string 8 = .ok (.iload_n 2, 1) := by decide +kernel
theorem dX8_string_9 : decode cX8_string 9 = .ok (.i2l, 1) := by decide +kernel
theorem dX8_string_10 : decode cX8_string 10 = .ok (.lconst 0, 1) := by decide +kernel
theorem dX8_string_11 : decode cX8_string 11 = .ok (.ldc2_w 228, 3) := by decide +kernel
theorem dX8_string_14 : decode cX8_string 14 = .ok (.invokestatic 57, 3) := by decide +kernel
theorem dX8_string_17 : decode cX8_string 17 = .ok (.ifCond .ne 6, 3) := by decide +kernel
theorem dX8_string_20 : decode cX8_string 20 = .ok (.ldc 67, 2) := by decide +kernel
theorem dX8_string_22 : decode cX8_string 22 = .ok (.ireturn, 1) := by decide +kernel
theorem dX8_string_23 : decode cX8_string 23 = .ok (.iconst 0, 1) := by decide +kernel
theorem dX8_string_24 : decode cX8_string 24 = .ok (.istore_n 3, 1) := by decide +kernel
theorem dX8_string_25 : decode cX8_string 25 = .ok (.iconst 0, 1) := by decide +kernel
theorem dX8_string_26 : decode cX8_string 26 = .ok (.istore 4, 2) := by decide +kernel
theorem dX8_string_28 : decode cX8_string 28 = .ok (.iload 4, 2) := by decide +kernel
theorem dX8_string_30 : decode cX8_string 30 = .ok (.aload_n 0, 1) := by decide +kernel
theorem dX8_string_31 : decode cX8_string 31 = .ok (.getfield 19, 3) := by decide +kernel
theorem dX8_string_34 : decode cX8_string 34 = .ok (.iconst 0, 1) := by decide +kernel
theorem dX8_string_35 : decode cX8_string 35 = .ok (.iaload, 1) := by decide +kernel
theorem dX8_string_36 : decode cX8_string 36 = .ok (.if_icmp .ge 18, 3) := by decide +kernel
theorem dX8_string_39 : decode cX8_string 39 = .ok (.iload_n 3, 1) := by decide +kernel
theorem dX8_string_40 : decode cX8_string 40 = .ok (.aload_n 0, 1) := by decide +kernel
theorem dX8_string_41 : decode cX8_string 41 = .ok (.iload 4, 2) := by decide +kernel
theorem dX8_string_43 : decode cX8_string 43 = .ok (.invokevirtual 230, 3) := by decide +kernel
theorem dX8_string_46 : decode cX8_string 46 = .ok (.iadd, 1) := by decide +kernel
theorem dX8_string_47 : decode cX8_string 47 = .ok (.istore_n 3, 1) := by decide +kernel
theorem dX8_string_48 : decode cX8_string 48 = .ok (.iinc 4 1, 3) := by decide +kernel
theorem dX8_string_51 : decode cX8_string 51 = .ok (.goto (-23), 3) := by decide +kernel
theorem dX8_string_54 : decode cX8_string 54 = .ok (.iload_n 3, 1) := by decide +kernel
theorem dX8_string_55 : decode cX8_string 55 = .ok (.ifCond .ne 5, 3) := by decide +kernel
theorem dX8_string_58 : decode cX8_string 58 = .ok (.iconst 0, 1) := by decide +kernel
theorem dX8_string_59 : decode cX8_string 59 = .ok (.ireturn, 1) := by decide +kernel
theorem dX8_string_60 : decode cX8_string 60 = .ok (.iload_n 2, 1) := by decide +kernel
theorem dX8_string_61 : decode cX8_string 61 = .ok (.istore 4, 2) := by decide +kernel
theorem dX8_string_63 : decode cX8_string 63 = .ok (.iconst 0, 1) := by decide +kernel
theorem dX8_string_64 : decode cX8_string 64 = .ok (.istore 5, 2) := by decide +kernel
theorem dX8_string_66 : decode cX8_string 66 = .ok (.iload 5, 2) := by decide +kernel
theorem dX8_string_68 : decode cX8_string 68 = .ok (.aload_n 0, 1) := by decide +kernel
theorem dX8_string_69 : decode cX8_string 69 = .ok (.getfield 19, 3) := by decide +kernel
theorem dX8_string_72 : decode cX8_string 72 = .ok (.iconst 0, 1) := by decide +kernel
theorem dX8_string_73 : decode cX8_string 73 = .ok (.iaload, 1) := by decide +kernel
theorem dX8_string_74 : decode cX8_string 74 = .ok (.if_icmp .ge 24, 3) := by decide +kernel
theorem dX8_string_77 : decode cX8_string 77 = .ok (.iload 4, 2) := by decide +kernel
theorem dX8_string_79 : decode cX8_string 79 = .ok (.iload_n 2, 1) := by decide +kernel
theorem dX8_string_80 : decode cX8_string 80 = .ok (.aload_n 0, 1) := by decide +kernel
theorem dX8_string_81 : decode cX8_string 81 = .ok (.iload 5, 2) := by decide +kernel
theorem dX8_string_83 : decode cX8_string 83 = .ok (.invokevirtual 230, 3) := by decide +kernel
theorem dX8_string_86 : decode cX8_string 86 = .ok (.imul, 1) := by decide +kernel
theorem dX8_string_87 : decode cX8_string 87 = .ok (.iload_n 3, 1) := by decide +kernel
theorem dX8_string_88 : decode cX8_string 88 = .ok (.idiv, 1) := by decide +kernel
theorem dX8_string_89 : decode cX8_string 89 = .ok (.isub, 1) := by decide +kernel
theorem dX8_string_90 : decode cX8_string 90 = .ok (.istore 4, 2) := by decide +kernel
theorem dX8_string_92 : decode cX8_string 92 = .ok (.iinc 5 1, 3) := by decide +kernel
theorem dX8_string_95 : decode cX8_string 95 = .ok (.goto (-29), 3) := by decide +kernel
theorem dX8_string_98 : decode cX8_string 98 = .ok (.iconst 0, 1) := by decide +kernel
theorem dX8_string_99 : decode cX8_string 99 = .ok (.istore 5, 2) := by decide +kernel
theorem dX8_string_101 : decode cX8_string 101 = .ok (.iconst 0, 1) := by decide +kernel
theorem dX8_string_102 : decode cX8_string 102 = .ok (.istore 6, 2) := by decide +kernel
theorem dX8_string_104 : decode cX8_string 104 = .ok (.iload 6, 2) := by decide +kernel
theorem dX8_string_106 : decode cX8_string 106 = .ok (.iload_n 1, 1) := by decide +kernel
theorem dX8_string_107 : decode cX8_string 107 = .ok (.if_icmp .ge 28, 3) := by decide +kernel
theorem dX8_string_110 : decode cX8_string 110 = .ok (.iload 5, 2) := by decide +kernel
theorem dX8_string_112 : decode cX8_string 112 = .ok (.aload_n 0, 1) := by decide +kernel
theorem dX8_string_113 : decode cX8_string 113 = .ok (.iload 6, 2) := by decide +kernel
theorem dX8_string_115 : decode cX8_string 115 = .ok (.invokevirtual 230, 3) := by decide +kernel
theorem dX8_string_118 : decode cX8_string 118 = .ok (.ifCond .le 7, 3) := by decide +kernel
theorem dX8_string_121 : decode cX8_string 121 = .ok (.iconst 1, 1) := by decide +kernel
theorem dX8_string_122 : decode cX8_string 122 = .ok (.goto 4, 3) := by decide +kernel
theorem dX8_string_125 : decode cX8_string 125 = .ok (.iconst 0, 1) := by decide +kernel
theorem dX8_string_126 : decode cX8_string 126 = .ok (.iadd, 1) := by decide +kernel
theorem dX8_string_127 : decode cX8_string 127 = .ok (.istore 5, 2) := by decide +kernel
theorem dX8_string_129 : decode cX8_string 129 = .ok (.iinc 6 1, 3) := by decide +kernel
theorem dX8_string_132 : decode cX8_string 132 = .ok (.goto (-28), 3) := by decide +kernel
theorem dX8_string_135 : decode cX8_string 135 = .ok (.iload_n 2, 1) := by decide +kernel
theorem dX8_string_136 : decode cX8_string 136 = .ok (.aload_n 0, 1) := by decide +kernel
theorem dX8_string_137 : decode cX8_string 137 = .ok (.iload_n 1, 1) := by decide +kernel
theorem dX8_string_138 : decode cX8_string 138 = .ok (.invokevirtual 230, 3) := by decide +kernel
theorem dX8_string_141 : decode cX8_string 141 = .ok (.imul, 1) := by decide +kernel
theorem dX8_string_142 : decode cX8_string 142 = .ok (.iload_n 3, 1) := by decide +kernel
theorem dX8_string_143 : decode cX8_string 143 = .ok (.idiv, 1) := by decide +kernel
theorem dX8_string_144 : decode cX8_string 144 = .ok (.aload_n 0, 1) := by decide +kernel
theorem dX8_string_145 : decode cX8_string 145 = .ok (.iload_n 1, 1) := by decide +kernel
theorem dX8_string_146 : decode cX8_string 146 = .ok (.invokevirtual 230, 3) := by decide +kernel
theorem dX8_string_149 : decode cX8_string 149 = .ok (.ifCond .le 14, 3) := by decide +kernel
theorem dX8_string_152 : decode cX8_string 152 = .ok (.iload 5, 2) := by decide +kernel
theorem dX8_string_154 : decode cX8_string 154 = .ok (.iload 4, 2) := by decide +kernel
theorem dX8_string_156 : decode cX8_string 156 = .ok (.if_icmp .ge 7, 3) := by decide +kernel
theorem dX8_string_159 : decode cX8_string 159 = .ok (.iconst 1, 1) := by decide +kernel
theorem dX8_string_160 : decode cX8_string 160 = .ok (.goto 4, 3) := by decide +kernel
theorem dX8_string_163 : decode cX8_string 163 = .ok (.iconst 0, 1) := by decide +kernel
theorem dX8_string_164 : decode cX8_string 164 = .ok (.iadd, 1) := by decide +kernel
theorem dX8_string_165 : decode cX8_string 165 = .ok (.ireturn, 1) := by decide +kernel
theorem dX8_lacks_0 : decode cX8_lacks 0 = .ok (.aload_n 0, 1) := by decide +kernel
theorem dX8_lacks_1 : decode cX8_lacks 1 = .ok (.getfield 13, 3) := by decide +kernel
theorem dX8_lacks_4 : decode cX8_lacks 4 = .ok (.iload_n 1, 1) := by decide +kernel
theorem dX8_lacks_5 : decode cX8_lacks 5 = .ok (.iaload, 1) := by decide +kernel
theorem dX8_lacks_6 : decode cX8_lacks 6 = .ok (.ifCond .ge 9, 3) := by decide +kernel
theorem dX8_lacks_9 : decode cX8_lacks 9 = .ok (.aload_n 0, 1) := by decide +kernel
theorem dX8_lacks_10 : decode cX8_lacks 10 = .ok (.iconst 1, 1) := by decide +kernel
theorem dX8_lacks_11 : decode cX8_lacks 11 = .ok (.invokevirtual 68, 3) := by decide +kernel
theorem dX8_lacks_14 : decode cX8_lacks 14 = .ok (.ireturn, 1) := by decide +kernel
theorem dX8_lacks_15 : decode cX8_lacks 15 = .ok (.iload_n 2, 1) := by decide +kernel
theorem dX8_lacks_16 : decode cX8_lacks 16 = .ok (.i2l, 1) := by decide +kernel
theorem dX8_lacks_17 : decode cX8_lacks 17 = .ok (.lconst 0, 1) := by decide +kernel
theorem dX8_lacks_18 : decode cX8_lacks 18 = .ok (.aload_n 0, 1) := by decide +kernel
theorem dX8_lacks_19 : decode cX8_lacks 19 = .ok (.getfield 13, 3) := by decide +kernel
theorem dX8_lacks_22 : decode cX8_lacks 22 = .ok (.iload_n 1, 1) := by decide +kernel
theorem dX8_lacks_23 : decode cX8_lacks 23 = .ok (.iaload, 1) := by decide +kernel
theorem dX8_lacks_24 : decode cX8_lacks 24 = .ok (.iload_n 3, 1) := by decide +kernel
theorem dX8_lacks_25 : decode cX8_lacks 25 = .ok (.isub, 1) := by decide +kernel
theorem dX8_lacks_26 : decode cX8_lacks 26 = .ok (.i2l, 1) := by decide +kernel
theorem dX8_lacks_27 : decode cX8_lacks 27 = .ok (.invokestatic 57, 3) := by decide +kernel
theorem dX8_lacks_30 : decode cX8_lacks 30 = .ok (.ifCond .eq 7, 3) := by decide +kernel
theorem dX8_lacks_33 : decode cX8_lacks 33 = .ok (.iconst 0, 1) := by decide +kernel
theorem dX8_lacks_34 : decode cX8_lacks 34 = .ok (.goto 8, 3) := by decide +kernel
theorem dX8_lacks_37 : decode cX8_lacks 37 = .ok (.aload_n 0, 1) := by decide +kernel
theorem dX8_lacks_38 : decode cX8_lacks 38 = .ok (.iconst 2, 1) := by decide +kernel
theorem dX8_lacks_39 : decode cX8_lacks 39 = .ok (.invokevirtual 68, 3) := by decide +kernel
theorem dX8_lacks_42 : decode cX8_lacks 42 = .ok (.ireturn, 1) := by decide +kernel
theorem dX8_isSo_0 : decode cX8_isSo 0 = .ok (.iconst 1, 1) := by decide +kernel
theorem dX8_isSo_1 : decode cX8_isSo 1 = .ok (.istore 4, 2) := by decide +kernel
theorem dX8_isSo_3 : decode cX8_isSo 3 = .ok (.iconst 0, 1) := by decide +kernel
theorem dX8_isSo_4 : decode cX8_isSo 4 = .ok (.istore 5, 2) := by decide +kernel
theorem dX8_isSo_6 : decode cX8_isSo 6 = .ok (.iload 5, 2) := by decide +kernel
theorem dX8_isSo_8 : decode cX8_isSo 8 = .ok (.iload_n 3, 1) := by decide +kernel
theorem dX8_isSo_9 : decode cX8_isSo 9 = .ok (.if_icmp .ge 46, 3) := by decide +kernel
theorem dX8_isSo_12 : decode cX8_isSo 12 = .ok (.aload_n 0, 1) := by decide +kernel
theorem dX8_isSo_13 : decode cX8_isSo 13 = .ok (.invokevirtual 172, 3) := by decide +kernel
theorem dX8_isSo_16 : decode cX8_isSo 16 = .ok (.iload 4, 2) := by decide +kernel
theorem dX8_isSo_18 : decode cX8_isSo 18 = .ok (.ifCond .eq 28, 3) := by decide +kernel
theorem dX8_isSo_21 : decode cX8_isSo 21 = .ok (.aload_n 0, 1) := by decide +kernel
theorem dX8_isSo_22 : decode cX8_isSo 22 = .ok (.getfield 16, 3) := by decide +kernel
theorem dX8_isSo_25 : decode cX8_isSo 25 = .ok (.iload_n 2, 1) := by decide +kernel
theorem dX8_isSo_26 : decode cX8_isSo 26 = .ok (.iload 5, 2) := by decide +kernel
theorem dX8_isSo_28 : decode cX8_isSo 28 = .ok (.iadd, 1) := by decide +kernel
theorem dX8_isSo_29 : decode cX8_isSo 29 = .ok (.iaload, 1) := by decide +kernel
theorem dX8_isSo_30 : decode cX8_isSo 30 = .ok (.aload_n 0, 1) := by decide +kernel
theorem dX8_isSo_31 : decode cX8_isSo 31 = .ok (.getfield 19, 3) := by decide +kernel
theorem dX8_isSo_34 : decode cX8_isSo 34 = .ok (.bipush 21, 2) := by decide +kernel
theorem dX8_isSo_36 : decode cX8_isSo 36 = .ok (.iload_n 1, 1) := by decide +kernel
theorem dX8_isSo_37 : decode cX8_isSo 37 = .ok (.iadd, 1) := by decide +kernel
theorem dX8_isSo_38 : decode cX8_isSo 38 = .ok (.iaload, 1) := by decide +kernel
theorem dX8_isSo_39 : decode cX8_isSo 39 = .ok (.if_icmp .ne 7, 3) := by decide +kernel
theorem dX8_isSo_42 : decode cX8_isSo 42 = .ok (.iconst 1, 1) := by decide +kernel
theorem dX8_isSo_43 : decode cX8_isSo 43 = .ok (.goto 4, 3) := by decide +kernel
theorem dX8_isSo_46 : decode cX8_isSo 46 = .ok (.iconst 0, 1) := by decide +kernel
theorem dX8_isSo_47 : decode cX8_isSo 47 = .ok (.istore 4, 2) := by decide +kernel
theorem dX8_isSo_49 : decode cX8_isSo 49 = .ok (.iinc 5 1, 3) := by decide +kernel
theorem dX8_isSo_52 : decode cX8_isSo 52 = .ok (.goto (-46), 3) := by decide +kernel
theorem dX8_isSo_55 : decode cX8_isSo 55 = .ok (.aload_n 0, 1) := by decide +kernel
theorem dX8_isSo_56 : decode cX8_isSo 56 = .ok (.invokevirtual 191, 3) := by decide +kernel
theorem dX8_isSo_59 : decode cX8_isSo 59 = .ok (.iload 4, 2) := by decide +kernel
theorem dX8_isSo_61 : decode cX8_isSo 61 = .ok (.ireturn, 1) := by decide +kernel
theorem dX8_spinsBy_0 : decode cX8_spinsBy 0 = .ok (.iconst 0, 1) := by decide +kernel
theorem dX8_spinsBy_1 : decode cX8_spinsBy 1 = .ok (.istore 5, 2) := by decide +kernel
theorem dX8_spinsBy_3 : decode cX8_spinsBy 3 = .ok (.ldc 202, 2) := by decide +kernel
theorem dX8_spinsBy_5 : decode cX8_spinsBy 5 = .ok (.istore 6, 2) := by decide +kernel
theorem dX8_spinsBy_7 : decode cX8_spinsBy 7 = .ok (.ldc 202, 2) := by decide +kernel
theorem dX8_spinsBy_9 : decode cX8_spinsBy 9 = .ok (.istore 7, 2) := by decide +kernel
theorem dX8_spinsBy_11 : decode cX8_spinsBy 11 = .ok (.iconst 0, 1) := by decide +kernel
theorem dX8_spinsBy_12 : decode cX8_spinsBy 12 = .ok (.istore 8, 2) := by decide +kernel
theorem dX8_spinsBy_14 : decode cX8_spinsBy 14 = .ok (.iload 8, 2) := by decide +kernel
theorem dX8_spinsBy_16 : decode cX8_spinsBy 16 = .ok (.bipush 99, 2) := by decide +kernel
theorem dX8_spinsBy_18 : decode cX8_spinsBy 18 = .ok (.if_icmp .gt 52, 3) := by decide +kernel
theorem dX8_spinsBy_21 : decode cX8_spinsBy 21 = .ok (.aload_n 0, 1) := by decide +kernel
theorem dX8_spinsBy_22 : decode cX8_spinsBy 22 = .ok (.getfield 19, 3) := by decide +kernel
theorem dX8_spinsBy_25 : decode cX8_spinsBy 25 = .ok (.bipush 21, 2) := by decide +kernel
theorem dX8_spinsBy_27 : decode cX8_spinsBy 27 = .ok (.iload_n 1, 1) := by decide +kernel
theorem dX8_spinsBy_28 : decode cX8_spinsBy 28 = .ok (.iadd, 1) := by decide +kernel
theorem dX8_spinsBy_29 : decode cX8_spinsBy 29 = .ok (.iload 8, 2) := by decide +kernel
theorem dX8_spinsBy_31 : decode cX8_spinsBy 31 = .ok (.iastore, 1) := by decide +kernel
theorem dX8_spinsBy_32 : decode cX8_spinsBy 32 = .ok (.aload_n 0, 1) := by decide +kernel
theorem dX8_spinsBy_33 : decode cX8_spinsBy 33 = .ok (.iload_n 1, 1) := by decide +kernel
theorem dX8_spinsBy_34 : decode cX8_spinsBy 34 = .ok (.iload_n 3, 1) := by decide +kernel
theorem dX8_spinsBy_35 : decode cX8_spinsBy 35 = .ok (.iload 4, 2) := by decide +kernel
theorem dX8_spinsBy_37 : decode cX8_spinsBy 37 = .ok (.invokevirtual 233, 3) := by decide +kernel
theorem dX8_spinsBy_40 : decode cX8_spinsBy 40 = .ok (.ifCond .eq 24, 3) := by decide +kernel
theorem dX8_spinsBy_43 : decode cX8_spinsBy 43 = .ok (.iinc 5 1, 3) := by decide +kernel
theorem dX8_spinsBy_46 : decode cX8_spinsBy 46 = .ok (.iload 6, 2) := by decide +kernel
theorem dX8_spinsBy_48 : decode cX8_spinsBy 48 = .ok (.ifCond .ge 8, 3) := by decide +kernel
theorem dX8_spinsBy_51 : decode cX8_spinsBy 51 = .ok (.iload 8, 2) := by decide +kernel
theorem dX8_spinsBy_53 : decode cX8_spinsBy 53 = .ok (.goto 5, 3) := by decide +kernel
theorem dX8_spinsBy_56 : decode cX8_spinsBy 56 = .ok (.iload 6, 2) := by decide +kernel
theorem dX8_spinsBy_58 : decode cX8_spinsBy 58 = .ok (.istore 6, 2) := by decide +kernel
theorem dX8_spinsBy_60 : decode cX8_spinsBy 60 = .ok (.iload 8, 2) := by decide +kernel
theorem dX8_spinsBy_62 : decode cX8_spinsBy 62 = .ok (.istore 7, 2) := by decide +kernel
theorem dX8_spinsBy_64 : decode cX8_spinsBy 64 = .ok (.iinc 8 1, 3) := by decide +kernel
theorem dX8_spinsBy_67 : decode cX8_spinsBy 67 = .ok (.goto (-53), 3) := by decide +kernel
theorem dX8_spinsBy_70 : decode cX8_spinsBy 70 = .ok (.aload_n 0, 1) := by decide +kernel
theorem dX8_spinsBy_71 : decode cX8_spinsBy 71 = .ok (.iload_n 2, 1) := by decide +kernel
theorem dX8_spinsBy_72 : decode cX8_spinsBy 72 = .ok (.iconst 2, 1) := by decide +kernel
theorem dX8_spinsBy_73 : decode cX8_spinsBy 73 = .ok (.if_icmp .ne 8, 3) := by decide +kernel
theorem dX8_spinsBy_76 : decode cX8_spinsBy 76 = .ok (.iload 5, 2) := by decide +kernel
theorem dX8_spinsBy_78 : decode cX8_spinsBy 78 = .ok (.goto 15, 3) := by decide +kernel
theorem dX8_spinsBy_81 : decode cX8_spinsBy 81 = .ok (.iload_n 2, 1) := by decide +kernel
theorem dX8_spinsBy_82 : decode cX8_spinsBy 82 = .ok (.iconst 3, 1) := by decide +kernel
theorem dX8_spinsBy_83 : decode cX8_spinsBy 83 = .ok (.if_icmp .ne 8, 3) := by decide +kernel
theorem dX8_spinsBy_86 : decode cX8_spinsBy 86 = .ok (.iload 6, 2) := by decide +kernel
theorem dX8_spinsBy_88 : decode cX8_spinsBy 88 = .ok (.goto 5, 3) := by decide +kernel
theorem dX8_spinsBy_91 : decode cX8_spinsBy 91 = .ok (.iload 7, 2) := by decide +kernel
theorem dX8_spinsBy_93 : decode cX8_spinsBy 93 = .ok (.invokevirtual 72, 3) := by decide +kernel
theorem dX8_spinsBy_96 : decode cX8_spinsBy 96 = .ok (.ireturn, 1) := by decide +kernel
theorem dX8_who_0 : decode cX8_who 0 = .ok (.aload_n 0, 1) := by decide +kernel
theorem dX8_who_1 : decode cX8_who 1 = .ok (.iload_n 1, 1) := by decide +kernel
theorem dX8_who_2 : decode cX8_who 2 = .ok (.invokevirtual 175, 3) := by decide +kernel
theorem dX8_who_5 : decode cX8_who 5 = .ok (.ifCond .eq 35, 3) := by decide +kernel
theorem dX8_who_8 : decode cX8_who 8 = .ok (.iload_n 2, 1) := by decide +kernel
theorem dX8_who_9 : decode cX8_who 9 = .ok (.i2l, 1) := by decide +kernel
theorem dX8_who_10 : decode cX8_who 10 = .ok (.lconst 0, 1) := by decide +kernel
theorem dX8_who_11 : decode cX8_who 11 = .ok (.ldc2_w 221, 3) := by decide +kernel
theorem dX8_who_14 : decode cX8_who 14 = .ok (.invokestatic 57, 3) := by decide +kernel
theorem dX8_who_17 : decode cX8_who 17 = .ok (.ifCond .eq 23, 3) := by decide +kernel
theorem dX8_who_20 : decode cX8_who 20 = .ok (.iload_n 3, 1) := by decide +kernel
theorem dX8_who_21 : decode cX8_who 21 = .ok (.invokestatic 61, 3) := by decide +kernel
theorem dX8_who_24 : decode cX8_who 24 = .ok (.ifCond .eq 16, 3) := by decide +kernel
theorem dX8_who_27 : decode cX8_who 27 = .ok (.iload 5, 2) := by decide +kernel
theorem dX8_who_29 : decode cX8_who 29 = .ok (.i2l, 1) := by decide +kernel
theorem dX8_who_30 : decode cX8_who 30 = .ok (.lconst 1, 1) := by decide +kernel
theorem dX8_who_31 : decode cX8_who 31 = .ok (.ldc2_w 237, 3) := by decide +kernel
theorem dX8_who_34 : decode cX8_who 34 = .ok (.invokestatic 57, 3) := by decide +kernel
theorem dX8_who_37 : decode cX8_who 37 = .ok (.ifCond .ne 8, 3) := by decide +kernel
theorem dX8_who_40 : decode cX8_who 40 = .ok (.ldc 67, 2) := by decide +kernel
theorem dX8_who_42 : decode cX8_who 42 = .ok (.goto 12, 3) := by decide +kernel
theorem dX8_who_45 : decode cX8_who 45 = .ok (.aload_n 0, 1) := by decide +kernel
theorem dX8_who_46 : decode cX8_who 46 = .ok (.iload_n 3, 1) := by decide +kernel
theorem dX8_who_47 : decode cX8_who 47 = .ok (.iload 4, 2) := by decide +kernel
theorem dX8_who_49 : decode cX8_who 49 = .ok (.iload 5, 2) := by decide +kernel
theorem dX8_who_51 : decode cX8_who 51 = .ok (.invokevirtual 239, 3) := by decide +kernel
theorem dX8_who_54 : decode cX8_who 54 = .ok (.istore 6, 2) := by decide +kernel
theorem dX8_who_56 : decode cX8_who 56 = .ok (.iload 6, 2) := by decide +kernel
theorem dX8_who_58 : decode cX8_who 58 = .ok (.ifCond .ge 6, 3) := by decide +kernel
theorem dX8_who_61 : decode cX8_who 61 = .ok (.iload 6, 2) := by decide +kernel
theorem dX8_who_63 : decode cX8_who 63 = .ok (.ireturn, 1) := by decide +kernel
theorem dX8_who_64 : decode cX8_who 64 = .ok (.aload_n 0, 1) := by decide +kernel
theorem dX8_who_65 : decode cX8_who 65 = .ok (.invokevirtual 196, 3) := by decide +kernel
theorem dX8_who_68 : decode cX8_who 68 = .ok (.iload_n 2, 1) := by decide +kernel
theorem dX8_who_69 : decode cX8_who 69 = .ok (.iconst 1, 1) := by decide +kernel
theorem dX8_who_70 : decode cX8_who 70 = .ok (.if_icmp .le 19, 3) := by decide +kernel
theorem dX8_who_73 : decode cX8_who 73 = .ok (.aload_n 0, 1) := by decide +kernel
theorem dX8_who_74 : decode cX8_who 74 = .ok (.iload_n 1, 1) := by decide +kernel
theorem dX8_who_75 : decode cX8_who 75 = .ok (.iload_n 2, 1) := by decide +kernel
theorem dX8_who_76 : decode cX8_who 76 = .ok (.bipush 40, 2) := by decide +kernel
theorem dX8_who_78 : decode cX8_who 78 = .ok (.iload_n 3, 1) := by decide +kernel
theorem dX8_who_79 : decode cX8_who 79 = .ok (.imul, 1) := by decide +kernel
theorem dX8_who_80 : decode cX8_who 80 = .ok (.iload 4, 2) := by decide +kernel
theorem dX8_who_82 : decode cX8_who 82 = .ok (.iadd, 1) := by decide +kernel
theorem dX8_who_83 : decode cX8_who 83 = .ok (.iload 5, 2) := by decide +kernel
theorem dX8_who_85 : decode cX8_who 85 = .ok (.invokevirtual 243, 3) := by decide +kernel
theorem dX8_who_88 : decode cX8_who 88 = .ok (.ireturn, 1) := by decide +kernel
theorem dX8_who_89 : decode cX8_who 89 = .ok (.iload_n 2, 1) := by decide +kernel
theorem dX8_who_90 : decode cX8_who 90 = .ok (.ifCond .ne 9, 3) := by decide +kernel
theorem dX8_who_93 : decode cX8_who 93 = .ok (.iconst 5, 1) := by decide +kernel
theorem dX8_who_94 : decode cX8_who 94 = .ok (.iload_n 1, 1) := by decide +kernel
theorem dX8_who_95 : decode cX8_who 95 = .ok (.iadd, 1) := by decide +kernel
theorem dX8_who_96 : decode cX8_who 96 = .ok (.goto 7, 3) := by decide +kernel
theorem dX8_who_99 : decode cX8_who 99 = .ok (.bipush 13, 2) := by decide +kernel
theorem dX8_who_101 : decode cX8_who 101 = .ok (.iload_n 1, 1) := by decide +kernel
theorem dX8_who_102 : decode cX8_who 102 = .ok (.iadd, 1) := by decide +kernel
theorem dX8_who_103 : decode cX8_who 103 = .ok (.istore 7, 2) := by decide +kernel
theorem dX8_who_105 : decode cX8_who 105 = .ok (.iconst 0, 1) := by decide +kernel
theorem dX8_who_106 : decode cX8_who 106 = .ok (.istore 8, 2) := by decide +kernel
theorem dX8_who_108 : decode cX8_who 108 = .ok (.iconst 1, 1) := by decide +kernel
theorem dX8_who_109 : decode cX8_who 109 = .ok (.istore 9, 2) := by decide +kernel
theorem dX8_who_111 : decode cX8_who 111 = .ok (.iload 9, 2) := by decide +kernel
theorem dX8_who_113 : decode cX8_who 113 = .ok (.iload_n 2, 1) := by decide +kernel
theorem dX8_who_114 : decode cX8_who 114 = .ok (.ifCond .ne 7, 3) := by decide +kernel
theorem dX8_who_117 : decode cX8_who 117 = .ok (.iconst 5, 1) := by decide +kernel
theorem dX8_who_118 : decode cX8_who 118 = .ok (.goto 5, 3) := by decide +kernel
theorem dX8_who_121 : decode cX8_who 121 = .ok (.bipush 9, 2) := by decide +kernel
theorem dX8_who_123 : decode cX8_who 123 = .ok (.if_icmp .gt 48, 3) := by decide +kernel
theorem dX8_who_126 : decode cX8_who 126 = .ok (.aload_n 0, 1) := by decide +kernel
theorem dX8_who_127 : decode cX8_who 127 = .ok (.getfield 19, 3) := by decide +kernel
theorem dX8_who_130 : decode cX8_who 130 = .ok (.iload 7, 2) := by decide +kernel
theorem dX8_who_132 : decode cX8_who 132 = .ok (.iload 9, 2) := by decide +kernel
theorem dX8_who_134 : decode cX8_who 134 = .ok (.iastore, 1) := by decide +kernel
theorem dX8_who_135 : decode cX8_who 135 = .ok (.iload 8, 2) := by decide +kernel
theorem dX8_who_137 : decode cX8_who 137 = .ok (.aload_n 0, 1) := by decide +kernel
theorem dX8_who_138 : decode cX8_who 138 = .ok (.iload_n 1, 1) := by decide +kernel
theorem dX8_who_139 : decode cX8_who 139 = .ok (.bipush 40, 2) := by decide +kernel
theorem dX8_who_141 : decode cX8_who 141 = .ok (.iload_n 3, 1) := by decide +kernel
theorem dX8_who_142 : decode cX8_who 142 = .ok (.imul, 1) := by decide +kernel
theorem dX8_who_143 : decode cX8_who 143 = .ok (.iload 4, 2) := by decide +kernel
theorem dX8_who_145 : decode cX8_who 145 = .ok (.iadd, 1) := by decide +kernel
theorem dX8_who_146 : decode cX8_who 146 = .ok (.iload 5, 2) := by decide +kernel
theorem dX8_who_148 : decode cX8_who 148 = .ok (.invokevirtual 233, 3) := by decide +kernel
theorem dX8_who_151 : decode cX8_who 151 = .ok (.ifCond .eq 10, 3) := by decide +kernel
theorem dX8_who_154 : decode cX8_who 154 = .ok (.iconst 1, 1) := by decide +kernel
theorem dX8_who_155 : decode cX8_who 155 = .ok (.iload 9, 2) := by decide +kernel
theorem dX8_who_157 : decode cX8_who 157 = .ok (.ishl, 1) := by decide +kernel
theorem dX8_who_158 : decode cX8_who 158 = .ok (.goto 4, 3) := by decide +kernel
theorem dX8_who_161 : decode cX8_who 161 = .ok (.iconst 0, 1) := by decide +kernel
theorem dX8_who_162 : decode cX8_who 162 = .ok (.ior, 1) := by decide +kernel
theorem dX8_who_163 : decode cX8_who 163 = .ok (.istore 8, 2) := by decide +kernel
theorem dX8_who_165 : decode cX8_who 165 = .ok (.iinc 9 1, 3) := by decide +kernel
theorem dX8_who_168 : decode cX8_who 168 = .ok (.goto (-57), 3) := by decide +kernel
theorem dX8_who_171 : decode cX8_who 171 = .ok (.aload_n 0, 1) := by decide +kernel
theorem dX8_who_172 : decode cX8_who 172 = .ok (.iload 8, 2) := by decide +kernel
theorem dX8_who_174 : decode cX8_who 174 = .ok (.invokevirtual 72, 3) := by decide +kernel
theorem dX8_who_177 : decode cX8_who 177 = .ok (.ireturn, 1) := by decide +kernel
theorem dX8_finger_0 : decode cX8_finger 0 = .ok (.aload_n 0, 1) := by decide +kernel
theorem dX8_finger_1 : decode cX8_finger 1 = .ok (.iload_n 1, 1) := by decide +kernel
theorem dX8_finger_2 : decode cX8_finger 2 = .ok (.invokevirtual 175, 3) := by decide +kernel
theorem dX8_finger_5 : decode cX8_finger 5 = .ok (.ifCond .eq 23, 3) := by decide +kernel
theorem dX8_finger_8 : decode cX8_finger 8 = .ok (.iload_n 2, 1) := by decide +kernel
theorem dX8_finger_9 : decode cX8_finger 9 = .ok (.invokestatic 61, 3) := by decide +kernel
theorem dX8_finger_12 : decode cX8_finger 12 = .ok (.ifCond .eq 16, 3) := by decide +kernel
theorem dX8_finger_15 : decode cX8_finger 15 = .ok (.iload 4, 2) := by decide +kernel
theorem dX8_finger_17 : decode cX8_finger 17 = .ok (.i2l, 1) := by decide +kernel
theorem dX8_finger_18 : decode cX8_finger 18 = .ok (.lconst 1, 1) := by decide +kernel
theorem dX8_finger_19 : decode cX8_finger 19 = .ok (.ldc2_w 237, 3) := by decide +kernel
theorem dX8_finger_22 : decode cX8_finger 22 = .ok (.invokestatic 57, 3) := by decide +kernel
theorem dX8_finger_25 : decode cX8_finger 25 = .ok (.ifCond .ne 8, 3) := by decide +kernel
theorem dX8_finger_28 : decode cX8_finger 28 = .ok (.ldc 67, 2) := by decide +kernel
theorem dX8_finger_30 : decode cX8_finger 30 = .ok (.goto 11, 3) := by decide +kernel
theorem dX8_finger_33 : decode cX8_finger 33 = .ok (.aload_n 0, 1) := by decide +kernel
theorem dX8_finger_34 : decode cX8_finger 34 = .ok (.iload_n 2, 1) := by decide +kernel
theorem dX8_finger_35 : decode cX8_finger 35 = .ok (.iload_n 3, 1) := by decide +kernel
theorem dX8_finger_36 : decode cX8_finger 36 = .ok (.iload 4, 2) := by decide +kernel
theorem dX8_finger_38 : decode cX8_finger 38 = .ok (.invokevirtual 239, 3) := by decide +kernel
theorem dX8_finger_41 : decode cX8_finger 41 = .ok (.istore 5, 2) := by decide +kernel
theorem dX8_finger_43 : decode cX8_finger 43 = .ok (.iload 5, 2) := by decide +kernel
theorem dX8_finger_45 : decode cX8_finger 45 = .ok (.ifCond .ge 6, 3) := by decide +kernel
theorem dX8_finger_48 : decode cX8_finger 48 = .ok (.iload 5, 2) := by decide +kernel
theorem dX8_finger_50 : decode cX8_finger 50 = .ok (.ireturn, 1) := by decide +kernel
theorem dX8_finger_51 : decode cX8_finger 51 = .ok (.aload_n 0, 1) := by decide +kernel
theorem dX8_finger_52 : decode cX8_finger 52 = .ok (.invokevirtual 196, 3) := by decide +kernel
theorem dX8_finger_55 : decode cX8_finger 55 = .ok (.aload_n 0, 1) := by decide +kernel
theorem dX8_finger_56 : decode cX8_finger 56 = .ok (.iload_n 1, 1) := by decide +kernel
theorem dX8_finger_57 : decode cX8_finger 57 = .ok (.bipush 40, 2) := by decide +kernel
theorem dX8_finger_59 : decode cX8_finger 59 = .ok (.iload_n 2, 1) := by decide +kernel
theorem dX8_finger_60 : decode cX8_finger 60 = .ok (.imul, 1) := by decide +kernel
theorem dX8_finger_61 : decode cX8_finger 61 = .ok (.iload_n 3, 1) := by decide +kernel
theorem dX8_finger_62 : decode cX8_finger 62 = .ok (.iadd, 1) := by decide +kernel
theorem dX8_finger_63 : decode cX8_finger 63 = .ok (.iload 4, 2) := by decide +kernel
theorem dX8_finger_65 : decode cX8_finger 65 = .ok (.invokevirtual 233, 3) := by decide +kernel
theorem dX8_finger_68 : decode cX8_finger 68 = .ok (.ifCond .eq 9, 3) := by decide +kernel
theorem dX8_finger_71 : decode cX8_finger 71 = .ok (.sipush 256, 3) := by decide +kernel
theorem dX8_finger_74 : decode cX8_finger 74 = .ok (.goto 4, 3) := by decide +kernel
theorem dX8_finger_77 : decode cX8_finger 77 = .ok (.iconst 0, 1) := by decide +kernel
theorem dX8_finger_78 : decode cX8_finger 78 = .ok (.istore 6, 2) := by decide +kernel
theorem dX8_finger_80 : decode cX8_finger 80 = .ok (.iconst 0, 1) := by decide +kernel
theorem dX8_finger_81 : decode cX8_finger 81 = .ok (.istore 7, 2) := by decide +kernel
theorem dX8_finger_83 : decode cX8_finger 83 = .ok (.iload 7, 2) := by decide +kernel
theorem dX8_finger_85 : decode cX8_finger 85 = .ok (.aload_n 0, 1) := by decide +kernel
theorem dX8_finger_86 : decode cX8_finger 86 = .ok (.getfield 19, 3) := by decide +kernel
theorem dX8_finger_89 : decode cX8_finger 89 = .ok (.iconst 0, 1) := by decide +kernel
theorem dX8_finger_90 : decode cX8_finger 90 = .ok (.iaload, 1) := by decide +kernel
theorem dX8_finger_91 : decode cX8_finger 91 = .ok (.if_icmp .ge 61, 3) := by decide +kernel
theorem dX8_finger_94 : decode cX8_finger 94 = .ok (.aload_n 0, 1) := by decide +kernel
theorem dX8_finger_95 : decode cX8_finger 95 = .ok (.iload 7, 2) := by decide +kernel
theorem dX8_finger_97 : decode cX8_finger 97 = .ok (.invokevirtual 142, 3) := by decide +kernel
theorem dX8_finger_100 : decode cX8_finger 100 = .ok (.ifCond .eq 46, 3) := by decide +kernel
theorem dX8_finger_103 : decode cX8_finger 103 = .ok (.aload_n 0, 1) := by decide +kernel
theorem dX8_finger_104 : decode cX8_finger 104 = .ok (.getfield 19, 3) := by decide +kernel
theorem dX8_finger_107 : decode cX8_finger 107 = .ok (.bipush 21, 2) := by decide +kernel
theorem dX8_finger_109 : decode cX8_finger 109 = .ok (.iload 7, 2) := by decide +kernel
theorem dX8_finger_111 : decode cX8_finger 111 = .ok (.iadd, 1) := by decide +kernel
theorem dX8_finger_112 : decode cX8_finger 112 = .ok (.dup2, 1) := by decide +kernel
theorem dX8_finger_113 : decode cX8_finger 113 = .ok (.iaload, 1) := by decide +kernel
theorem dX8_finger_114 : decode cX8_finger 114 = .ok (.iconst 2, 1) := by decide +kernel
theorem dX8_finger_115 : decode cX8_finger 115 = .ok (.idiv, 1) := by decide +kernel
theorem dX8_finger_116 : decode cX8_finger 116 = .ok (.iastore, 1) := by decide +kernel
theorem dX8_finger_117 : decode cX8_finger 117 = .ok (.iload 6, 2) := by decide +kernel
theorem dX8_finger_119 : decode cX8_finger 119 = .ok (.aload_n 0, 1) := by decide +kernel
theorem dX8_finger_120 : decode cX8_finger 120 = .ok (.iload_n 1, 1) := by decide +kernel
theorem dX8_finger_121 : decode cX8_finger 121 = .ok (.bipush 40, 2) := by decide +kernel
theorem dX8_finger_123 : decode cX8_finger 123 = .ok (.iload_n 2, 1) := by decide +kernel
theorem dX8_finger_124 : decode cX8_finger 124 = .ok (.imul, 1) := by decide +kernel
theorem dX8_finger_125 : decode cX8_finger 125 = .ok (.iload_n 3, 1) := by decide +kernel
theorem dX8_finger_126 : decode cX8_finger 126 = .ok (.iadd, 1) := by decide +kernel
theorem dX8_finger_127 : decode cX8_finger 127 = .ok (.iload 4, 2) := by decide +kernel
theorem dX8_finger_129 : decode cX8_finger 129 = .ok (.invokevirtual 233, 3) := by decide +kernel
theorem dX8_finger_132 : decode cX8_finger 132 = .ok (.ifCond .eq 10, 3) := by decide +kernel
theorem dX8_finger_135 : decode cX8_finger 135 = .ok (.iconst 1, 1) := by decide +kernel
theorem dX8_finger_136 : decode cX8_finger 136 = .ok (.iload 7, 2) := by decide +kernel
theorem dX8_finger_138 : decode cX8_finger 138 = .ok (.ishl, 1) := by decide +kernel
theorem dX8_finger_139 : decode cX8_finger 139 = .ok (.goto 4, 3) := by decide +kernel
theorem dX8_finger_142 : decode cX8_finger 142 = .ok (.iconst 0, 1) := by decide +kernel
theorem dX8_finger_143 : decode cX8_finger 143 = .ok (.ior, 1) := by decide +kernel
theorem dX8_finger_144 : decode cX8_finger 144 = .ok (.istore 6, 2) := by decide +kernel
theorem dX8_finger_146 : decode cX8_finger 146 = .ok (.iinc 7 1, 3) := by decide +kernel
theorem dX8_finger_149 : decode cX8_finger 149 = .ok (.goto (-66), 3) := by decide +kernel
theorem dX8_finger_152 : decode cX8_finger 152 = .ok (.aload_n 0, 1) := by decide +kernel
theorem dX8_finger_153 : decode cX8_finger 153 = .ok (.iload 6, 2) := by decide +kernel
theorem dX8_finger_155 : decode cX8_finger 155 = .ok (.invokevirtual 72, 3) := by decide +kernel
theorem dX8_finger_158 : decode cX8_finger 158 = .ok (.ireturn, 1) := by decide +kernel
theorem dX8_lashes_0 : decode cX8_lashes 0 = .ok (.aload_n 0, 1) := by decide +kernel
theorem dX8_lashes_1 : decode cX8_lashes 1 = .ok (.iload_n 1, 1) := by decide +kernel
theorem dX8_lashes_2 : decode cX8_lashes 2 = .ok (.invokevirtual 175, 3) := by decide +kernel
theorem dX8_lashes_5 : decode cX8_lashes 5 = .ok (.ifCond .eq 31, 3) := by decide +kernel
theorem dX8_lashes_8 : decode cX8_lashes 8 = .ok (.aload_n 0, 1) := by decide +kernel
theorem dX8_lashes_9 : decode cX8_lashes 9 = .ok (.iload_n 2, 1) := by decide +kernel
theorem dX8_lashes_10 : decode cX8_lashes 10 = .ok (.invokevirtual 175, 3) := by decide +kernel
theorem dX8_lashes_13 : decode cX8_lashes 13 = .ok (.ifCond .eq 23, 3) := by decide +kernel
theorem dX8_lashes_16 : decode cX8_lashes 16 = .ok (.iload_n 3, 1) := by decide +kernel
theorem dX8_lashes_17 : decode cX8_lashes 17 = .ok (.invokestatic 61, 3) := by decide +kernel
theorem dX8_lashes_20 : decode cX8_lashes 20 = .ok (.ifCond .eq 16, 3) := by decide +kernel
theorem dX8_lashes_23 : decode cX8_lashes 23 = .ok (.iload 5, 2) := by decide +kernel
theorem dX8_lashes_25 : decode cX8_lashes 25 = .ok (.i2l, 1) := by decide +kernel
theorem dX8_lashes_26 : decode cX8_lashes 26 = .ok (.lconst 1, 1) := by decide +kernel
theorem dX8_lashes_27 : decode cX8_lashes 27 = .ok (.ldc2_w 237, 3) := by decide +kernel
theorem dX8_lashes_30 : decode cX8_lashes 30 = .ok (.invokestatic 57, 3) := by decide +kernel
theorem dX8_lashes_33 : decode cX8_lashes 33 = .ok (.ifCond .ne 6, 3) := by decide +kernel
theorem dX8_lashes_36 : decode cX8_lashes 36 = .ok (.ldc 67, 2) := by decide +kernel
theorem dX8_lashes_38 : decode cX8_lashes 38 = .ok (.ireturn, 1) := by decide +kernel
theorem dX8_lashes_39 : decode cX8_lashes 39 = .ok (.aload_n 0, 1) := by decide +kernel
theorem dX8_lashes_40 : decode cX8_lashes 40 = .ok (.iload_n 2, 1) := by decide +kernel
theorem dX8_lashes_41 : decode cX8_lashes 41 = .ok (.invokevirtual 142, 3) := by decide +kernel
theorem dX8_lashes_44 : decode cX8_lashes 44 = .ok (.ifCond .eq 15, 3) := by decide +kernel
theorem dX8_lashes_47 : decode cX8_lashes 47 = .ok (.aload_n 0, 1) := by decide +kernel
theorem dX8_lashes_48 : decode cX8_lashes 48 = .ok (.iload_n 3, 1) := by decide +kernel
theorem dX8_lashes_49 : decode cX8_lashes 49 = .ok (.iload 4, 2) := by decide +kernel
theorem dX8_lashes_51 : decode cX8_lashes 51 = .ok (.iload 5, 2) := by decide +kernel
theorem dX8_lashes_53 : decode cX8_lashes 53 = .ok (.invokevirtual 239, 3) := by decide +kernel
theorem dX8_lashes_56 : decode cX8_lashes 56 = .ok (.goto 5, 3) := by decide +kernel
theorem dX8_lashes_59 : decode cX8_lashes 59 = .ok (.ldc 166, 2) := by decide +kernel
theorem dX8_lashes_61 : decode cX8_lashes 61 = .ok (.istore 6, 2) := by decide +kernel
theorem dX8_lashes_63 : decode cX8_lashes 63 = .ok (.iload 6, 2) := by decide +kernel
theorem dX8_lashes_65 : decode cX8_lashes 65 = .ok (.ifCond .ge 6, 3) := by decide +kernel
theorem dX8_lashes_68 : decode cX8_lashes 68 = .ok (.iload 6, 2) := by decide +kernel
theorem dX8_lashes_70 : decode cX8_lashes 70 = .ok (.ireturn, 1) := by decide +kernel
theorem dX8_lashes_71 : decode cX8_lashes 71 = .ok (.aload_n 0, 1) := by decide +kernel
theorem dX8_lashes_72 : decode cX8_lashes 72 = .ok (.invokevirtual 196, 3) := by decide +kernel
theorem dX8_lashes_75 : decode cX8_lashes 75 = .ok (.iconst 0, 1) := by decide +kernel
theorem dX8_lashes_76 : decode cX8_lashes 76 = .ok (.istore 7, 2) := by decide +kernel
theorem dX8_lashes_78 : decode cX8_lashes 78 = .ok (.iconst 1, 1) := by decide +kernel
theorem dX8_lashes_79 : decode cX8_lashes 79 = .ok (.istore 8, 2) := by decide +kernel
theorem dX8_lashes_81 : decode cX8_lashes 81 = .ok (.iload 8, 2) := by decide +kernel
theorem dX8_lashes_83 : decode cX8_lashes 83 = .ok (.bipush 30, 2) := by decide +kernel
theorem dX8_lashes_85 : decode cX8_lashes 85 = .ok (.if_icmp .gt 48, 3) := by decide +kernel
theorem dX8_lashes_88 : decode cX8_lashes 88 = .ok (.aload_n 0, 1) := by decide +kernel
theorem dX8_lashes_89 : decode cX8_lashes 89 = .ok (.iload_n 2, 1) := by decide +kernel
theorem dX8_lashes_90 : decode cX8_lashes 90 = .ok (.iload 8, 2) := by decide +kernel
theorem dX8_lashes_92 : decode cX8_lashes 92 = .ok (.invokevirtual 178, 3) := by decide +kernel
theorem dX8_lashes_95 : decode cX8_lashes 95 = .ok (.iload 7, 2) := by decide +kernel
theorem dX8_lashes_97 : decode cX8_lashes 97 = .ok (.aload_n 0, 1) := by decide +kernel
theorem dX8_lashes_98 : decode cX8_lashes 98 = .ok (.iload_n 1, 1) := by decide +kernel
theorem dX8_lashes_99 : decode cX8_lashes 99 = .ok (.bipush 40, 2) := by decide +kernel
theorem dX8_lashes_101 : decode cX8_lashes 101 = .ok (.iload_n 3, 1) := by decide +kernel
theorem dX8_lashes_102 : decode cX8_lashes 102 = .ok (.imul, 1) := by decide +kernel
theorem dX8_lashes_103 : decode cX8_lashes 103 = .ok (.iload 4, 2) := by decide +kernel
theorem dX8_lashes_105 : decode cX8_lashes 105 = .ok (.iadd, 1) := by decide +kernel
theorem dX8_lashes_106 : decode cX8_lashes 106 = .ok (.iload 5, 2) := by decide +kernel
theorem dX8_lashes_108 : decode cX8_lashes 108 = .ok (.invokevirtual 233, 3) := by decide +kernel
theorem dX8_lashes_111 : decode cX8_lashes 111 = .ok (.ifCond .eq 12, 3) := by decide +kernel
theorem dX8_lashes_114 : decode cX8_lashes 114 = .ok (.iconst 1, 1) := by decide +kernel
theorem dX8_lashes_115 : decode cX8_lashes 115 = .ok (.iload 8, 2) := by decide +kernel
theorem dX8_lashes_117 : decode cX8_lashes 117 = .ok (.iconst 1, 1) := by decide +kernel
theorem dX8_lashes_118 : decode cX8_lashes 118 = .ok (.isub, 1) := by decide +kernel
theorem dX8_lashes_119 : decode cX8_lashes 119 = .ok (.ishl, 1) := by decide +kernel
theorem dX8_lashes_120 : decode cX8_lashes 120 = .ok (.goto 4, 3) := by decide +kernel
theorem dX8_lashes_123 : decode cX8_lashes 123 = .ok (.iconst 0, 1) := by decide +kernel
theorem dX8_lashes_124 : decode cX8_lashes 124 = .ok (.ior, 1) := by decide +kernel
theorem dX8_lashes_125 : decode cX8_lashes 125 = .ok (.istore 7, 2) := by decide +kernel
theorem dX8_lashes_127 : decode cX8_lashes 127 = .ok (.iinc 8 1, 3) := by decide +kernel
theorem dX8_lashes_130 : decode cX8_lashes 130 = .ok (.goto (-49), 3) := by decide +kernel
theorem dX8_lashes_133 : decode cX8_lashes 133 = .ok (.aload_n 0, 1) := by decide +kernel
theorem dX8_lashes_134 : decode cX8_lashes 134 = .ok (.iload 7, 2) := by decide +kernel
theorem dX8_lashes_136 : decode cX8_lashes 136 = .ok (.invokevirtual 72, 3) := by decide +kernel
theorem dX8_lashes_139 : decode cX8_lashes 139 = .ok (.ireturn, 1) := by decide +kernel
theorem dX8_crack_0 : decode cX8_crack 0 = .ok (.aload_n 0, 1) := by decide +kernel
theorem dX8_crack_1 : decode cX8_crack 1 = .ok (.iload_n 1, 1) := by decide +kernel
theorem dX8_crack_2 : decode cX8_crack 2 = .ok (.invokevirtual 175, 3) := by decide +kernel
theorem dX8_crack_5 : decode cX8_crack 5 = .ok (.ifCond .eq 35, 3) := by decide +kernel
theorem dX8_crack_8 : decode cX8_crack 8 = .ok (.iload_n 2, 1) := by decide +kernel
theorem dX8_crack_9 : decode cX8_crack 9 = .ok (.i2l, 1) := by decide +kernel
theorem dX8_crack_10 : decode cX8_crack 10 = .ok (.lconst 0, 1) := by decide +kernel
theorem dX8_crack_11 : decode cX8_crack 11 = .ok (.ldc2_w 247, 3) := by decide +kernel
theorem dX8_crack_14 : decode cX8_crack 14 = .ok (.invokestatic 57, 3) := by decide +kernel
theorem dX8_crack_17 : decode cX8_crack 17 = .ok (.ifCond .eq 23, 3) := by decide +kernel
theorem dX8_crack_20 : decode cX8_crack 20 = .ok (.iload_n 3, 1) := by decide +kernel
theorem dX8_crack_21 : decode cX8_crack 21 = .ok (.i2l, 1) := by decide +kernel
theorem dX8_crack_22 : decode cX8_crack 22 = .ok (.lconst 0, 1) := by decide +kernel
theorem dX8_crack_23 : decode cX8_crack 23 = .ok (.ldc2_w 249, 3) := by decide +kernel
theorem dX8_crack_26 : decode cX8_crack 26 = .ok (.invokestatic 57, 3) := by decide +kernel
theorem dX8_crack_29 : decode cX8_crack 29 = .ok (.ifCond .eq 11, 3) := by decide +kernel
theorem dX8_crack_32 : decode cX8_crack 32 = .ok (.iload 4, 2) := by decide +kernel
theorem dX8_crack_34 : decode cX8_crack 34 = .ok (.invokestatic 203, 3) := by decide +kernel
theorem dX8_crack_37 : decode cX8_crack 37 = .ok (.ifCond .ne 7, 3) := by decide +kernel
theorem dX8_crack_40 : decode cX8_crack 40 = .ok (.ldc2_w 251, 3) := by decide +kernel
theorem dX8_crack_43 : decode cX8_crack 43 = .ok (.lreturn, 1) := by decide +kernel
theorem dX8_crack_44 : decode cX8_crack 44 = .ok (.aload_n 0, 1) := by decide +kernel
theorem dX8_crack_45 : decode cX8_crack 45 = .ok (.invokevirtual 196, 3) := by decide +kernel
theorem dX8_crack_48 : decode cX8_crack 48 = .ok (.aload_n 0, 1) := by decide +kernel
theorem dX8_crack_49 : decode cX8_crack 49 = .ok (.invokevirtual 155, 3) := by decide +kernel
theorem dX8_crack_52 : decode cX8_crack 52 = .ok (.istore 5, 2) := by decide +kernel
theorem dX8_crack_54 : decode cX8_crack 54 = .ok (.lconst 0, 1) := by decide +kernel
theorem dX8_crack_55 : decode cX8_crack 55 = .ok (.lstore 6, 2) := by decide +kernel
theorem dX8_crack_57 : decode cX8_crack 57 = .ok (.lconst 1, 1) := by decide +kernel
theorem dX8_crack_58 : decode cX8_crack 58 = .ok (.lstore 8, 2) := by decide +kernel
theorem dX8_crack_60 : decode cX8_crack 60 = .ok (.iload 5, 2) := by decide +kernel
theorem dX8_crack_62 : decode cX8_crack 62 = .ok (.invokestatic 215, 3) := by decide +kernel
theorem dX8_crack_65 : decode cX8_crack 65 = .ok (.istore 10, 2) := by decide +kernel
theorem dX8_crack_67 : decode cX8_crack 67 = .ok (.iload 10, 2) := by decide +kernel
theorem dX8_crack_69 : decode cX8_crack 69 = .ok (.ifCond .le 17, 3) := by decide +kernel
theorem dX8_crack_72 : decode cX8_crack 72 = .ok (.lload 8, 2) := by decide +kernel
theorem dX8_crack_74 : decode cX8_crack 74 = .ok (.ldc2_w 249, 3) := by decide +kernel
theorem dX8_crack_77 : decode cX8_crack 77 = .ok (.lmul, 1) := by decide +kernel
theorem dX8_crack_78 : decode cX8_crack 78 = .ok (.lstore 8, 2) := by decide +kernel
theorem dX8_crack_80 : decode cX8_crack 80 = .ok (.iinc 10 (-1), 3) := by decide +kernel
theorem dX8_crack_83 : decode cX8_crack 83 = .ok (.goto (-16), 3) := by decide +kernel
theorem dX8_crack_86 : decode cX8_crack 86 = .ok (.iconst 0, 1) := by decide +kernel
theorem dX8_crack_87 : decode cX8_crack 87 = .ok (.istore 10, 2) := by decide +kernel
theorem dX8_crack_89 : decode cX8_crack 89 = .ok (.iload 10, 2) := by decide +kernel
theorem dX8_crack_91 : decode cX8_crack 91 = .ok (.iload 5, 2) := by decide +kernel
theorem dX8_crack_93 : decode cX8_crack 93 = .ok (.if_icmp .gt 149, 3) := by decide +kernel
theorem dX8_crack_96 : decode cX8_crack 96 = .ok (.iload 10, 2) := by decide +kernel
theorem dX8_crack_98 : decode cX8_crack 98 = .ok (.iload 5, 2) := by decide +kernel
theorem dX8_crack_100 : decode cX8_crack 100 = .ok (.iconst (-1), 1) := by decide +kernel
theorem dX8_crack_101 : decode cX8_crack 101 = .ok (.ixor, 1) := by decide +kernel
theorem dX8_crack_102 : decode cX8_crack 102 = .ok (.iand, 1) := by decide +kernel
theorem dX8_crack_103 : decode cX8_crack 103 = .ok (.ifCond .ne 133, 3) := by decide +kernel
theorem dX8_crack_106 : decode cX8_crack 106 = .ok (.lconst 1, 1) := by decide +kernel
theorem dX8_crack_107 : decode cX8_crack 107 = .ok (.lstore 11, 2) := by decide +kernel
theorem dX8_crack_109 : decode cX8_crack 109 = .ok (.iconst 0, 1) := by decide +kernel
theorem dX8_crack_110 : decode cX8_crack 110 = .ok (.istore 13, 2) := by decide +kernel
theorem dX8_crack_112 : decode cX8_crack 112 = .ok (.iload 13, 2) := by decide +kernel
theorem dX8_crack_114 : decode cX8_crack 114 = .ok (.aload_n 0, 1) := by decide +kernel
theorem dX8_crack_115 : decode cX8_crack 115 = .ok (.getfield 19, 3) := by decide +kernel
theorem dX8_crack_118 : decode cX8_crack 118 = .ok (.iconst 0, 1) := by decide +kernel
theorem dX8_crack_119 : decode cX8_crack 119 = .ok (.iaload, 1) := by decide +kernel
theorem dX8_crack_120 : decode cX8_crack 120 = .ok (.if_icmp .ge 93, 3) := by decide +kernel
theorem dX8_crack_123 : decode cX8_crack 123 = .ok (.lload 11, 2) := by decide +kernel
theorem dX8_crack_125 : decode cX8_crack 125 = .ok (.iload 5, 2) := by decide +kernel
theorem dX8_crack_127 : decode cX8_crack 127 = .ok (.iload 13, 2) := by decide +kernel
theorem dX8_crack_129 : decode cX8_crack 129 = .ok (.invokestatic 145, 3) := by decide +kernel
theorem dX8_crack_132 : decode cX8_crack 132 = .ok (.ifCond .ne 7, 3) := by decide +kernel
theorem dX8_crack_135 : decode cX8_crack 135 = .ok (.lconst 1, 1) := by decide +kernel
theorem dX8_crack_136 : decode cX8_crack 136 = .ok (.goto 23, 3) := by decide +kernel
theorem dX8_crack_139 : decode cX8_crack 139 = .ok (.iload 10, 2) := by decide +kernel
theorem dX8_crack_141 : decode cX8_crack 141 = .ok (.iload 13, 2) := by decide +kernel
theorem dX8_crack_143 : decode cX8_crack 143 = .ok (.invokestatic 145, 3) := by decide +kernel
theorem dX8_crack_146 : decode cX8_crack 146 = .ok (.ifCond .eq 8, 3) := by decide +kernel
theorem dX8_crack_149 : decode cX8_crack 149 = .ok (.iload_n 3, 1) := by decide +kernel
theorem dX8_crack_150 : decode cX8_crack 150 = .ok (.i2l, 1) := by decide +kernel
theorem dX8_crack_151 : decode cX8_crack 151 = .ok (.goto 8, 3) := by decide +kernel
theorem dX8_crack_154 : decode cX8_crack 154 = .ok (.bipush 10, 2) := by decide +kernel
theorem dX8_crack_156 : decode cX8_crack 156 = .ok (.iload_n 3, 1) := by decide +kernel
theorem dX8_crack_157 : decode cX8_crack 157 = .ok (.isub, 1) := by decide +kernel
theorem dX8_crack_158 : decode cX8_crack 158 = .ok (.i2l, 1) := by decide +kernel
theorem dX8_crack_159 : decode cX8_crack 159 = .ok (.lmul, 1) := by decide +kernel
theorem dX8_crack_160 : decode cX8_crack 160 = .ok (.lstore 11, 2) := by decide +kernel
theorem dX8_crack_162 : decode cX8_crack 162 = .ok (.aload_n 0, 1) := by decide +kernel
theorem dX8_crack_163 : decode cX8_crack 163 = .ok (.getfield 19, 3) := by decide +kernel
theorem dX8_crack_166 : decode cX8_crack 166 = .ok (.bipush 21, 2) := by decide +kernel
theorem dX8_crack_168 : decode cX8_crack 168 = .ok (.iload 13, 2) := by decide +kernel
theorem dX8_crack_170 : decode cX8_crack 170 = .ok (.iadd, 1) := by decide +kernel
theorem dX8_crack_171 : decode cX8_crack 171 = .ok (.iload 10, 2) := by decide +kernel
theorem dX8_crack_173 : decode cX8_crack 173 = .ok (.iload 13, 2) := by decide +kernel
theorem dX8_crack_175 : decode cX8_crack 175 = .ok (.invokestatic 145, 3) := by decide +kernel
theorem dX8_crack_178 : decode cX8_crack 178 = .ok (.ifCond .eq 18, 3) := by decide +kernel
theorem dX8_crack_181 : decode cX8_crack 181 = .ok (.aload_n 0, 1) := by decide +kernel
theorem dX8_crack_182 : decode cX8_crack 182 = .ok (.getfield 19, 3) := by decide +kernel
theorem dX8_crack_185 : decode cX8_crack 185 = .ok (.bipush 21, 2) := by decide +kernel
theorem dX8_crack_187 : decode cX8_crack 187 = .ok (.iload 13, 2) := by decide +kernel
theorem dX8_crack_189 : decode cX8_crack 189 = .ok (.iadd, 1) := by decide +kernel
theorem dX8_crack_190 : decode cX8_crack 190 = .ok (.iaload, 1) := by decide +kernel
theorem dX8_crack_191 : decode cX8_crack 191 = .ok (.iconst 2, 1) := by decide +kernel
theorem dX8_crack_192 : decode cX8_crack 192 = .ok (.idiv, 1) := by decide +kernel
theorem dX8_crack_193 : decode cX8_crack 193 = .ok (.goto 13, 3) := by decide +kernel
theorem dX8_crack_196 : decode cX8_crack 196 = .ok (.aload_n 0, 1) := by decide +kernel
theorem dX8_crack_197 : decode cX8_crack 197 = .ok (.getfield 19, 3) := by decide +kernel
theorem dX8_crack_200 : decode cX8_crack 200 = .ok (.bipush 21, 2) := by decide +kernel
theorem dX8_crack_202 : decode cX8_crack 202 = .ok (.iload 13, 2) := by decide +kernel
theorem dX8_crack_204 : decode cX8_crack 204 = .ok (.iadd, 1) := by decide +kernel
theorem dX8_crack_205 : decode cX8_crack 205 = .ok (.iaload, 1) := by decide +kernel
theorem dX8_crack_206 : decode cX8_crack 206 = .ok (.iastore, 1) := by decide +kernel
theorem dX8_crack_207 : decode cX8_crack 207 = .ok (.iinc 13 1, 3) := by decide +kernel
theorem dX8_crack_210 : decode cX8_crack 210 = .ok (.goto (-98), 3) := by decide +kernel
theorem dX8_crack_213 : decode cX8_crack 213 = .ok (.lload 6, 2) := by decide +kernel
theorem dX8_crack_215 : decode cX8_crack 215 = .ok (.aload_n 0, 1) := by decide +kernel
theorem dX8_crack_216 : decode cX8_crack 216 = .ok (.iload_n 2, 1) := by decide +kernel
theorem dX8_crack_217 : decode cX8_crack 217 = .ok (.invokevirtual 209, 3) := by decide +kernel
theorem dX8_crack_220 : decode cX8_crack 220 = .ok (.iload_n 1, 1) := by decide +kernel
theorem dX8_crack_221 : decode cX8_crack 221 = .ok (.invokestatic 145, 3) := by decide +kernel
theorem dX8_crack_224 : decode cX8_crack 224 = .ok (.ifCond .eq 8, 3) := by decide +kernel
theorem dX8_crack_227 : decode cX8_crack 227 = .ok (.lload 11, 2) := by decide +kernel
theorem dX8_crack_229 : decode cX8_crack 229 = .ok (.goto 4, 3) := by decide +kernel
theorem dX8_crack_232 : decode cX8_crack 232 = .ok (.lconst 0, 1) := by decide +kernel
theorem dX8_crack_233 : decode cX8_crack 233 = .ok (.ladd, 1) := by decide +kernel
theorem dX8_crack_234 : decode cX8_crack 234 = .ok (.lstore 6, 2) := by decide +kernel
theorem dX8_crack_236 : decode cX8_crack 236 = .ok (.iinc 10 1, 3) := by decide +kernel
theorem dX8_crack_239 : decode cX8_crack 239 = .ok (.goto (-150), 3) := by decide +kernel
theorem dX8_crack_242 : decode cX8_crack 242 = .ok (.lload 6, 2) := by decide +kernel
theorem dX8_crack_244 : decode cX8_crack 244 = .ok (.lstore 10, 2) := by decide +kernel
theorem dX8_crack_246 : decode cX8_crack 246 = .ok (.lload 8, 2) := by decide +kernel
theorem dX8_crack_248 : decode cX8_crack 248 = .ok (.lstore 12, 2) := by decide +kernel
theorem dX8_crack_250 : decode cX8_crack 250 = .ok (.lload 12, 2) := by decide +kernel
theorem dX8_crack_252 : decode cX8_crack 252 = .ok (.lconst 0, 1) := by decide +kernel
theorem dX8_crack_253 : decode cX8_crack 253 = .ok (.lcmp, 1) := by decide +kernel
theorem dX8_crack_254 : decode cX8_crack 254 = .ok (.ifCond .eq 21, 3) := by decide +kernel
theorem dX8_crack_257 : decode cX8_crack 257 = .ok (.lload 10, 2) := by decide +kernel
theorem dX8_crack_259 : decode cX8_crack 259 = .ok (.lload 12, 2) := by decide +kernel
theorem dX8_crack_261 : decode cX8_crack 261 = .ok (.lrem, 1) := by decide +kernel
theorem dX8_crack_262 : decode cX8_crack 262 = .ok (.lstore 14, 2) := by decide +kernel
theorem dX8_crack_264 : decode cX8_crack 264 = .ok (.lload 12, 2) := by decide +kernel
theorem dX8_crack_266 : decode cX8_crack 266 = .ok (.lstore 10, 2) := by decide +kernel
theorem dX8_crack_268 : decode cX8_crack 268 = .ok (.lload 14, 2) := by decide +kernel
theorem dX8_crack_270 : decode cX8_crack 270 = .ok (.lstore 12, 2) := by decide +kernel
theorem dX8_crack_272 : decode cX8_crack 272 = .ok (.goto (-22), 3) := by decide +kernel
theorem dX8_crack_275 : decode cX8_crack 275 = .ok (.iload 4, 2) := by decide +kernel
theorem dX8_crack_277 : decode cX8_crack 277 = .ok (.ifCond .ne 11, 3) := by decide +kernel
theorem dX8_crack_280 : decode cX8_crack 280 = .ok (.lload 6, 2) := by decide +kernel
theorem dX8_crack_282 : decode cX8_crack 282 = .ok (.lload 10, 2) := by decide +kernel
theorem dX8_crack_284 : decode cX8_crack 284 = .ok (.ldiv, 1) := by decide +kernel
theorem dX8_crack_285 : decode cX8_crack 285 = .ok (.goto 8, 3) := by decide +kernel
theorem dX8_crack_288 : decode cX8_crack 288 = .ok (.lload 8, 2) := by decide +kernel
theorem dX8_crack_290 : decode cX8_crack 290 = .ok (.lload 10, 2) := by decide +kernel
theorem dX8_crack_292 : decode cX8_crack 292 = .ok (.ldiv, 1) := by decide +kernel
theorem dX8_crack_293 : decode cX8_crack 293 = .ok (.lreturn, 1) := by decide +kernel
theorem dX8_drawn_0 : decode cX8_drawn 0 = .ok (.aload_n 0, 1) := by decide +kernel
theorem dX8_drawn_1 : decode cX8_drawn 1 = .ok (.getfield 135, 3) := by decide +kernel
theorem dX8_drawn_4 : decode cX8_drawn 4 = .ok (.ifCond .ne 6, 3) := by decide +kernel
theorem dX8_drawn_7 : decode cX8_drawn 7 = .ok (.ldc 166, 2) := by decide +kernel
theorem dX8_drawn_9 : decode cX8_drawn 9 = .ok (.ireturn, 1) := by decide +kernel
theorem dX8_drawn_10 : decode cX8_drawn 10 = .ok (.iload_n 1, 1) := by decide +kernel
theorem dX8_drawn_11 : decode cX8_drawn 11 = .ok (.i2l, 1) := by decide +kernel
theorem dX8_drawn_12 : decode cX8_drawn 12 = .ok (.lconst 0, 1) := by decide +kernel
theorem dX8_drawn_13 : decode cX8_drawn 13 = .ok (.ldc2_w 194, 3) := by decide +kernel
theorem dX8_drawn_16 : decode cX8_drawn 16 = .ok (.invokestatic 57, 3) := by decide +kernel
theorem dX8_drawn_19 : decode cX8_drawn 19 = .ok (.ifCond .eq 22, 3) := by decide +kernel
theorem dX8_drawn_22 : decode cX8_drawn 22 = .ok (.iload_n 2, 1) := by decide +kernel
theorem dX8_drawn_23 : decode cX8_drawn 23 = .ok (.i2l, 1) := by decide +kernel
theorem dX8_drawn_24 : decode cX8_drawn 24 = .ok (.lconst 1, 1) := by decide +kernel
theorem dX8_drawn_25 : decode cX8_drawn 25 = .ok (.ldc2_w 253, 3) := by decide +kernel
theorem dX8_drawn_28 : decode cX8_drawn 28 = .ok (.invokestatic 57, 3) := by decide +kernel
theorem dX8_drawn_31 : decode cX8_drawn 31 = .ok (.ifCond .eq 10, 3) := by decide +kernel
theorem dX8_drawn_34 : decode cX8_drawn 34 = .ok (.iload_n 3, 1) := by decide +kernel
theorem dX8_drawn_35 : decode cX8_drawn 35 = .ok (.invokestatic 203, 3) := by decide +kernel
theorem dX8_drawn_38 : decode cX8_drawn 38 = .ok (.ifCond .ne 6, 3) := by decide +kernel
theorem dX8_drawn_41 : decode cX8_drawn 41 = .ok (.ldc 67, 2) := by decide +kernel
theorem dX8_drawn_43 : decode cX8_drawn 43 = .ok (.ireturn, 1) := by decide +kernel
theorem dX8_drawn_44 : decode cX8_drawn 44 = .ok (.aload_n 0, 1) := by decide +kernel
theorem dX8_drawn_45 : decode cX8_drawn 45 = .ok (.invokevirtual 196, 3) := by decide +kernel
theorem dX8_drawn_48 : decode cX8_drawn 48 = .ok (.iload_n 2, 1) := by decide +kernel
theorem dX8_drawn_49 : decode cX8_drawn 49 = .ok (.i2l, 1) := by decide +kernel
theorem dX8_drawn_50 : decode cX8_drawn 50 = .ok (.lstore 4, 2) := by decide +kernel
theorem dX8_drawn_52 : decode cX8_drawn 52 = .ok (.iconst 0, 1) := by decide +kernel
theorem dX8_drawn_53 : decode cX8_drawn 53 = .ok (.istore 6, 2) := by decide +kernel
theorem dX8_drawn_55 : decode cX8_drawn 55 = .ok (.iload 6, 2) := by decide +kernel
theorem dX8_drawn_57 : decode cX8_drawn 57 = .ok (.iload_n 1, 1) := by decide +kernel
theorem dX8_drawn_58 : decode cX8_drawn 58 = .ok (.if_icmp .ge 105, 3) := by decide +kernel
theorem dX8_drawn_61 : decode cX8_drawn 61 = .ok (.lload 4, 2) := by decide +kernel
theorem dX8_drawn_63 : decode cX8_drawn 63 = .ok (.ldc2_w 255, 3) := by decide +kernel
theorem dX8_drawn_66 : decode cX8_drawn 66 = .ok (.lmul, 1) := by decide +kernel
theorem dX8_drawn_67 : decode cX8_drawn 67 = .ok (.ldc2_w 257, 3) := by decide +kernel
theorem dX8_drawn_70 : decode cX8_drawn 70 = .ok (.lrem, 1) := by decide +kernel
theorem dX8_drawn_71 : decode cX8_drawn 71 = .ok (.lstore 4, 2) := by decide +kernel
theorem dX8_drawn_73 : decode cX8_drawn 73 = .ok (.lload 4, 2) := by decide +kernel
theorem dX8_drawn_75 : decode cX8_drawn 75 = .ok (.aload_n 0, 1) := by decide +kernel
theorem dX8_drawn_76 : decode cX8_drawn 76 = .ok (.getfield 19, 3) := by decide +kernel
theorem dX8_drawn_79 : decode cX8_drawn 79 = .ok (.iconst 0, 1) := by decide +kernel
theorem dX8_drawn_80 : decode cX8_drawn 80 = .ok (.iaload, 1) := by decide +kernel
theorem dX8_drawn_81 : decode cX8_drawn 81 = .ok (.i2l, 1) := by decide +kernel
theorem dX8_drawn_82 : decode cX8_drawn 82 = .ok (.lrem, 1) := by decide +kernel
theorem dX8_drawn_83 : decode cX8_drawn 83 = .ok (.l2i, 1) := by decide +kernel
theorem dX8_drawn_84 : decode cX8_drawn 84 = .ok (.istore 7, 2) := by decide +kernel
theorem dX8_drawn_86 : decode cX8_drawn 86 = .ok (.aload_n 0, 1) := by decide +kernel
theorem dX8_drawn_87 : decode cX8_drawn 87 = .ok (.iload 7, 2) := by decide +kernel
theorem dX8_drawn_89 : decode cX8_drawn 89 = .ok (.invokevirtual 142, 3) := by decide +kernel
theorem dX8_drawn_92 : decode cX8_drawn 92 = .ok (.ifCond .eq 29, 3) := by decide +kernel
theorem dX8_drawn_95 : decode cX8_drawn 95 = .ok (.lload 4, 2) := by decide +kernel
theorem dX8_drawn_97 : decode cX8_drawn 97 = .ok (.ldc2_w 65, 3) := by decide +kernel
theorem dX8_drawn_100 : decode cX8_drawn 100 = .ok (.lrem, 1) := by decide +kernel
theorem dX8_drawn_101 : decode cX8_drawn 101 = .ok (.lconst 0, 1) := by decide +kernel
theorem dX8_drawn_102 : decode cX8_drawn 102 = .ok (.lcmp, 1) := by decide +kernel
theorem dX8_drawn_103 : decode cX8_drawn 103 = .ok (.ifCond .ne 18, 3) := by decide +kernel
theorem dX8_drawn_106 : decode cX8_drawn 106 = .ok (.aload_n 0, 1) := by decide +kernel
theorem dX8_drawn_107 : decode cX8_drawn 107 = .ok (.iload 7, 2) := by decide +kernel
theorem dX8_drawn_109 : decode cX8_drawn 109 = .ok (.aload_n 0, 1) := by decide +kernel
theorem dX8_drawn_110 : decode cX8_drawn 110 = .ok (.getfield 19, 3) := by decide +kernel
theorem dX8_drawn_113 : decode cX8_drawn 113 = .ok (.iconst 1, 1) := by decide +kernel
theorem dX8_drawn_114 : decode cX8_drawn 114 = .ok (.iaload, 1) := by decide +kernel
theorem dX8_drawn_115 : decode cX8_drawn 115 = .ok (.invokevirtual 178, 3) := by decide +kernel
theorem dX8_drawn_118 : decode cX8_drawn 118 = .ok (.goto 35, 3) := by decide +kernel
theorem dX8_drawn_121 : decode cX8_drawn 121 = .ok (.aload_n 0, 1) := by decide +kernel
theorem dX8_drawn_122 : decode cX8_drawn 122 = .ok (.iload 7, 2) := by decide +kernel
theorem dX8_drawn_124 : decode cX8_drawn 124 = .ok (.invokevirtual 142, 3) := by decide +kernel
theorem dX8_drawn_127 : decode cX8_drawn 127 = .ok (.ifCond .ne 26, 3) := by decide +kernel
theorem dX8_drawn_130 : decode cX8_drawn 130 = .ok (.lload 4, 2) := by decide +kernel
theorem dX8_drawn_132 : decode cX8_drawn 132 = .ok (.ldc2_w 259, 3) := by decide +kernel
theorem dX8_drawn_135 : decode cX8_drawn 135 = .ok (.lrem, 1) := by decide +kernel
theorem dX8_drawn_136 : decode cX8_drawn 136 = .ok (.lconst 0, 1) := by decide +kernel
theorem dX8_drawn_137 : decode cX8_drawn 137 = .ok (.lcmp, 1) := by decide +kernel
theorem dX8_drawn_138 : decode cX8_drawn 138 = .ok (.ifCond .ne 15, 3) := by decide +kernel
theorem dX8_drawn_141 : decode cX8_drawn 141 = .ok (.aload_n 0, 1) := by decide +kernel
theorem dX8_drawn_142 : decode cX8_drawn 142 = .ok (.getfield 19, 3) := by decide +kernel
theorem dX8_drawn_145 : decode cX8_drawn 145 = .ok (.bipush 21, 2) := by decide +kernel
theorem dX8_drawn_147 : decode cX8_drawn 147 = .ok (.iload 7, 2) := by decide +kernel
theorem dX8_drawn_149 : decode cX8_drawn 149 = .ok (.iadd, 1) := by decide +kernel
theorem dX8_drawn_150 : decode cX8_drawn 150 = .ok (.bipush 50, 2) := by decide +kernel
theorem dX8_drawn_152 : decode cX8_drawn 152 = .ok (.iastore, 1) := by decide +kernel
theorem dX8_drawn_153 : decode cX8_drawn 153 = .ok (.aload_n 0, 1) := by decide +kernel
theorem dX8_drawn_154 : decode cX8_drawn 154 = .ok (.invokevirtual 172, 3) := by decide +kernel
theorem dX8_drawn_157 : decode cX8_drawn 157 = .ok (.iinc 6 1, 3) := by decide +kernel
theorem dX8_drawn_160 : decode cX8_drawn 160 = .ok (.goto (-105), 3) := by decide +kernel
theorem dX8_drawn_163 : decode cX8_drawn 163 = .ok (.iload_n 3, 1) := by decide +kernel
theorem dX8_drawn_164 : decode cX8_drawn 164 = .ok (.ifCond .ne 10, 3) := by decide +kernel
theorem dX8_drawn_167 : decode cX8_drawn 167 = .ok (.aload_n 0, 1) := by decide +kernel
theorem dX8_drawn_168 : decode cX8_drawn 168 = .ok (.invokevirtual 155, 3) := by decide +kernel
theorem dX8_drawn_171 : decode cX8_drawn 171 = .ok (.goto 9, 3) := by decide +kernel
theorem dX8_drawn_174 : decode cX8_drawn 174 = .ok (.aload_n 0, 1) := by decide +kernel
theorem dX8_drawn_175 : decode cX8_drawn 175 = .ok (.iconst 0, 1) := by decide +kernel
theorem dX8_drawn_176 : decode cX8_drawn 176 = .ok (.iconst 1, 1) := by decide +kernel
theorem dX8_drawn_177 : decode cX8_drawn 177 = .ok (.invokevirtual 184, 3) := by decide +kernel
theorem dX8_drawn_180 : decode cX8_drawn 180 = .ok (.istore 6, 2) := by decide +kernel
theorem dX8_drawn_182 : decode cX8_drawn 182 = .ok (.aload_n 0, 1) := by decide +kernel
theorem dX8_drawn_183 : decode cX8_drawn 183 = .ok (.invokevirtual 191, 3) := by decide +kernel
theorem dX8_drawn_186 : decode cX8_drawn 186 = .ok (.iload 6, 2) := by decide +kernel
theorem dX8_drawn_188 : decode cX8_drawn 188 = .ok (.ireturn, 1) := by decide +kernel
theorem dX8_image_0 : decode cX8_image 0 = .ok (.iload_n 1, 1) := by decide +kernel
theorem dX8_image_1 : decode cX8_image 1 = .ok (.i2l, 1) := by decide +kernel
theorem dX8_image_2 : decode cX8_image 2 = .ok (.lconst 0, 1) := by decide +kernel
theorem dX8_image_3 : decode cX8_image 3 = .ok (.lconst 1, 1) := by decide +kernel
theorem dX8_image_4 : decode cX8_image 4 = .ok (.invokestatic 57, 3) := by decide +kernel
theorem dX8_image_7 : decode cX8_image 7 = .ok (.ifCond .ne 6, 3) := by decide +kernel
theorem dX8_image_10 : decode cX8_image 10 = .ok (.ldc 67, 2) := by decide +kernel
theorem dX8_image_12 : decode cX8_image 12 = .ok (.ireturn, 1) := by decide +kernel
theorem dX8_image_13 : decode cX8_image 13 = .ok (.aload_n 0, 1) := by decide +kernel
theorem dX8_image_14 : decode cX8_image 14 = .ok (.getfield 135, 3) := by decide +kernel
theorem dX8_image_17 : decode cX8_image 17 = .ok (.ifCond .ne 6, 3) := by decide +kernel
theorem dX8_image_20 : decode cX8_image 20 = .ok (.ldc 166, 2) := by decide +kernel
theorem dX8_image_22 : decode cX8_image 22 = .ok (.ireturn, 1) := by decide +kernel
theorem dX8_image_23 : decode cX8_image 23 = .ok (.iconst 0, 1) := by decide +kernel
theorem dX8_image_24 : decode cX8_image 24 = .ok (.istore_n 2, 1) := by decide +kernel
theorem dX8_image_25 : decode cX8_image 25 = .ok (.iload_n 2, 1) := by decide +kernel
theorem dX8_image_26 : decode cX8_image 26 = .ok (.bipush 29, 2) := by decide +kernel
theorem dX8_image_28 : decode cX8_image 28 = .ok (.if_icmp .ge 26, 3) := by decide +kernel
theorem dX8_image_31 : decode cX8_image 31 = .ok (.aload_n 0, 1) := by decide +kernel
theorem dX8_image_32 : decode cX8_image 32 = .ok (.getfield 44, 3) := by decide +kernel
theorem dX8_image_35 : decode cX8_image 35 = .ok (.bipush 29, 2) := by decide +kernel
theorem dX8_image_37 : decode cX8_image 37 = .ok (.iload_n 1, 1) := by decide +kernel
theorem dX8_image_38 : decode cX8_image 38 = .ok (.imul, 1) := by decide +kernel
theorem dX8_image_39 : decode cX8_image 39 = .ok (.iload_n 2, 1) := by decide +kernel
theorem dX8_image_40 : decode cX8_image 40 = .ok (.iadd, 1) := by decide +kernel
theorem dX8_image_41 : decode cX8_image 41 = .ok (.aload_n 0, 1) := by decide +kernel
theorem dX8_image_42 : decode cX8_image 42 = .ok (.getfield 19, 3) := by decide +kernel
theorem dX8_image_45 : decode cX8_image 45 = .ok (.iload_n 2, 1) := by decide +kernel
theorem dX8_image_46 : decode cX8_image 46 = .ok (.iaload, 1) := by decide +kernel
theorem dX8_image_47 : decode cX8_image 47 = .ok (.iastore, 1) := by decide +kernel
theorem dX8_image_48 : decode cX8_image 48 = .ok (.iinc 2 1, 3) := by decide +kernel
theorem dX8_image_51 : decode cX8_image 51 = .ok (.goto (-26), 3) := by decide +kernel
theorem dX8_image_54 : decode cX8_image 54 = .ok (.aload_n 0, 1) := by decide +kernel
theorem dX8_image_55 : decode cX8_image 55 = .ok (.getfield 40, 3) := by decide +kernel
theorem dX8_image_58 : decode cX8_image 58 = .ok (.iload_n 1, 1) := by decide +kernel
theorem dX8_image_59 : decode cX8_image 59 = .ok (.iconst 1, 1) := by decide +kernel
theorem dX8_image_60 : decode cX8_image 60 = .ok (.bastore, 1) := by decide +kernel
theorem dX8_image_61 : decode cX8_image 61 = .ok (.iconst 1, 1) := by decide +kernel
theorem dX8_image_62 : decode cX8_image 62 = .ok (.ireturn, 1) := by decide +kernel
theorem dX8_restore_0 : decode cX8_restore 0 = .ok (.iload_n 1, 1) := by decide +kernel
theorem dX8_restore_1 : decode cX8_restore 1 = .ok (.i2l, 1) := by decide +kernel
theorem dX8_restore_2 : decode cX8_restore 2 = .ok (.lconst 0, 1) := by decide +kernel
theorem dX8_restore_3 : decode cX8_restore 3 = .ok (.lconst 1, 1) := by decide +kernel
theorem dX8_restore_4 : decode cX8_restore 4 = .ok (.invokestatic 57, 3) := by decide +kernel
theorem dX8_restore_7 : decode cX8_restore 7 = .ok (.ifCond .ne 6, 3) := by decide +kernel
theorem dX8_restore_10 : decode cX8_restore 10 = .ok (.ldc 67, 2) := by decide +kernel
theorem dX8_restore_12 : decode cX8_restore 12 = .ok (.ireturn, 1) := by decide +kernel
theorem dX8_restore_13 : decode cX8_restore 13 = .ok (.aload_n 0, 1) := by decide +kernel
theorem dX8_restore_14 : decode cX8_restore 14 = .ok (.getfield 40, 3) := by decide +kernel
theorem dX8_restore_17 : decode cX8_restore 17 = .ok (.iload_n 1, 1) := by decide +kernel
theorem dX8_restore_18 : decode cX8_restore 18 = .ok (.baload, 1) := by decide +kernel
theorem dX8_restore_19 : decode cX8_restore 19 = .ok (.ifCond .ne 6, 3) := by decide +kernel
theorem dX8_restore_22 : decode cX8_restore 22 = .ok (.ldc 166, 2) := by decide +kernel
theorem dX8_restore_24 : decode cX8_restore 24 = .ok (.ireturn, 1) := by decide +kernel
theorem dX8_restore_25 : decode cX8_restore 25 = .ok (.iconst 0, 1) := by decide +kernel
theorem dX8_restore_26 : decode cX8_restore 26 = .ok (.istore_n 2, 1) := by decide +kernel
theorem dX8_restore_27 : decode cX8_restore 27 = .ok (.iload_n 2, 1) := by decide +kernel
theorem dX8_restore_28 : decode cX8_restore 28 = .ok (.bipush 29, 2) := by decide +kernel
theorem dX8_restore_30 : decode cX8_restore 30 = .ok (.if_icmp .ge 26, 3) := by decide +kernel
theorem dX8_restore_33 : decode cX8_restore 33 = .ok (.aload_n 0, 1) := by decide +kernel
theorem dX8_restore_34 : decode cX8_restore 34 = .ok (.getfield 19, 3) := by decide +kernel
theorem dX8_restore_37 : decode cX8_restore 37 = .ok (.iload_n 2, 1) := by decide +kernel
theorem dX8_restore_38 : decode cX8_restore 38 = .ok (.aload_n 0, 1) := by decide +kernel
theorem dX8_restore_39 : decode cX8_restore 39 = .ok (.getfield 44, 3) := by decide +kernel
theorem dX8_restore_42 : decode cX8_restore 42 = .ok (.bipush 29, 2) := by decide +kernel
theorem dX8_restore_44 : decode cX8_restore 44 = .ok (.iload_n 1, 1) := by decide +kernel
theorem dX8_restore_45 : decode cX8_restore 45 = .ok (.imul, 1) := by decide +kernel
theorem dX8_restore_46 : decode cX8_restore 46 = .ok (.iload_n 2, 1) := by decide +kernel
theorem dX8_restore_47 : decode cX8_restore 47 = .ok (.iadd, 1) := by decide +kernel
theorem dX8_restore_48 : decode cX8_restore 48 = .ok (.iaload, 1) := by decide +kernel
theorem dX8_restore_49 : decode cX8_restore 49 = .ok (.iastore, 1) := by decide +kernel
theorem dX8_restore_50 : decode cX8_restore 50 = .ok (.iinc 2 1, 3) := by decide +kernel
theorem dX8_restore_53 : decode cX8_restore 53 = .ok (.goto (-26), 3) := by decide +kernel
theorem dX8_restore_56 : decode cX8_restore 56 = .ok (.aload_n 0, 1) := by decide +kernel
theorem dX8_restore_57 : decode cX8_restore 57 = .ok (.iconst 0, 1) := by decide +kernel
theorem dX8_restore_58 : decode cX8_restore 58 = .ok (.putfield 139, 3) := by decide +kernel
theorem dX8_restore_61 : decode cX8_restore 61 = .ok (.iconst 1, 1) := by decide +kernel
theorem dX8_restore_62 : decode cX8_restore 62 = .ok (.ireturn, 1) := by decide +kernel
theorem dX8_kind_0 : decode cX8_kind 0 = .ok (.aload_n 0, 1) := by decide +kernel
theorem dX8_kind_1 : decode cX8_kind 1 = .ok (.iload_n 1, 1) := by decide +kernel
theorem dX8_kind_2 : decode cX8_kind 2 = .ok (.invokevirtual 175, 3) := by decide +kernel
theorem dX8_kind_5 : decode cX8_kind 5 = .ok (.ifCond .eq 14, 3) := by decide +kernel
theorem dX8_kind_8 : decode cX8_kind 8 = .ok (.aload_n 0, 1) := by decide +kernel
theorem dX8_kind_9 : decode cX8_kind 9 = .ok (.getfield 19, 3) := by decide +kernel
theorem dX8_kind_12 : decode cX8_kind 12 = .ok (.iconst 5, 1) := by decide +kernel
theorem dX8_kind_13 : decode cX8_kind 13 = .ok (.iload_n 1, 1) := by decide +kernel
theorem dX8_kind_14 : decode cX8_kind 14 = .ok (.iadd, 1) := by decide +kernel
theorem dX8_kind_15 : decode cX8_kind 15 = .ok (.iaload, 1) := by decide +kernel
theorem dX8_kind_16 : decode cX8_kind 16 = .ok (.goto 5, 3) := by decide +kernel
theorem dX8_kind_19 : decode cX8_kind 19 = .ok (.ldc 67, 2) := by decide +kernel
theorem dX8_kind_21 : decode cX8_kind 21 = .ok (.ireturn, 1) := by decide +kernel
theorem dX8_isKind_0 : decode cX8_isKind 0 = .ok (.iload_n 1, 1) := by decide +kernel
theorem dX8_isKind_1 : decode cX8_isKind 1 = .ok (.ifCond .eq 28, 3) := by decide +kernel
theorem dX8_isKind_4 : decode cX8_isKind 4 = .ok (.iload_n 0, 1) := by decide +kernel
theorem dX8_isKind_5 : decode cX8_isKind 5 = .ok (.iload_n 1, 1) := by decide +kernel
theorem dX8_isKind_6 : decode cX8_isKind 6 = .ok (.if_icmp .eq 23, 3) := by decide +kernel
theorem dX8_isKind_9 : decode cX8_isKind 9 = .ok (.iload_n 1, 1) := by decide +kernel
theorem dX8_isKind_10 : decode cX8_isKind 10 = .ok (.iconst 1, 1) := by decide +kernel
theorem dX8_isKind_11 : decode cX8_isKind 11 = .ok (.if_icmp .ne 8, 3) := by decide +kernel
theorem dX8_isKind_14 : decode cX8_isKind 14 = .ok (.iload_n 0, 1) := by decide +kernel
theorem dX8_isKind_15 : decode cX8_isKind 15 = .ok (.iconst 4, 1) := by decide +kernel
theorem dX8_isKind_16 : decode cX8_isKind 16 = .ok (.if_icmp .lt 13, 3) := by decide +kernel
theorem dX8_isKind_19 : decode cX8_isKind 19 = .ok (.iload_n 1, 1) := by decide +kernel
theorem dX8_isKind_20 : decode cX8_isKind 20 = .ok (.iconst 4, 1) := by decide +kernel
theorem dX8_isKind_21 : decode cX8_isKind 21 = .ok (.if_icmp .ne 12, 3) := by decide +kernel
theorem dX8_isKind_24 : decode cX8_isKind 24 = .ok (.iload_n 0, 1) := by decide +kernel
theorem dX8_isKind_25 : decode cX8_isKind 25 = .ok (.iconst 5, 1) := by decide +kernel
theorem dX8_isKind_26 : decode cX8_isKind 26 = .ok (.if_icmp .ne 7, 3) := by decide +kernel
theorem dX8_isKind_29 : decode cX8_isKind 29 = .ok (.iconst 1, 1) := by decide +kernel
theorem dX8_isKind_30 : decode cX8_isKind 30 = .ok (.goto 4, 3) := by decide +kernel
theorem dX8_isKind_33 : decode cX8_isKind 33 = .ok (.iconst 0, 1) := by decide +kernel
theorem dX8_isKind_34 : decode cX8_isKind 34 = .ok (.ireturn, 1) := by decide +kernel
theorem dX8_as_0 : decode cX8_as 0 = .ok (.aload_n 0, 1) := by decide +kernel
theorem dX8_as_1 : decode cX8_as 1 = .ok (.iload_n 1, 1) := by decide +kernel
theorem dX8_as_2 : decode cX8_as 2 = .ok (.invokevirtual 175, 3) := by decide +kernel
theorem dX8_as_5 : decode cX8_as 5 = .ok (.ifCond .eq 15, 3) := by decide +kernel
theorem dX8_as_8 : decode cX8_as 8 = .ok (.iload_n 2, 1) := by decide +kernel
theorem dX8_as_9 : decode cX8_as 9 = .ok (.i2l, 1) := by decide +kernel
theorem dX8_as_10 : decode cX8_as 10 = .ok (.lconst 0, 1) := by decide +kernel
theorem dX8_as_11 : decode cX8_as 11 = .ok (.ldc2_w 259, 3) := by decide +kernel
theorem dX8_as_14 : decode cX8_as 14 = .ok (.invokestatic 57, 3) := by decide +kernel
theorem dX8_as_17 : decode cX8_as 17 = .ok (.ifCond .ne 6, 3) := by decide +kernel
theorem dX8_as_20 : decode cX8_as 20 = .ok (.ldc 67, 2) := by decide +kernel
theorem dX8_as_22 : decode cX8_as 22 = .ok (.ireturn, 1) := by decide +kernel
theorem dX8_as_23 : decode cX8_as 23 = .ok (.aload_n 0, 1) := by decide +kernel
theorem dX8_as_24 : decode cX8_as 24 = .ok (.getfield 19, 3) := by decide +kernel
theorem dX8_as_27 : decode cX8_as 27 = .ok (.iconst 5, 1) := by decide +kernel
theorem dX8_as_28 : decode cX8_as 28 = .ok (.iload_n 1, 1) := by decide +kernel
theorem dX8_as_29 : decode cX8_as 29 = .ok (.iadd, 1) := by decide +kernel
theorem dX8_as_30 : decode cX8_as 30 = .ok (.iaload, 1) := by decide +kernel
theorem dX8_as_31 : decode cX8_as 31 = .ok (.iload_n 2, 1) := by decide +kernel
theorem dX8_as_32 : decode cX8_as 32 = .ok (.invokestatic 261, 3) := by decide +kernel
theorem dX8_as_35 : decode cX8_as 35 = .ok (.ifCond .eq 11, 3) := by decide +kernel
theorem dX8_as_38 : decode cX8_as 38 = .ok (.aload_n 0, 1) := by decide +kernel
theorem dX8_as_39 : decode cX8_as 39 = .ok (.iload_n 1, 1) := by decide +kernel
theorem dX8_as_40 : decode cX8_as 40 = .ok (.invokevirtual 72, 3) := by decide +kernel
theorem dX8_as_43 : decode cX8_as 43 = .ok (.goto 8, 3) := by decide +kernel
theorem dX8_as_46 : decode cX8_as 46 = .ok (.aload_n 0, 1) := by decide +kernel
theorem dX8_as_47 : decode cX8_as 47 = .ok (.iconst 3, 1) := by decide +kernel
theorem dX8_as_48 : decode cX8_as 48 = .ok (.invokevirtual 68, 3) := by decide +kernel
theorem dX8_as_51 : decode cX8_as 51 = .ok (.ireturn, 1) := by decide +kernel
theorem dX8_begin_0 : decode cX8_begin 0 = .ok (.aload_n 0, 1) := by decide +kernel
theorem dX8_begin_1 : decode cX8_begin 1 = .ok (.getfield 264, 3) := by decide +kernel
theorem dX8_begin_4 : decode cX8_begin 4 = .ok (.bipush 16, 2) := by decide +kernel
theorem dX8_begin_6 : decode cX8_begin 6 = .ok (.if_icmp .ge 23, 3) := by decide +kernel
theorem dX8_begin_9 : decode cX8_begin 9 = .ok (.aload_n 0, 1) := by decide +kernel
theorem dX8_begin_10 : decode cX8_begin 10 = .ok (.getfield 47, 3) := by decide +kernel
theorem dX8_begin_13 : decode cX8_begin 13 = .ok (.aload_n 0, 1) := by decide +kernel
theorem dX8_begin_14 : decode cX8_begin 14 = .ok (.getfield 264, 3) := by decide +kernel
theorem dX8_begin_17 : decode cX8_begin 17 = .ok (.iload_n 1, 1) := by decide +kernel
theorem dX8_begin_18 : decode cX8_begin 18 = .ok (.iastore, 1) := by decide +kernel
theorem dX8_begin_19 : decode cX8_begin 19 = .ok (.aload_n 0, 1) := by decide +kernel
theorem dX8_begin_20 : decode cX8_begin 20 = .ok (.dup, 1) := by decide +kernel
theorem dX8_begin_21 : decode cX8_begin 21 = .ok (.getfield 264, 3) := by decide +kernel
theorem dX8_begin_24 : decode cX8_begin 24 = .ok (.iconst 1, 1) := by decide +kernel
theorem dX8_begin_25 : decode cX8_begin 25 = .ok (.iadd, 1) := by decide +kernel
theorem dX8_begin_26 : decode cX8_begin 26 = .ok (.putfield 264, 3) := by decide +kernel
theorem dX8_begin_29 : decode cX8_begin 29 = .ok (.return_, 1) := by decide +kernel
theorem dX8_lent_0 : decode cX8_lent 0 = .ok (.aload_n 0, 1) := by decide +kernel
theorem dX8_lent_1 : decode cX8_lent 1 = .ok (.iload_n 2, 1) := by decide +kernel
theorem dX8_lent_2 : decode cX8_lent 2 = .ok (.invokevirtual 267, 3) := by decide +kernel
theorem dX8_lent_5 : decode cX8_lent 5 = .ok (.iload_n 2, 1) := by decide +kernel
theorem dX8_lent_6 : decode cX8_lent 6 = .ok (.bipush 10, 2) := by decide +kernel
theorem dX8_lent_8 : decode cX8_lent 8 = .ok (.if_icmp .ne 15, 3) := by decide +kernel
theorem dX8_lent_11 : decode cX8_lent 11 = .ok (.aload_n 0, 1) := by decide +kernel
theorem dX8_lent_12 : decode cX8_lent 12 = .ok (.getfield 19, 3) := by decide +kernel
theorem dX8_lent_15 : decode cX8_lent 15 = .ok (.bipush 13, 2) := by decide +kernel
theorem dX8_lent_17 : decode cX8_lent 17 = .ok (.iload_n 1, 1) := by decide +kernel
theorem dX8_lent_18 : decode cX8_lent 18 = .ok (.iadd, 1) := by decide +kernel
theorem dX8_lent_19 : decode cX8_lent 19 = .ok (.iaload, 1) := by decide +kernel
theorem dX8_lent_20 : decode cX8_lent 20 = .ok (.goto 4, 3) := by decide +kernel
theorem dX8_lent_23 : decode cX8_lent 23 = .ok (.iload_n 1, 1) := by decide +kernel
theorem dX8_lent_24 : decode cX8_lent 24 = .ok (.ireturn, 1) := by decide +kernel
theorem dX8_woodMark_0 : decode cX8_woodMark 0 = .ok (.aload_n 0, 1) := by decide +kernel
theorem dX8_woodMark_1 : decode cX8_woodMark 1 = .ok (.bipush 21, 2) := by decide +kernel
theorem dX8_woodMark_3 : decode cX8_woodMark 3 = .ok (.invokevirtual 267, 3) := by decide +kernel
theorem dX8_woodMark_6 : decode cX8_woodMark 6 = .ok (.aload_n 0, 1) := by decide +kernel
theorem dX8_woodMark_7 : decode cX8_woodMark 7 = .ok (.iload_n 1, 1) := by decide +kernel
theorem dX8_woodMark_8 : decode cX8_woodMark 8 = .ok (.bipush 20, 2) := by decide +kernel
theorem dX8_woodMark_10 : decode cX8_woodMark 10 = .ok (.invokevirtual 270, 3) := by decide +kernel
theorem dX8_woodMark_13 : decode cX8_woodMark 13 = .ok (.aload_n 0, 1) := by decide +kernel
theorem dX8_woodMark_14 : decode cX8_woodMark 14 = .ok (.getfield 19, 3) := by decide +kernel
theorem dX8_woodMark_17 : decode cX8_woodMark 17 = .ok (.bipush 21, 2) := by decide +kernel
theorem dX8_woodMark_19 : decode cX8_woodMark 19 = .ok (.iload_n 1, 1) := by decide +kernel
theorem dX8_woodMark_20 : decode cX8_woodMark 20 = .ok (.iadd, 1) := by decide +kernel
theorem dX8_woodMark_21 : decode cX8_woodMark 21 = .ok (.iaload, 1) := by decide +kernel
theorem dX8_woodMark_22 : decode cX8_woodMark 22 = .ok (.iadd, 1) := by decide +kernel
theorem dX8_woodMark_23 : decode cX8_woodMark 23 = .ok (.ireturn, 1) := by decide +kernel
theorem dX8_parishSize_0 : decode cX8_parishSize 0 = .ok (.aload_n 0, 1) := by decide +kernel
theorem dX8_parishSize_1 : decode cX8_parishSize 1 = .ok (.bipush 13, 2) := by decide +kernel
theorem dX8_parishSize_3 : decode cX8_parishSize 3 = .ok (.invokevirtual 267, 3) := by decide +kernel
theorem dX8_parishSize_6 : decode cX8_parishSize 6 = .ok (.aload_n 0, 1) := by decide +kernel
theorem dX8_parishSize_7 : decode cX8_parishSize 7 = .ok (.iload_n 1, 1) := by decide +kernel
theorem dX8_parishSize_8 : decode cX8_parishSize 8 = .ok (.bipush 10, 2) := by decide +kernel
theorem dX8_parishSize_10 : decode cX8_parishSize 10 = .ok (.invokevirtual 270, 3) := by decide +kernel
theorem dX8_parishSize_13 : decode cX8_parishSize 13 = .ok (.bipush 100, 2) := by decide +kernel
theorem dX8_parishSize_15 : decode cX8_parishSize 15 = .ok (.isub, 1) := by decide +kernel
theorem dX8_parishSize_16 : decode cX8_parishSize 16 = .ok (.ireturn, 1) := by decide +kernel
theorem dX8_sizeOfParish_0 : decode cX8_sizeOfParish 0 = .ok (.aload_n 0, 1) := by decide +kernel
theorem dX8_sizeOfParish_1 : decode cX8_sizeOfParish 1 = .ok (.getfield 19, 3) := by decide +kernel
theorem dX8_sizeOfParish_4 : decode cX8_sizeOfParish 4 = .ok (.iconst 5, 1) := by decide +kernel
theorem dX8_sizeOfParish_5 : decode cX8_sizeOfParish 5 = .ok (.iload_n 1, 1) := by decide +kernel
theorem dX8_sizeOfParish_6 : decode cX8_sizeOfParish 6 = .ok (.iadd, 1) := by decide +kernel
theorem dX8_sizeOfParish_7 : decode cX8_sizeOfParish 7 = .ok (.iaload, 1) := by decide +kernel
theorem dX8_sizeOfParish_8 : decode cX8_sizeOfParish 8 = .ok (.iconst 5, 1) := by decide +kernel
theorem dX8_sizeOfParish_9 : decode cX8_sizeOfParish 9 = .ok (.if_icmp .ne 17, 3) := by decide +kernel
theorem dX8_sizeOfParish_12 : decode cX8_sizeOfParish 12 = .ok (.aload_n 0, 1) := by decide +kernel
theorem dX8_sizeOfParish_13 : decode cX8_sizeOfParish 13 = .ok (.bipush 14, 2) := by decide +kernel
theorem dX8_sizeOfParish_15 : decode cX8_sizeOfParish 15 = .ok (.invokevirtual 267, 3) := by decide +kernel
theorem dX8_sizeOfParish_18 : decode cX8_sizeOfParish 18 = .ok (.iconst 2, 1) := by decide +kernel
theorem dX8_sizeOfParish_19 : decode cX8_sizeOfParish 19 = .ok (.aload_n 0, 1) := by decide +kernel
theorem dX8_sizeOfParish_20 : decode cX8_sizeOfParish 20 = .ok (.iload_n 1, 1) := by decide +kernel
theorem dX8_sizeOfParish_21 : decode cX8_sizeOfParish 21 = .ok (.invokevirtual 273, 3) := by decide +kernel
theorem dX8_sizeOfParish_24 : decode cX8_sizeOfParish 24 = .ok (.imul, 1) := by decide +kernel
theorem dX8_sizeOfParish_25 : decode cX8_sizeOfParish 25 = .ok (.ireturn, 1) := by decide +kernel
theorem dX8_sizeOfParish_26 : decode cX8_sizeOfParish 26 = .ok (.aload_n 0, 1) := by decide +kernel
theorem dX8_sizeOfParish_27 : decode cX8_sizeOfParish 27 = .ok (.iload_n 1, 1) := by decide +kernel
theorem dX8_sizeOfParish_28 : decode cX8_sizeOfParish 28 = .ok (.invokevirtual 273, 3) := by decide +kernel
theorem dX8_sizeOfParish_31 : decode cX8_sizeOfParish 31 = .ok (.ireturn, 1) := by decide +kernel
theorem dX8_markOf_0 : decode cX8_markOf 0 = .ok (.aload_n 0, 1) := by decide +kernel
theorem dX8_markOf_1 : decode cX8_markOf 1 = .ok (.getfield 19, 3) := by decide +kernel
theorem dX8_markOf_4 : decode cX8_markOf 4 = .ok (.iconst 5, 1) := by decide +kernel
theorem dX8_markOf_5 : decode cX8_markOf 5 = .ok (.iload_n 1, 1) := by decide +kernel
theorem dX8_markOf_6 : decode cX8_markOf 6 = .ok (.iadd, 1) := by decide +kernel
theorem dX8_markOf_7 : decode cX8_markOf 7 = .ok (.iaload, 1) := by decide +kernel
theorem dX8_markOf_8 : decode cX8_markOf 8 = .ok (.istore_n 2, 1) := by decide +kernel
theorem dX8_markOf_9 : decode cX8_markOf 9 = .ok (.iload_n 2, 1) := by decide +kernel
theorem dX8_markOf_10 : decode cX8_markOf 10 = .ok (.iconst 2, 1) := by decide +kernel
theorem dX8_markOf_11 : decode cX8_markOf 11 = .ok (.if_icmp .ne 17, 3) := by decide +kernel
theorem dX8_markOf_14 : decode cX8_markOf 14 = .ok (.aload_n 0, 1) := by decide +kernel
theorem dX8_markOf_15 : decode cX8_markOf 15 = .ok (.bipush 24, 2) := by decide +kernel
theorem dX8_markOf_17 : decode cX8_markOf 17 = .ok (.invokevirtual 267, 3) := by decide +kernel
theorem dX8_markOf_20 : decode cX8_markOf 20 = .ok (.iconst 2, 1) := by decide +kernel
theorem dX8_markOf_21 : decode cX8_markOf 21 = .ok (.aload_n 0, 1) := by decide +kernel
theorem dX8_markOf_22 : decode cX8_markOf 22 = .ok (.iload_n 1, 1) := by decide +kernel
theorem dX8_markOf_23 : decode cX8_markOf 23 = .ok (.invokevirtual 276, 3) := by decide +kernel
theorem dX8_markOf_26 : decode cX8_markOf 26 = .ok (.imul, 1) := by decide +kernel
theorem dX8_markOf_27 : decode cX8_markOf 27 = .ok (.ireturn, 1) := by decide +kernel
theorem dX8_markOf_28 : decode cX8_markOf 28 = .ok (.iload_n 2, 1) := by decide +kernel
theorem dX8_markOf_29 : decode cX8_markOf 29 = .ok (.iconst 3, 1) := by decide +kernel
theorem dX8_markOf_30 : decode cX8_markOf 30 = .ok (.if_icmp .ne 19, 3) := by decide +kernel
theorem dX8_markOf_33 : decode cX8_markOf 33 = .ok (.aload_n 0, 1) := by decide +kernel
theorem dX8_markOf_34 : decode cX8_markOf 34 = .ok (.bipush 22, 2) := by decide +kernel
theorem dX8_markOf_36 : decode cX8_markOf 36 = .ok (.invokevirtual 267, 3) := by decide +kernel
theorem dX8_markOf_39 : decode cX8_markOf 39 = .ok (.aload_n 0, 1) := by decide +kernel
theorem dX8_markOf_40 : decode cX8_markOf 40 = .ok (.iload_n 1, 1) := by decide +kernel
theorem dX8_markOf_41 : decode cX8_markOf 41 = .ok (.invokevirtual 276, 3) := by decide +kernel
theorem dX8_markOf_44 : decode cX8_markOf 44 = .ok (.sipush 1000, 3) := by decide +kernel
theorem dX8_markOf_47 : decode cX8_markOf 47 = .ok (.isub, 1) := by decide +kernel
theorem dX8_markOf_48 : decode cX8_markOf 48 = .ok (.ireturn, 1) := by decide +kernel
theorem dX8_markOf_49 : decode cX8_markOf 49 = .ok (.iload_n 2, 1) := by decide +kernel
theorem dX8_markOf_50 : decode cX8_markOf 50 = .ok (.iconst 1, 1) := by decide +kernel
theorem dX8_markOf_51 : decode cX8_markOf 51 = .ok (.if_icmp .ne 9, 3) := by decide +kernel
theorem dX8_markOf_54 : decode cX8_markOf 54 = .ok (.aload_n 0, 1) := by decide +kernel
theorem dX8_markOf_55 : decode cX8_markOf 55 = .ok (.iload_n 1, 1) := by decide +kernel
theorem dX8_markOf_56 : decode cX8_markOf 56 = .ok (.invokevirtual 276, 3) := by decide +kernel
theorem dX8_markOf_59 : decode cX8_markOf 59 = .ok (.ireturn, 1) := by decide +kernel
theorem dX8_markOf_60 : decode cX8_markOf 60 = .ok (.aload_n 0, 1) := by decide +kernel
theorem dX8_markOf_61 : decode cX8_markOf 61 = .ok (.bipush 23, 2) := by decide +kernel
theorem dX8_markOf_63 : decode cX8_markOf 63 = .ok (.invokevirtual 267, 3) := by decide +kernel
theorem dX8_markOf_66 : decode cX8_markOf 66 = .ok (.aload_n 0, 1) := by decide +kernel
theorem dX8_markOf_67 : decode cX8_markOf 67 = .ok (.iload_n 1, 1) := by decide +kernel
theorem dX8_markOf_68 : decode cX8_markOf 68 = .ok (.bipush 20, 2) := by decide +kernel
theorem dX8_markOf_70 : decode cX8_markOf 70 = .ok (.invokevirtual 270, 3) := by decide +kernel
theorem dX8_markOf_73 : decode cX8_markOf 73 = .ok (.istore_n 3, 1) := by decide +kernel
theorem dX8_markOf_74 : decode cX8_markOf 74 = .ok (.iload_n 3, 1) := by decide +kernel
theorem dX8_markOf_75 : decode cX8_markOf 75 = .ok (.aload_n 0, 1) := by decide +kernel
theorem dX8_markOf_76 : decode cX8_markOf 76 = .ok (.iload_n 1, 1) := by decide +kernel
theorem dX8_markOf_77 : decode cX8_markOf 77 = .ok (.invokevirtual 279, 3) := by decide +kernel
theorem dX8_markOf_80 : decode cX8_markOf 80 = .ok (.isub, 1) := by decide +kernel
theorem dX8_markOf_81 : decode cX8_markOf 81 = .ok (.ireturn, 1) := by decide +kernel
theorem dX8_woodSize_0 : decode cX8_woodSize 0 = .ok (.aload_n 0, 1) := by decide +kernel
theorem dX8_woodSize_1 : decode cX8_woodSize 1 = .ok (.bipush 11, 2) := by decide +kernel
theorem dX8_woodSize_3 : decode cX8_woodSize 3 = .ok (.invokevirtual 267, 3) := by decide +kernel
theorem dX8_woodSize_6 : decode cX8_woodSize 6 = .ok (.aload_n 0, 1) := by decide +kernel
theorem dX8_woodSize_7 : decode cX8_woodSize 7 = .ok (.iload_n 1, 1) := by decide +kernel
theorem dX8_woodSize_8 : decode cX8_woodSize 8 = .ok (.bipush 10, 2) := by decide +kernel
theorem dX8_woodSize_10 : decode cX8_woodSize 10 = .ok (.invokevirtual 270, 3) := by decide +kernel
theorem dX8_woodSize_13 : decode cX8_woodSize 13 = .ok (.istore_n 2, 1) := by decide +kernel
theorem dX8_woodSize_14 : decode cX8_woodSize 14 = .ok (.iload_n 2, 1) := by decide +kernel
theorem dX8_woodSize_15 : decode cX8_woodSize 15 = .ok (.aload_n 0, 1) := by decide +kernel
theorem dX8_woodSize_16 : decode cX8_woodSize 16 = .ok (.iload_n 1, 1) := by decide +kernel
theorem dX8_woodSize_17 : decode cX8_woodSize 17 = .ok (.invokevirtual 282, 3) := by decide +kernel
theorem dX8_woodSize_20 : decode cX8_woodSize 20 = .ok (.iadd, 1) := by decide +kernel
theorem dX8_woodSize_21 : decode cX8_woodSize 21 = .ok (.ireturn, 1) := by decide +kernel
theorem dX8_sizeOf_0 : decode cX8_sizeOf 0 = .ok (.aload_n 0, 1) := by decide +kernel
theorem dX8_sizeOf_1 : decode cX8_sizeOf 1 = .ok (.getfield 19, 3) := by decide +kernel
theorem dX8_sizeOf_4 : decode cX8_sizeOf 4 = .ok (.iconst 5, 1) := by decide +kernel
theorem dX8_sizeOf_5 : decode cX8_sizeOf 5 = .ok (.iload_n 1, 1) := by decide +kernel
theorem dX8_sizeOf_6 : decode cX8_sizeOf 6 = .ok (.iadd, 1) := by decide +kernel
theorem dX8_sizeOf_7 : decode cX8_sizeOf 7 = .ok (.iaload, 1) := by decide +kernel
theorem dX8_sizeOf_8 : decode cX8_sizeOf 8 = .ok (.istore_n 2, 1) := by decide +kernel
theorem dX8_sizeOf_9 : decode cX8_sizeOf 9 = .ok (.iload_n 2, 1) := by decide +kernel
theorem dX8_sizeOf_10 : decode cX8_sizeOf 10 = .ok (.iconst 2, 1) := by decide +kernel
theorem dX8_sizeOf_11 : decode cX8_sizeOf 11 = .ok (.if_icmp .ne 16, 3) := by decide +kernel
theorem dX8_sizeOf_14 : decode cX8_sizeOf 14 = .ok (.aload_n 0, 1) := by decide +kernel
theorem dX8_sizeOf_15 : decode cX8_sizeOf 15 = .ok (.bipush 12, 2) := by decide +kernel
theorem dX8_sizeOf_17 : decode cX8_sizeOf 17 = .ok (.invokevirtual 267, 3) := by decide +kernel
theorem dX8_sizeOf_20 : decode cX8_sizeOf 20 = .ok (.aload_n 0, 1) := by decide +kernel
theorem dX8_sizeOf_21 : decode cX8_sizeOf 21 = .ok (.iload_n 1, 1) := by decide +kernel
theorem dX8_sizeOf_22 : decode cX8_sizeOf 22 = .ok (.invokevirtual 285, 3) := by decide +kernel
theorem dX8_sizeOf_25 : decode cX8_sizeOf 25 = .ok (.ineg, 1) := by decide +kernel
theorem dX8_sizeOf_26 : decode cX8_sizeOf 26 = .ok (.ireturn, 1) := by decide +kernel
theorem dX8_sizeOf_27 : decode cX8_sizeOf 27 = .ok (.iload_n 2, 1) := by decide +kernel
theorem dX8_sizeOf_28 : decode cX8_sizeOf 28 = .ok (.iconst 4, 1) := by decide +kernel
theorem dX8_sizeOf_29 : decode cX8_sizeOf 29 = .ok (.if_icmp .lt 11, 3) := by decide +kernel
theorem dX8_sizeOf_32 : decode cX8_sizeOf 32 = .ok (.aload_n 0, 1) := by decide +kernel
theorem dX8_sizeOf_33 : decode cX8_sizeOf 33 = .ok (.iload_n 1, 1) := by decide +kernel
theorem dX8_sizeOf_34 : decode cX8_sizeOf 34 = .ok (.invokevirtual 279, 3) := by decide +kernel
theorem dX8_sizeOf_37 : decode cX8_sizeOf 37 = .ok (.goto 8, 3) := by decide +kernel
theorem dX8_sizeOf_40 : decode cX8_sizeOf 40 = .ok (.aload_n 0, 1) := by decide +kernel
theorem dX8_sizeOf_41 : decode cX8_sizeOf 41 = .ok (.iload_n 1, 1) := by decide +kernel
theorem dX8_sizeOf_42 : decode cX8_sizeOf 42 = .ok (.invokevirtual 285, 3) := by decide +kernel
theorem dX8_sizeOf_45 : decode cX8_sizeOf 45 = .ok (.ireturn, 1) := by decide +kernel
theorem dX8_ask_0 : decode cX8_ask 0 = .ok (.aload_n 0, 1) := by decide +kernel
theorem dX8_ask_1 : decode cX8_ask 1 = .ok (.iload_n 1, 1) := by decide +kernel
theorem dX8_ask_2 : decode cX8_ask 2 = .ok (.invokevirtual 175, 3) := by decide +kernel
theorem dX8_ask_5 : decode cX8_ask 5 = .ok (.ifCond .eq 13, 3) := by decide +kernel
theorem dX8_ask_8 : decode cX8_ask 8 = .ok (.iload_n 2, 1) := by decide +kernel
theorem dX8_ask_9 : decode cX8_ask 9 = .ok (.i2l, 1) := by decide +kernel
theorem dX8_ask_10 : decode cX8_ask 10 = .ok (.lconst 0, 1) := by decide +kernel
theorem dX8_ask_11 : decode cX8_ask 11 = .ok (.lconst 1, 1) := by decide +kernel
theorem dX8_ask_12 : decode cX8_ask 12 = .ok (.invokestatic 57, 3) := by decide +kernel
theorem dX8_ask_15 : decode cX8_ask 15 = .ok (.ifCond .ne 6, 3) := by decide +kernel
theorem dX8_ask_18 : decode cX8_ask 18 = .ok (.ldc 67, 2) := by decide +kernel
theorem dX8_ask_20 : decode cX8_ask 20 = .ok (.ireturn, 1) := by decide +kernel
theorem dX8_ask_21 : decode cX8_ask 21 = .ok (.aload_n 0, 1) := by decide +kernel
theorem dX8_ask_22 : decode cX8_ask 22 = .ok (.iconst 0, 1) := by decide +kernel
theorem dX8_ask_23 : decode cX8_ask 23 = .ok (.putfield 264, 3) := by decide +kernel
theorem dX8_ask_26 : decode cX8_ask 26 = .ok (.iload_n 2, 1) := by decide +kernel
theorem dX8_ask_27 : decode cX8_ask 27 = .ok (.ifCond .ne 11, 3) := by decide +kernel
theorem dX8_ask_30 : decode cX8_ask 30 = .ok (.aload_n 0, 1) := by decide +kernel
theorem dX8_ask_31 : decode cX8_ask 31 = .ok (.iload_n 1, 1) := by decide +kernel
theorem dX8_ask_32 : decode cX8_ask 32 = .ok (.invokevirtual 288, 3) := by decide +kernel
theorem dX8_ask_35 : decode cX8_ask 35 = .ok (.goto 8, 3) := by decide +kernel
theorem dX8_ask_38 : decode cX8_ask 38 = .ok (.aload_n 0, 1) := by decide +kernel
theorem dX8_ask_39 : decode cX8_ask 39 = .ok (.iload_n 1, 1) := by decide +kernel
theorem dX8_ask_40 : decode cX8_ask 40 = .ok (.invokevirtual 282, 3) := by decide +kernel
theorem dX8_ask_43 : decode cX8_ask 43 = .ok (.ireturn, 1) := by decide +kernel
theorem dX8_trace_0 : decode cX8_trace 0 = .ok (.iload_n 1, 1) := by decide +kernel
theorem dX8_trace_1 : decode cX8_trace 1 = .ok (.i2l, 1) := by decide +kernel
theorem dX8_trace_2 : decode cX8_trace 2 = .ok (.lconst 0, 1) := by decide +kernel
theorem dX8_trace_3 : decode cX8_trace 3 = .ok (.aload_n 0, 1) := by decide +kernel
theorem dX8_trace_4 : decode cX8_trace 4 = .ok (.getfield 264, 3) := by decide +kernel
theorem dX8_trace_7 : decode cX8_trace 7 = .ok (.iconst 1, 1) := by decide +kernel
theorem dX8_trace_8 : decode cX8_trace 8 = .ok (.isub, 1) := by decide +kernel
theorem dX8_trace_9 : decode cX8_trace 9 = .ok (.i2l, 1) := by decide +kernel
theorem dX8_trace_10 : decode cX8_trace 10 = .ok (.invokestatic 57, 3) := by decide +kernel
theorem dX8_trace_13 : decode cX8_trace 13 = .ok (.ifCond .eq 12, 3) := by decide +kernel
theorem dX8_trace_16 : decode cX8_trace 16 = .ok (.aload_n 0, 1) := by decide +kernel
theorem dX8_trace_17 : decode cX8_trace 17 = .ok (.getfield 47, 3) := by decide +kernel
theorem dX8_trace_20 : decode cX8_trace 20 = .ok (.iload_n 1, 1) := by decide +kernel
theorem dX8_trace_21 : decode cX8_trace 21 = .ok (.iaload, 1) := by decide +kernel
theorem dX8_trace_22 : decode cX8_trace 22 = .ok (.goto 5, 3) := by decide +kernel
theorem dX8_trace_25 : decode cX8_trace 25 = .ok (.ldc 202, 2) := by decide +kernel
theorem dX8_trace_27 : decode cX8_trace 27 = .ok (.ireturn, 1) := by decide +kernel
theorem dX8_count_0 : decode cX8_count 0 = .ok (.iconst 0, 1) := by decide +kernel
theorem dX8_count_1 : decode cX8_count 1 = .ok (.istore_n 2, 1) := by decide +kernel
theorem dX8_count_2 : decode cX8_count 2 = .ok (.iconst 0, 1) := by decide +kernel
theorem dX8_count_3 : decode cX8_count 3 = .ok (.istore_n 3, 1) := by decide +kernel
theorem dX8_count_4 : decode cX8_count 4 = .ok (.iload_n 3, 1) := by decide +kernel
theorem dX8_count_5 : decode cX8_count 5 = .ok (.bipush 8, 2) := by decide +kernel
theorem dX8_count_7 : decode cX8_count 7 = .ok (.if_icmp .ge 26, 3) := by decide +kernel
theorem dX8_count_10 : decode cX8_count 10 = .ok (.iload_n 2, 1) := by decide +kernel
theorem dX8_count_11 : decode cX8_count 11 = .ok (.aload_n 0, 1) := by decide +kernel
theorem dX8_count_12 : decode cX8_count 12 = .ok (.getfield 13, 3) := by decide +kernel
theorem dX8_count_15 : decode cX8_count 15 = .ok (.iload_n 3, 1) := by decide +kernel
theorem dX8_count_16 : decode cX8_count 16 = .ok (.iaload, 1) := by decide +kernel
theorem dX8_count_17 : decode cX8_count 17 = .ok (.ifCond .lt 7, 3) := by decide +kernel
theorem dX8_count_20 : decode cX8_count 20 = .ok (.iconst 1, 1) := by decide +kernel
theorem dX8_count_21 : decode cX8_count 21 = .ok (.goto 4, 3) := by decide +kernel
theorem dX8_count_24 : decode cX8_count 24 = .ok (.iconst 0, 1) := by decide +kernel
theorem dX8_count_25 : decode cX8_count 25 = .ok (.iadd, 1) := by decide +kernel
theorem dX8_count_26 : decode cX8_count 26 = .ok (.istore_n 2, 1) := by decide +kernel
theorem dX8_count_27 : decode cX8_count 27 = .ok (.iinc 3 1, 3) := by decide +kernel
theorem dX8_count_30 : decode cX8_count 30 = .ok (.goto (-26), 3) := by decide +kernel
theorem dX8_count_33 : decode cX8_count 33 = .ok (.iload_n 1, 1) := by decide +kernel
theorem dX8_count_34 : decode cX8_count 34 = .ok (.tableswitch 94 0 7 #[46, 48, 55, 62, 70, 77, 84, 89], 46) := by decide +kernel
theorem dX8_count_80 : decode cX8_count 80 = .ok (.iload_n 2, 1) := by decide +kernel
theorem dX8_count_81 : decode cX8_count 81 = .ok (.ireturn, 1) := by decide +kernel
theorem dX8_count_82 : decode cX8_count 82 = .ok (.aload_n 0, 1) := by decide +kernel
theorem dX8_count_83 : decode cX8_count 83 = .ok (.getfield 19, 3) := by decide +kernel
theorem dX8_count_86 : decode cX8_count 86 = .ok (.iconst 0, 1) := by decide +kernel
theorem dX8_count_87 : decode cX8_count 87 = .ok (.iaload, 1) := by decide +kernel
theorem dX8_count_88 : decode cX8_count 88 = .ok (.ireturn, 1) := by decide +kernel
theorem dX8_count_89 : decode cX8_count 89 = .ok (.aload_n 0, 1) := by decide +kernel
theorem dX8_count_90 : decode cX8_count 90 = .ok (.getfield 19, 3) := by decide +kernel
theorem dX8_count_93 : decode cX8_count 93 = .ok (.iconst 3, 1) := by decide +kernel
theorem dX8_count_94 : decode cX8_count 94 = .ok (.iaload, 1) := by decide +kernel
theorem dX8_count_95 : decode cX8_count 95 = .ok (.ireturn, 1) := by decide +kernel
theorem dX8_count_96 : decode cX8_count 96 = .ok (.aload_n 0, 1) := by decide +kernel
theorem dX8_count_97 : decode cX8_count 97 = .ok (.invokevirtual 155, 3) := by decide +kernel
theorem dX8_count_100 : decode cX8_count 100 = .ok (.invokestatic 215, 3) := by decide +kernel
theorem dX8_count_103 : decode cX8_count 103 = .ok (.ireturn, 1) := by decide +kernel
theorem dX8_count_104 : decode cX8_count 104 = .ok (.aload_n 0, 1) := by decide +kernel
theorem dX8_count_105 : decode cX8_count 105 = .ok (.iconst 0, 1) := by decide +kernel
theorem dX8_count_106 : decode cX8_count 106 = .ok (.iconst 1, 1) := by decide +kernel
theorem dX8_count_107 : decode cX8_count 107 = .ok (.invokevirtual 184, 3) := by decide +kernel
theorem dX8_count_110 : decode cX8_count 110 = .ok (.ireturn, 1) := by decide +kernel
theorem dX8_count_111 : decode cX8_count 111 = .ok (.aload_n 0, 1) := by decide +kernel
theorem dX8_count_112 : decode cX8_count 112 = .ok (.getfield 19, 3) := by decide +kernel
theorem dX8_count_115 : decode cX8_count 115 = .ok (.iconst 4, 1) := by decide +kernel
theorem dX8_count_116 : decode cX8_count 116 = .ok (.iaload, 1) := by decide +kernel
theorem dX8_count_117 : decode cX8_count 117 = .ok (.ireturn, 1) := by decide +kernel
theorem dX8_count_118 : decode cX8_count 118 = .ok (.aload_n 0, 1) := by decide +kernel
theorem dX8_count_119 : decode cX8_count 119 = .ok (.getfield 139, 3) := by decide +kernel
theorem dX8_count_122 : decode cX8_count 122 = .ok (.ireturn, 1) := by decide +kernel
theorem dX8_count_123 : decode cX8_count 123 = .ok (.aload_n 0, 1) := by decide +kernel
theorem dX8_count_124 : decode cX8_count 124 = .ok (.getfield 81, 3) := by decide +kernel
theorem dX8_count_127 : decode cX8_count 127 = .ok (.ireturn, 1) := by decide +kernel
theorem dX8_count_128 : decode cX8_count 128 = .ok (.ldc 67, 2) := by decide +kernel
theorem dX8_count_130 : decode cX8_count 130 = .ok (.ireturn, 1) := by decide +kernel
theorem dX8_status_0 : decode cX8_status 0 = .ok (.aload_n 0, 1) := by decide +kernel
theorem dX8_status_1 : decode cX8_status 1 = .ok (.getfield 50, 3) := by decide +kernel
theorem dX8_status_4 : decode cX8_status 4 = .ok (.ireturn, 1) := by decide +kernel
