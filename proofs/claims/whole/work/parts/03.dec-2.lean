theorem dX8_init_0 : decode cX8_init 0 = .ok (.aload_n 0, 1) := by decide +kernel
theorem dX8_init_1 : decode cX8_init 1 = .ok (.invokespecial 1, 3) := by decide +kernel
theorem dX8_init_4 : decode cX8_init 4 = .ok (.aload_n 0, 1) := by decide +kernel
theorem dX8_init_5 : decode cX8_init 5 = .ok (.bipush 80, 2) := by decide +kernel
theorem dX8_init_7 : decode cX8_init 7 = .ok (.newarray .int, 2) := by decide +kernel
theorem dX8_init_9 : decode cX8_init 9 = .ok (.putfield 7, 3) := by decide +kernel
theorem dX8_init_12 : decode cX8_init 12 = .ok (.aload_n 0, 1) := by decide +kernel
theorem dX8_init_13 : decode cX8_init 13 = .ok (.bipush 39, 2) := by decide +kernel
theorem dX8_init_15 : decode cX8_init 15 = .ok (.newarray .int, 2) := by decide +kernel
theorem dX8_init_17 : decode cX8_init 17 = .ok (.putfield 13, 3) := by decide +kernel
theorem dX8_init_20 : decode cX8_init 20 = .ok (.aload_n 0, 1) := by decide +kernel
theorem dX8_init_21 : decode cX8_init 21 = .ok (.bipush 80, 2) := by decide +kernel
theorem dX8_init_23 : decode cX8_init 23 = .ok (.newarray .int, 2) := by decide +kernel
theorem dX8_init_25 : decode cX8_init 25 = .ok (.putfield 16, 3) := by decide +kernel
theorem dX8_init_28 : decode cX8_init 28 = .ok (.aload_n 0, 1) := by decide +kernel
theorem dX8_init_29 : decode cX8_init 29 = .ok (.bipush 39, 2) := by decide +kernel
theorem dX8_init_31 : decode cX8_init 31 = .ok (.newarray .int, 2) := by decide +kernel
theorem dX8_init_33 : decode cX8_init 33 = .ok (.putfield 19, 3) := by decide +kernel
theorem dX8_init_36 : decode cX8_init 36 = .ok (.aload_n 0, 1) := by decide +kernel
theorem dX8_init_37 : decode cX8_init 37 = .ok (.bipush 39, 2) := by decide +kernel
theorem dX8_init_39 : decode cX8_init 39 = .ok (.newarray .int, 2) := by decide +kernel
theorem dX8_init_41 : decode cX8_init 41 = .ok (.putfield 22, 3) := by decide +kernel
theorem dX8_init_44 : decode cX8_init 44 = .ok (.aload_n 0, 1) := by decide +kernel
theorem dX8_init_45 : decode cX8_init 45 = .ok (.bipush 80, 2) := by decide +kernel
theorem dX8_init_47 : decode cX8_init 47 = .ok (.newarray .int, 2) := by decide +kernel
theorem dX8_init_49 : decode cX8_init 49 = .ok (.putfield 25, 3) := by decide +kernel
theorem dX8_init_52 : decode cX8_init 52 = .ok (.aload_n 0, 1) := by decide +kernel
theorem dX8_init_53 : decode cX8_init 53 = .ok (.bipush 39, 2) := by decide +kernel
theorem dX8_init_55 : decode cX8_init 55 = .ok (.newarray .int, 2) := by decide +kernel
theorem dX8_init_57 : decode cX8_init 57 = .ok (.putfield 28, 3) := by decide +kernel
theorem dX8_init_60 : decode cX8_init 60 = .ok (.aload_n 0, 1) := by decide +kernel
theorem dX8_init_61 : decode cX8_init 61 = .ok (.sipush 546, 3) := by decide +kernel
theorem dX8_init_64 : decode cX8_init 64 = .ok (.newarray .int, 2) := by decide +kernel
theorem dX8_init_66 : decode cX8_init 66 = .ok (.putfield 31, 3) := by decide +kernel
theorem dX8_init_69 : decode cX8_init 69 = .ok (.aload_n 0, 1) := by decide +kernel
theorem dX8_init_70 : decode cX8_init 70 = .ok (.bipush 78, 2) := by decide +kernel
theorem dX8_init_72 : decode cX8_init 72 = .ok (.newarray .int, 2) := by decide +kernel
theorem dX8_init_74 : decode cX8_init 74 = .ok (.putfield 34, 3) := by decide +kernel
theorem dX8_init_77 : decode cX8_init 77 = .ok (.aload_n 0, 1) := by decide +kernel
theorem dX8_init_78 : decode cX8_init 78 = .ok (.iconst 2, 1) := by decide +kernel
theorem dX8_init_79 : decode cX8_init 79 = .ok (.newarray .boolean, 2) := by decide +kernel
theorem dX8_init_81 : decode cX8_init 81 = .ok (.putfield 37, 3) := by decide +kernel
theorem dX8_init_84 : decode cX8_init 84 = .ok (.aload_n 0, 1) := by decide +kernel
theorem dX8_init_85 : decode cX8_init 85 = .ok (.bipush 6, 2) := by decide +kernel
theorem dX8_init_87 : decode cX8_init 87 = .ok (.newarray .int, 2) := by decide +kernel
theorem dX8_init_89 : decode cX8_init 89 = .ok (.putfield 41, 3) := by decide +kernel
theorem dX8_init_92 : decode cX8_init 92 = .ok (.aload_n 0, 1) := by decide +kernel
theorem dX8_init_93 : decode cX8_init 93 = .ok (.bipush 6, 2) := by decide +kernel
theorem dX8_init_95 : decode cX8_init 95 = .ok (.newarray .int, 2) := by decide +kernel
theorem dX8_init_97 : decode cX8_init 97 = .ok (.putfield 44, 3) := by decide +kernel
theorem dX8_init_100 : decode cX8_init 100 = .ok (.aload_n 0, 1) := by decide +kernel
theorem dX8_init_101 : decode cX8_init 101 = .ok (.bipush 100, 2) := by decide +kernel
theorem dX8_init_103 : decode cX8_init 103 = .ok (.newarray .int, 2) := by decide +kernel
theorem dX8_init_105 : decode cX8_init 105 = .ok (.putfield 47, 3) := by decide +kernel
theorem dX8_init_108 : decode cX8_init 108 = .ok (.aload_n 0, 1) := by decide +kernel
theorem dX8_init_109 : decode cX8_init 109 = .ok (.bipush 7, 2) := by decide +kernel
theorem dX8_init_111 : decode cX8_init 111 = .ok (.putfield 50, 3) := by decide +kernel
theorem dX8_init_114 : decode cX8_init 114 = .ok (.aload_n 0, 1) := by decide +kernel
theorem dX8_init_115 : decode cX8_init 115 = .ok (.getfield 19, 3) := by decide +kernel
theorem dX8_init_118 : decode cX8_init 118 = .ok (.invokestatic 54, 3) := by decide +kernel
theorem dX8_init_121 : decode cX8_init 121 = .ok (.aload_n 0, 1) := by decide +kernel
theorem dX8_init_122 : decode cX8_init 122 = .ok (.getfield 22, 3) := by decide +kernel
theorem dX8_init_125 : decode cX8_init 125 = .ok (.invokestatic 54, 3) := by decide +kernel
theorem dX8_init_128 : decode cX8_init 128 = .ok (.return_, 1) := by decide +kernel
theorem dX8_in_0 : decode cX8_in 0 = .ok (.lload_n 0, 1) := by decide +kernel
theorem dX8_in_1 : decode cX8_in 1 = .ok (.lload_n 2, 1) := by decide +kernel
theorem dX8_in_2 : decode cX8_in 2 = .ok (.lcmp, 1) := by decide +kernel
theorem dX8_in_3 : decode cX8_in 3 = .ok (.ifCond .lt 14, 3) := by decide +kernel
theorem dX8_in_6 : decode cX8_in 6 = .ok (.lload_n 0, 1) := by decide +kernel
theorem dX8_in_7 : decode cX8_in 7 = .ok (.lload 4, 2) := by decide +kernel
theorem dX8_in_9 : decode cX8_in 9 = .ok (.lcmp, 1) := by decide +kernel
theorem dX8_in_10 : decode cX8_in 10 = .ok (.ifCond .gt 7, 3) := by decide +kernel
theorem dX8_in_13 : decode cX8_in 13 = .ok (.iconst 1, 1) := by decide +kernel
theorem dX8_in_14 : decode cX8_in 14 = .ok (.goto 4, 3) := by decide +kernel
theorem dX8_in_17 : decode cX8_in 17 = .ok (.iconst 0, 1) := by decide +kernel
theorem dX8_in_18 : decode cX8_in 18 = .ok (.ireturn, 1) := by decide +kernel
theorem dX8_has_0 : decode cX8_has 0 = .ok (.iload_n 0, 1) := by decide +kernel
theorem dX8_has_1 : decode cX8_has 1 = .ok (.iload_n 1, 1) := by decide +kernel
theorem dX8_has_2 : decode cX8_has 2 = .ok (.ishr, 1) := by decide +kernel
theorem dX8_has_3 : decode cX8_has 3 = .ok (.iconst 1, 1) := by decide +kernel
theorem dX8_has_4 : decode cX8_has 4 = .ok (.iand, 1) := by decide +kernel
theorem dX8_has_5 : decode cX8_has 5 = .ok (.iconst 1, 1) := by decide +kernel
theorem dX8_has_6 : decode cX8_has 6 = .ok (.if_icmp .ne 7, 3) := by decide +kernel
theorem dX8_has_9 : decode cX8_has 9 = .ok (.iconst 1, 1) := by decide +kernel
theorem dX8_has_10 : decode cX8_has 10 = .ok (.goto 4, 3) := by decide +kernel
theorem dX8_has_13 : decode cX8_has 13 = .ok (.iconst 0, 1) := by decide +kernel
theorem dX8_has_14 : decode cX8_has 14 = .ok (.ireturn, 1) := by decide +kernel
theorem dX8_ones_0 : decode cX8_ones 0 = .ok (.iconst 0, 1) := by decide +kernel
theorem dX8_ones_1 : decode cX8_ones 1 = .ok (.istore_n 1, 1) := by decide +kernel
theorem dX8_ones_2 : decode cX8_ones 2 = .ok (.iconst 0, 1) := by decide +kernel
theorem dX8_ones_3 : decode cX8_ones 3 = .ok (.istore_n 2, 1) := by decide +kernel
theorem dX8_ones_4 : decode cX8_ones 4 = .ok (.iload_n 2, 1) := by decide +kernel
theorem dX8_ones_5 : decode cX8_ones 5 = .ok (.bipush 12, 2) := by decide +kernel
theorem dX8_ones_7 : decode cX8_ones 7 = .ok (.if_icmp .ge 17, 3) := by decide +kernel
theorem dX8_ones_10 : decode cX8_ones 10 = .ok (.iload_n 1, 1) := by decide +kernel
theorem dX8_ones_11 : decode cX8_ones 11 = .ok (.iload_n 0, 1) := by decide +kernel
theorem dX8_ones_12 : decode cX8_ones 12 = .ok (.iload_n 2, 1) := by decide +kernel
theorem dX8_ones_13 : decode cX8_ones 13 = .ok (.ishr, 1) := by decide +kernel
theorem dX8_ones_14 : decode cX8_ones 14 = .ok (.iconst 1, 1) := by decide +kernel
theorem dX8_ones_15 : decode cX8_ones 15 = .ok (.iand, 1) := by decide +kernel
theorem dX8_ones_16 : decode cX8_ones 16 = .ok (.iadd, 1) := by decide +kernel
theorem dX8_ones_17 : decode cX8_ones 17 = .ok (.istore_n 1, 1) := by decide +kernel
theorem dX8_ones_18 : decode cX8_ones 18 = .ok (.iinc 2 1, 3) := by decide +kernel
theorem dX8_ones_21 : decode cX8_ones 21 = .ok (.goto (-17), 3) := by decide +kernel
theorem dX8_ones_24 : decode cX8_ones 24 = .ok (.iload_n 1, 1) := by decide +kernel
theorem dX8_ones_25 : decode cX8_ones 25 = .ok (.ireturn, 1) := by decide +kernel
theorem dX8_power_0 : decode cX8_power 0 = .ok (.iconst 1, 1) := by decide +kernel
theorem dX8_power_1 : decode cX8_power 1 = .ok (.istore_n 2, 1) := by decide +kernel
theorem dX8_power_2 : decode cX8_power 2 = .ok (.iconst 0, 1) := by decide +kernel
theorem dX8_power_3 : decode cX8_power 3 = .ok (.istore_n 3, 1) := by decide +kernel
theorem dX8_power_4 : decode cX8_power 4 = .ok (.iload_n 3, 1) := by decide +kernel
theorem dX8_power_5 : decode cX8_power 5 = .ok (.iload_n 1, 1) := by decide +kernel
theorem dX8_power_6 : decode cX8_power 6 = .ok (.if_icmp .ge 13, 3) := by decide +kernel
theorem dX8_power_9 : decode cX8_power 9 = .ok (.iload_n 2, 1) := by decide +kernel
theorem dX8_power_10 : decode cX8_power 10 = .ok (.iload_n 0, 1) := by decide +kernel
theorem dX8_power_11 : decode cX8_power 11 = .ok (.imul, 1) := by decide +kernel
theorem dX8_power_12 : decode cX8_power 12 = .ok (.istore_n 2, 1) := by decide +kernel
theorem dX8_power_13 : decode cX8_power 13 = .ok (.iinc 3 1, 3) := by decide +kernel
theorem dX8_power_16 : decode cX8_power 16 = .ok (.goto (-12), 3) := by decide +kernel
theorem dX8_power_19 : decode cX8_power 19 = .ok (.iload_n 2, 1) := by decide +kernel
theorem dX8_power_20 : decode cX8_power 20 = .ok (.ireturn, 1) := by decide +kernel
theorem dX8_layFirst_0 : decode cX8_layFirst 0 = .ok (.iconst 0, 1) := by decide +kernel
theorem dX8_layFirst_1 : decode cX8_layFirst 1 = .ok (.istore_n 1, 1) := by decide +kernel
theorem dX8_layFirst_2 : decode cX8_layFirst 2 = .ok (.iload_n 1, 1) := by decide +kernel
theorem dX8_layFirst_3 : decode cX8_layFirst 3 = .ok (.bipush 39, 2) := by decide +kernel
theorem dX8_layFirst_5 : decode cX8_layFirst 5 = .ok (.if_icmp .ge 13, 3) := by decide +kernel
theorem dX8_layFirst_8 : decode cX8_layFirst 8 = .ok (.aload_n 0, 1) := by decide +kernel
theorem dX8_layFirst_9 : decode cX8_layFirst 9 = .ok (.iload_n 1, 1) := by decide +kernel
theorem dX8_layFirst_10 : decode cX8_layFirst 10 = .ok (.iconst 0, 1) := by decide +kernel
theorem dX8_layFirst_11 : decode cX8_layFirst 11 = .ok (.iastore, 1) := by decide +kernel
theorem dX8_layFirst_12 : decode cX8_layFirst 12 = .ok (.iinc 1 1, 3) := by decide +kernel
theorem dX8_layFirst_15 : decode cX8_layFirst 15 = .ok (.goto (-13), 3) := by decide +kernel
theorem dX8_layFirst_18 : decode cX8_layFirst 18 = .ok (.aload_n 0, 1) := by decide +kernel
theorem dX8_layFirst_19 : decode cX8_layFirst 19 = .ok (.bipush 9, 2) := by decide +kernel
theorem dX8_layFirst_21 : decode cX8_layFirst 21 = .ok (.iconst 1, 1) := by decide +kernel
theorem dX8_layFirst_22 : decode cX8_layFirst 22 = .ok (.iastore, 1) := by decide +kernel
theorem dX8_layFirst_23 : decode cX8_layFirst 23 = .ok (.aload_n 0, 1) := by decide +kernel
theorem dX8_layFirst_24 : decode cX8_layFirst 24 = .ok (.bipush 10, 2) := by decide +kernel
theorem dX8_layFirst_26 : decode cX8_layFirst 26 = .ok (.iconst 2, 1) := by decide +kernel
theorem dX8_layFirst_27 : decode cX8_layFirst 27 = .ok (.iastore, 1) := by decide +kernel
theorem dX8_layFirst_28 : decode cX8_layFirst 28 = .ok (.iconst 0, 1) := by decide +kernel
theorem dX8_layFirst_29 : decode cX8_layFirst 29 = .ok (.istore_n 1, 1) := by decide +kernel
theorem dX8_layFirst_30 : decode cX8_layFirst 30 = .ok (.iload_n 1, 1) := by decide +kernel
theorem dX8_layFirst_31 : decode cX8_layFirst 31 = .ok (.iconst 2, 1) := by decide +kernel
theorem dX8_layFirst_32 : decode cX8_layFirst 32 = .ok (.if_icmp .ge 34, 3) := by decide +kernel
theorem dX8_layFirst_35 : decode cX8_layFirst 35 = .ok (.iconst 0, 1) := by decide +kernel
theorem dX8_layFirst_36 : decode cX8_layFirst 36 = .ok (.istore_n 2, 1) := by decide +kernel
theorem dX8_layFirst_37 : decode cX8_layFirst 37 = .ok (.iload_n 2, 1) := by decide +kernel
theorem dX8_layFirst_38 : decode cX8_layFirst 38 = .ok (.iconst 4, 1) := by decide +kernel
theorem dX8_layFirst_39 : decode cX8_layFirst 39 = .ok (.if_icmp .ge 21, 3) := by decide +kernel
theorem dX8_layFirst_42 : decode cX8_layFirst 42 = .ok (.aload_n 0, 1) := by decide +kernel
theorem dX8_layFirst_43 : decode cX8_layFirst 43 = .ok (.bipush 11, 2) := by decide +kernel
theorem dX8_layFirst_45 : decode cX8_layFirst 45 = .ok (.bipush 14, 2) := by decide +kernel
theorem dX8_layFirst_47 : decode cX8_layFirst 47 = .ok (.iload_n 1, 1) := by decide +kernel
theorem dX8_layFirst_48 : decode cX8_layFirst 48 = .ok (.imul, 1) := by decide +kernel
theorem dX8_layFirst_49 : decode cX8_layFirst 49 = .ok (.iadd, 1) := by decide +kernel
theorem dX8_layFirst_50 : decode cX8_layFirst 50 = .ok (.iload_n 2, 1) := by decide +kernel
theorem dX8_layFirst_51 : decode cX8_layFirst 51 = .ok (.iadd, 1) := by decide +kernel
theorem dX8_layFirst_52 : decode cX8_layFirst 52 = .ok (.iconst 1, 1) := by decide +kernel
theorem dX8_layFirst_53 : decode cX8_layFirst 53 = .ok (.iastore, 1) := by decide +kernel
theorem dX8_layFirst_54 : decode cX8_layFirst 54 = .ok (.iinc 2 1, 3) := by decide +kernel
theorem dX8_layFirst_57 : decode cX8_layFirst 57 = .ok (.goto (-20), 3) := by decide +kernel
theorem dX8_layFirst_60 : decode cX8_layFirst 60 = .ok (.iinc 1 1, 3) := by decide +kernel
theorem dX8_layFirst_63 : decode cX8_layFirst 63 = .ok (.goto (-33), 3) := by decide +kernel
theorem dX8_layFirst_66 : decode cX8_layFirst 66 = .ok (.return_, 1) := by decide +kernel
theorem dX8_lay_0 : decode cX8_lay 0 = .ok (.iconst 0, 1) := by decide +kernel
theorem dX8_lay_1 : decode cX8_lay 1 = .ok (.istore_n 2, 1) := by decide +kernel
theorem dX8_lay_2 : decode cX8_lay 2 = .ok (.iload_n 2, 1) := by decide +kernel
theorem dX8_lay_3 : decode cX8_lay 3 = .ok (.bipush 39, 2) := by decide +kernel
theorem dX8_lay_5 : decode cX8_lay 5 = .ok (.if_icmp .ge 15, 3) := by decide +kernel
theorem dX8_lay_8 : decode cX8_lay 8 = .ok (.aload_n 1, 1) := by decide +kernel
theorem dX8_lay_9 : decode cX8_lay 9 = .ok (.iload_n 2, 1) := by decide +kernel
theorem dX8_lay_10 : decode cX8_lay 10 = .ok (.aload_n 0, 1) := by decide +kernel
theorem dX8_lay_11 : decode cX8_lay 11 = .ok (.iload_n 2, 1) := by decide +kernel
theorem dX8_lay_12 : decode cX8_lay 12 = .ok (.iaload, 1) := by decide +kernel
theorem dX8_lay_13 : decode cX8_lay 13 = .ok (.iastore, 1) := by decide +kernel
theorem dX8_lay_14 : decode cX8_lay 14 = .ok (.iinc 2 1, 3) := by decide +kernel
theorem dX8_lay_17 : decode cX8_lay 17 = .ok (.goto (-15), 3) := by decide +kernel
theorem dX8_lay_20 : decode cX8_lay 20 = .ok (.return_, 1) := by decide +kernel
theorem dX8_at_0 : decode cX8_at 0 = .ok (.bipush 11, 2) := by decide +kernel
theorem dX8_at_2 : decode cX8_at 2 = .ok (.bipush 14, 2) := by decide +kernel
theorem dX8_at_4 : decode cX8_at 4 = .ok (.iload_n 0, 1) := by decide +kernel
theorem dX8_at_5 : decode cX8_at 5 = .ok (.imul, 1) := by decide +kernel
theorem dX8_at_6 : decode cX8_at 6 = .ok (.iadd, 1) := by decide +kernel
theorem dX8_at_7 : decode cX8_at 7 = .ok (.ireturn, 1) := by decide +kernel
theorem dX8_noEnd_0 : decode cX8_noEnd 0 = .ok (.iload_n 0, 1) := by decide +kernel
theorem dX8_noEnd_1 : decode cX8_noEnd 1 = .ok (.i2l, 1) := by decide +kernel
theorem dX8_noEnd_2 : decode cX8_noEnd 2 = .ok (.lconst 0, 1) := by decide +kernel
theorem dX8_noEnd_3 : decode cX8_noEnd 3 = .ok (.lconst 1, 1) := by decide +kernel
theorem dX8_noEnd_4 : decode cX8_noEnd 4 = .ok (.invokestatic 61, 3) := by decide +kernel
theorem dX8_noEnd_7 : decode cX8_noEnd 7 = .ok (.ifCond .ne 7, 3) := by decide +kernel
theorem dX8_noEnd_10 : decode cX8_noEnd 10 = .ok (.iconst 1, 1) := by decide +kernel
theorem dX8_noEnd_11 : decode cX8_noEnd 11 = .ok (.goto 4, 3) := by decide +kernel
theorem dX8_noEnd_14 : decode cX8_noEnd 14 = .ok (.iconst 0, 1) := by decide +kernel
theorem dX8_noEnd_15 : decode cX8_noEnd 15 = .ok (.ireturn, 1) := by decide +kernel
theorem dX8_isFull_0 : decode cX8_isFull 0 = .ok (.aload_n 0, 1) := by decide +kernel
theorem dX8_isFull_1 : decode cX8_isFull 1 = .ok (.iload_n 1, 1) := by decide +kernel
theorem dX8_isFull_2 : decode cX8_isFull 2 = .ok (.invokestatic 65, 3) := by decide +kernel
theorem dX8_isFull_5 : decode cX8_isFull 5 = .ok (.iconst 4, 1) := by decide +kernel
theorem dX8_isFull_6 : decode cX8_isFull 6 = .ok (.iadd, 1) := by decide +kernel
theorem dX8_isFull_7 : decode cX8_isFull 7 = .ok (.iaload, 1) := by decide +kernel
theorem dX8_isFull_8 : decode cX8_isFull 8 = .ok (.bipush 9, 2) := by decide +kernel
theorem dX8_isFull_10 : decode cX8_isFull 10 = .ok (.if_icmp .ne 7, 3) := by decide +kernel
theorem dX8_isFull_13 : decode cX8_isFull 13 = .ok (.iconst 1, 1) := by decide +kernel
theorem dX8_isFull_14 : decode cX8_isFull 14 = .ok (.goto 4, 3) := by decide +kernel
theorem dX8_isFull_17 : decode cX8_isFull 17 = .ok (.iconst 0, 1) := by decide +kernel
theorem dX8_isFull_18 : decode cX8_isFull 18 = .ok (.ireturn, 1) := by decide +kernel
theorem dX8_comeOn_0 : decode cX8_comeOn 0 = .ok (.iload_n 1, 1) := by decide +kernel
theorem dX8_comeOn_1 : decode cX8_comeOn 1 = .ok (.invokestatic 65, 3) := by decide +kernel
theorem dX8_comeOn_4 : decode cX8_comeOn 4 = .ok (.istore_n 3, 1) := by decide +kernel
theorem dX8_comeOn_5 : decode cX8_comeOn 5 = .ok (.aload_n 0, 1) := by decide +kernel
theorem dX8_comeOn_6 : decode cX8_comeOn 6 = .ok (.iload_n 3, 1) := by decide +kernel
theorem dX8_comeOn_7 : decode cX8_comeOn 7 = .ok (.iconst 5, 1) := by decide +kernel
theorem dX8_comeOn_8 : decode cX8_comeOn 8 = .ok (.iadd, 1) := by decide +kernel
theorem dX8_comeOn_9 : decode cX8_comeOn 9 = .ok (.aload_n 0, 1) := by decide +kernel
theorem dX8_comeOn_10 : decode cX8_comeOn 10 = .ok (.iload_n 3, 1) := by decide +kernel
theorem dX8_comeOn_11 : decode cX8_comeOn 11 = .ok (.iconst 4, 1) := by decide +kernel
theorem dX8_comeOn_12 : decode cX8_comeOn 12 = .ok (.iadd, 1) := by decide +kernel
theorem dX8_comeOn_13 : decode cX8_comeOn 13 = .ok (.iaload, 1) := by decide +kernel
theorem dX8_comeOn_14 : decode cX8_comeOn 14 = .ok (.iadd, 1) := by decide +kernel
theorem dX8_comeOn_15 : decode cX8_comeOn 15 = .ok (.bipush 10, 2) := by decide +kernel
theorem dX8_comeOn_17 : decode cX8_comeOn 17 = .ok (.aload_n 0, 1) := by decide +kernel
theorem dX8_comeOn_18 : decode cX8_comeOn 18 = .ok (.iconst 3, 1) := by decide +kernel
theorem dX8_comeOn_19 : decode cX8_comeOn 19 = .ok (.iaload, 1) := by decide +kernel
theorem dX8_comeOn_20 : decode cX8_comeOn 20 = .ok (.imul, 1) := by decide +kernel
theorem dX8_comeOn_21 : decode cX8_comeOn 21 = .ok (.iload_n 2, 1) := by decide +kernel
theorem dX8_comeOn_22 : decode cX8_comeOn 22 = .ok (.iadd, 1) := by decide +kernel
theorem dX8_comeOn_23 : decode cX8_comeOn 23 = .ok (.iastore, 1) := by decide +kernel
theorem dX8_comeOn_24 : decode cX8_comeOn 24 = .ok (.aload_n 0, 1) := by decide +kernel
theorem dX8_comeOn_25 : decode cX8_comeOn 25 = .ok (.iload_n 3, 1) := by decide +kernel
theorem dX8_comeOn_26 : decode cX8_comeOn 26 = .ok (.iconst 4, 1) := by decide +kernel
theorem dX8_comeOn_27 : decode cX8_comeOn 27 = .ok (.iadd, 1) := by decide +kernel
theorem dX8_comeOn_28 : decode cX8_comeOn 28 = .ok (.dup2, 1) := by decide +kernel
theorem dX8_comeOn_29 : decode cX8_comeOn 29 = .ok (.iaload, 1) := by decide +kernel
theorem dX8_comeOn_30 : decode cX8_comeOn 30 = .ok (.iconst 1, 1) := by decide +kernel
theorem dX8_comeOn_31 : decode cX8_comeOn 31 = .ok (.iadd, 1) := by decide +kernel
theorem dX8_comeOn_32 : decode cX8_comeOn 32 = .ok (.iastore, 1) := by decide +kernel
theorem dX8_comeOn_33 : decode cX8_comeOn 33 = .ok (.return_, 1) := by decide +kernel
theorem dX8_isDue_0 : decode cX8_isDue 0 = .ok (.iload_n 2, 1) := by decide +kernel
theorem dX8_isDue_1 : decode cX8_isDue 1 = .ok (.invokestatic 65, 3) := by decide +kernel
theorem dX8_isDue_4 : decode cX8_isDue 4 = .ok (.istore_n 3, 1) := by decide +kernel
theorem dX8_isDue_5 : decode cX8_isDue 5 = .ok (.aload_n 1, 1) := by decide +kernel
theorem dX8_isDue_6 : decode cX8_isDue 6 = .ok (.iload_n 3, 1) := by decide +kernel
theorem dX8_isDue_7 : decode cX8_isDue 7 = .ok (.iconst 4, 1) := by decide +kernel
theorem dX8_isDue_8 : decode cX8_isDue 8 = .ok (.iadd, 1) := by decide +kernel
theorem dX8_isDue_9 : decode cX8_isDue 9 = .ok (.iaload, 1) := by decide +kernel
theorem dX8_isDue_10 : decode cX8_isDue 10 = .ok (.aload_n 1, 1) := by decide +kernel
theorem dX8_isDue_11 : decode cX8_isDue 11 = .ok (.iload_n 3, 1) := by decide +kernel
theorem dX8_isDue_12 : decode cX8_isDue 12 = .ok (.iconst 1, 1) := by decide +kernel
theorem dX8_isDue_13 : decode cX8_isDue 13 = .ok (.iadd, 1) := by decide +kernel
theorem dX8_isDue_14 : decode cX8_isDue 14 = .ok (.iaload, 1) := by decide +kernel
theorem dX8_isDue_15 : decode cX8_isDue 15 = .ok (.if_icmp .lt 7, 3) := by decide +kernel
theorem dX8_isDue_18 : decode cX8_isDue 18 = .ok (.iconst 1, 1) := by decide +kernel
theorem dX8_isDue_19 : decode cX8_isDue 19 = .ok (.goto 4, 3) := by decide +kernel
theorem dX8_isDue_22 : decode cX8_isDue 22 = .ok (.iconst 0, 1) := by decide +kernel
theorem dX8_isDue_23 : decode cX8_isDue 23 = .ok (.istore 4, 2) := by decide +kernel
theorem dX8_isDue_25 : decode cX8_isDue 25 = .ok (.iconst 0, 1) := by decide +kernel
theorem dX8_isDue_26 : decode cX8_isDue 26 = .ok (.istore 5, 2) := by decide +kernel
theorem dX8_isDue_28 : decode cX8_isDue 28 = .ok (.iload 5, 2) := by decide +kernel
theorem dX8_isDue_30 : decode cX8_isDue 30 = .ok (.aload_n 1, 1) := by decide +kernel
theorem dX8_isDue_31 : decode cX8_isDue 31 = .ok (.iload_n 3, 1) := by decide +kernel
theorem dX8_isDue_32 : decode cX8_isDue 32 = .ok (.iconst 4, 1) := by decide +kernel
theorem dX8_isDue_33 : decode cX8_isDue 33 = .ok (.iadd, 1) := by decide +kernel
theorem dX8_isDue_34 : decode cX8_isDue 34 = .ok (.iaload, 1) := by decide +kernel
theorem dX8_isDue_35 : decode cX8_isDue 35 = .ok (.if_icmp .ge 67, 3) := by decide +kernel
theorem dX8_isDue_38 : decode cX8_isDue 38 = .ok (.aload_n 1, 1) := by decide +kernel
theorem dX8_isDue_39 : decode cX8_isDue 39 = .ok (.iload_n 3, 1) := by decide +kernel
theorem dX8_isDue_40 : decode cX8_isDue 40 = .ok (.iconst 5, 1) := by decide +kernel
theorem dX8_isDue_41 : decode cX8_isDue 41 = .ok (.iadd, 1) := by decide +kernel
theorem dX8_isDue_42 : decode cX8_isDue 42 = .ok (.iload 5, 2) := by decide +kernel
theorem dX8_isDue_44 : decode cX8_isDue 44 = .ok (.iadd, 1) := by decide +kernel
theorem dX8_isDue_45 : decode cX8_isDue 45 = .ok (.iaload, 1) := by decide +kernel
theorem dX8_isDue_46 : decode cX8_isDue 46 = .ok (.istore 6, 2) := by decide +kernel
theorem dX8_isDue_48 : decode cX8_isDue 48 = .ok (.iload 4, 2) := by decide +kernel
theorem dX8_isDue_50 : decode cX8_isDue 50 = .ok (.ifCond .ne 39, 3) := by decide +kernel
theorem dX8_isDue_53 : decode cX8_isDue 53 = .ok (.iload 6, 2) := by decide +kernel
theorem dX8_isDue_55 : decode cX8_isDue 55 = .ok (.bipush 10, 2) := by decide +kernel
theorem dX8_isDue_57 : decode cX8_isDue 57 = .ok (.irem, 1) := by decide +kernel
theorem dX8_isDue_58 : decode cX8_isDue 58 = .ok (.ifCond .gt 31, 3) := by decide +kernel
theorem dX8_isDue_61 : decode cX8_isDue 61 = .ok (.aload_n 1, 1) := by decide +kernel
theorem dX8_isDue_62 : decode cX8_isDue 62 = .ok (.iconst 3, 1) := by decide +kernel
theorem dX8_isDue_63 : decode cX8_isDue 63 = .ok (.iaload, 1) := by decide +kernel
theorem dX8_isDue_64 : decode cX8_isDue 64 = .ok (.iload 6, 2) := by decide +kernel
theorem dX8_isDue_66 : decode cX8_isDue 66 = .ok (.bipush 10, 2) := by decide +kernel
theorem dX8_isDue_68 : decode cX8_isDue 68 = .ok (.idiv, 1) := by decide +kernel
theorem dX8_isDue_69 : decode cX8_isDue 69 = .ok (.isub, 1) := by decide +kernel
theorem dX8_isDue_70 : decode cX8_isDue 70 = .ok (.aload_n 1, 1) := by decide +kernel
theorem dX8_isDue_71 : decode cX8_isDue 71 = .ok (.iload_n 3, 1) := by decide +kernel
theorem dX8_isDue_72 : decode cX8_isDue 72 = .ok (.iconst 2, 1) := by decide +kernel
theorem dX8_isDue_73 : decode cX8_isDue 73 = .ok (.iadd, 1) := by decide +kernel
theorem dX8_isDue_74 : decode cX8_isDue 74 = .ok (.iaload, 1) := by decide +kernel
theorem dX8_isDue_75 : decode cX8_isDue 75 = .ok (.if_icmp .ge 14, 3) := by decide +kernel
theorem dX8_isDue_78 : decode cX8_isDue 78 = .ok (.aload_n 0, 1) := by decide +kernel
theorem dX8_isDue_79 : decode cX8_isDue 79 = .ok (.getfield 50, 3) := by decide +kernel
theorem dX8_isDue_82 : decode cX8_isDue 82 = .ok (.iload_n 2, 1) := by decide +kernel
theorem dX8_isDue_83 : decode cX8_isDue 83 = .ok (.invokestatic 69, 3) := by decide +kernel
theorem dX8_isDue_86 : decode cX8_isDue 86 = .ok (.ifCond .ne 7, 3) := by decide +kernel
theorem dX8_isDue_89 : decode cX8_isDue 89 = .ok (.iconst 1, 1) := by decide +kernel
theorem dX8_isDue_90 : decode cX8_isDue 90 = .ok (.goto 4, 3) := by decide +kernel
theorem dX8_isDue_93 : decode cX8_isDue 93 = .ok (.iconst 0, 1) := by decide +kernel
theorem dX8_isDue_94 : decode cX8_isDue 94 = .ok (.istore 4, 2) := by decide +kernel
theorem dX8_isDue_96 : decode cX8_isDue 96 = .ok (.iinc 5 1, 3) := by decide +kernel
theorem dX8_isDue_99 : decode cX8_isDue 99 = .ok (.goto (-71), 3) := by decide +kernel
theorem dX8_isDue_102 : decode cX8_isDue 102 = .ok (.iload 4, 2) := by decide +kernel
theorem dX8_isDue_104 : decode cX8_isDue 104 = .ok (.ireturn, 1) := by decide +kernel
theorem dX8_wakeTime_0 : decode cX8_wakeTime 0 = .ok (.iconst 0, 1) := by decide +kernel
theorem dX8_wakeTime_1 : decode cX8_wakeTime 1 = .ok (.istore_n 1, 1) := by decide +kernel
theorem dX8_wakeTime_2 : decode cX8_wakeTime 2 = .ok (.iconst 0, 1) := by decide +kernel
theorem dX8_wakeTime_3 : decode cX8_wakeTime 3 = .ok (.istore_n 2, 1) := by decide +kernel
theorem dX8_wakeTime_4 : decode cX8_wakeTime 4 = .ok (.iload_n 2, 1) := by decide +kernel
theorem dX8_wakeTime_5 : decode cX8_wakeTime 5 = .ok (.iconst 2, 1) := by decide +kernel
theorem dX8_wakeTime_6 : decode cX8_wakeTime 6 = .ok (.if_icmp .ge 55, 3) := by decide +kernel
theorem dX8_wakeTime_9 : decode cX8_wakeTime 9 = .ok (.aload_n 0, 1) := by decide +kernel
theorem dX8_wakeTime_10 : decode cX8_wakeTime 10 = .ok (.iload_n 2, 1) := by decide +kernel
theorem dX8_wakeTime_11 : decode cX8_wakeTime 11 = .ok (.invokestatic 65, 3) := by decide +kernel
theorem dX8_wakeTime_14 : decode cX8_wakeTime 14 = .ok (.iaload, 1) := by decide +kernel
theorem dX8_wakeTime_15 : decode cX8_wakeTime 15 = .ok (.iload_n 1, 1) := by decide +kernel
theorem dX8_wakeTime_16 : decode cX8_wakeTime 16 = .ok (.if_icmp .le 12, 3) := by decide +kernel
theorem dX8_wakeTime_19 : decode cX8_wakeTime 19 = .ok (.aload_n 0, 1) := by decide +kernel
theorem dX8_wakeTime_20 : decode cX8_wakeTime 20 = .ok (.iload_n 2, 1) := by decide +kernel
theorem dX8_wakeTime_21 : decode cX8_wakeTime 21 = .ok (.invokestatic 65, 3) := by decide +kernel
theorem dX8_wakeTime_24 : decode cX8_wakeTime 24 = .ok (.iaload, 1) := by decide +kernel
theorem dX8_wakeTime_25 : decode cX8_wakeTime 25 = .ok (.goto 4, 3) := by decide +kernel
theorem dX8_wakeTime_28 : decode cX8_wakeTime 28 = .ok (.iload_n 1, 1) := by decide +kernel
theorem dX8_wakeTime_29 : decode cX8_wakeTime 29 = .ok (.istore_n 1, 1) := by decide +kernel
theorem dX8_wakeTime_30 : decode cX8_wakeTime 30 = .ok (.aload_n 0, 1) := by decide +kernel
theorem dX8_wakeTime_31 : decode cX8_wakeTime 31 = .ok (.iload_n 2, 1) := by decide +kernel
theorem dX8_wakeTime_32 : decode cX8_wakeTime 32 = .ok (.invokestatic 65, 3) := by decide +kernel
theorem dX8_wakeTime_35 : decode cX8_wakeTime 35 = .ok (.iconst 3, 1) := by decide +kernel
theorem dX8_wakeTime_36 : decode cX8_wakeTime 36 = .ok (.iadd, 1) := by decide +kernel
theorem dX8_wakeTime_37 : decode cX8_wakeTime 37 = .ok (.iaload, 1) := by decide +kernel
theorem dX8_wakeTime_38 : decode cX8_wakeTime 38 = .ok (.iload_n 1, 1) := by decide +kernel
theorem dX8_wakeTime_39 : decode cX8_wakeTime 39 = .ok (.if_icmp .le 14, 3) := by decide +kernel
theorem dX8_wakeTime_42 : decode cX8_wakeTime 42 = .ok (.aload_n 0, 1) := by decide +kernel
theorem dX8_wakeTime_43 : decode cX8_wakeTime 43 = .ok (.iload_n 2, 1) := by decide +kernel
theorem dX8_wakeTime_44 : decode cX8_wakeTime 44 = .ok (.invokestatic 65, 3) := by decide +kernel
theorem dX8_wakeTime_47 : decode cX8_wakeTime 47 = .ok (.iconst 3, 1) := by decide +kernel
theorem dX8_wakeTime_48 : decode cX8_wakeTime 48 = .ok (.iadd, 1) := by decide +kernel
theorem dX8_wakeTime_49 : decode cX8_wakeTime 49 = .ok (.iaload, 1) := by decide +kernel
theorem dX8_wakeTime_50 : decode cX8_wakeTime 50 = .ok (.goto 4, 3) := by decide +kernel
theorem dX8_wakeTime_53 : decode cX8_wakeTime 53 = .ok (.iload_n 1, 1) := by decide +kernel
theorem dX8_wakeTime_54 : decode cX8_wakeTime 54 = .ok (.istore_n 1, 1) := by decide +kernel
theorem dX8_wakeTime_55 : decode cX8_wakeTime 55 = .ok (.iinc 2 1, 3) := by decide +kernel
theorem dX8_wakeTime_58 : decode cX8_wakeTime 58 = .ok (.goto (-54), 3) := by decide +kernel
theorem dX8_wakeTime_61 : decode cX8_wakeTime 61 = .ok (.iload_n 1, 1) := by decide +kernel
theorem dX8_wakeTime_62 : decode cX8_wakeTime 62 = .ok (.ireturn, 1) := by decide +kernel
theorem dX8_isEmpty_0 : decode cX8_isEmpty 0 = .ok (.aload_n 0, 1) := by decide +kernel
theorem dX8_isEmpty_1 : decode cX8_isEmpty 1 = .ok (.iconst 0, 1) := by decide +kernel
theorem dX8_isEmpty_2 : decode cX8_isEmpty 2 = .ok (.invokestatic 65, 3) := by decide +kernel
theorem dX8_isEmpty_5 : decode cX8_isEmpty 5 = .ok (.iconst 4, 1) := by decide +kernel
theorem dX8_isEmpty_6 : decode cX8_isEmpty 6 = .ok (.iadd, 1) := by decide +kernel
theorem dX8_isEmpty_7 : decode cX8_isEmpty 7 = .ok (.iaload, 1) := by decide +kernel
theorem dX8_isEmpty_8 : decode cX8_isEmpty 8 = .ok (.ifCond .ne 18, 3) := by decide +kernel
theorem dX8_isEmpty_11 : decode cX8_isEmpty 11 = .ok (.aload_n 0, 1) := by decide +kernel
theorem dX8_isEmpty_12 : decode cX8_isEmpty 12 = .ok (.iconst 1, 1) := by decide +kernel
theorem dX8_isEmpty_13 : decode cX8_isEmpty 13 = .ok (.invokestatic 65, 3) := by decide +kernel
theorem dX8_isEmpty_16 : decode cX8_isEmpty 16 = .ok (.iconst 4, 1) := by decide +kernel
theorem dX8_isEmpty_17 : decode cX8_isEmpty 17 = .ok (.iadd, 1) := by decide +kernel
theorem dX8_isEmpty_18 : decode cX8_isEmpty 18 = .ok (.iaload, 1) := by decide +kernel
theorem dX8_isEmpty_19 : decode cX8_isEmpty 19 = .ok (.ifCond .ne 7, 3) := by decide +kernel
theorem dX8_isEmpty_22 : decode cX8_isEmpty 22 = .ok (.iconst 1, 1) := by decide +kernel
theorem dX8_isEmpty_23 : decode cX8_isEmpty 23 = .ok (.goto 4, 3) := by decide +kernel
theorem dX8_isEmpty_26 : decode cX8_isEmpty 26 = .ok (.iconst 0, 1) := by decide +kernel
theorem dX8_isEmpty_27 : decode cX8_isEmpty 27 = .ok (.ireturn, 1) := by decide +kernel
theorem dX8_sendOn_0 : decode cX8_sendOn 0 = .ok (.iload_n 1, 1) := by decide +kernel
theorem dX8_sendOn_1 : decode cX8_sendOn 1 = .ok (.invokestatic 65, 3) := by decide +kernel
theorem dX8_sendOn_4 : decode cX8_sendOn 4 = .ok (.istore_n 2, 1) := by decide +kernel
theorem dX8_sendOn_5 : decode cX8_sendOn 5 = .ok (.aload_n 0, 1) := by decide +kernel
theorem dX8_sendOn_6 : decode cX8_sendOn 6 = .ok (.iload_n 2, 1) := by decide +kernel
theorem dX8_sendOn_7 : decode cX8_sendOn 7 = .ok (.iconst 4, 1) := by decide +kernel
theorem dX8_sendOn_8 : decode cX8_sendOn 8 = .ok (.iadd, 1) := by decide +kernel
theorem dX8_sendOn_9 : decode cX8_sendOn 9 = .ok (.iaload, 1) := by decide +kernel
theorem dX8_sendOn_10 : decode cX8_sendOn 10 = .ok (.ifCond .le 139, 3) := by decide +kernel
theorem dX8_sendOn_13 : decode cX8_sendOn 13 = .ok (.aload_n 0, 1) := by decide +kernel
theorem dX8_sendOn_14 : decode cX8_sendOn 14 = .ok (.iload_n 2, 1) := by decide +kernel
theorem dX8_sendOn_15 : decode cX8_sendOn 15 = .ok (.iconst 5, 1) := by decide +kernel
theorem dX8_sendOn_16 : decode cX8_sendOn 16 = .ok (.iadd, 1) := by decide +kernel
theorem dX8_sendOn_17 : decode cX8_sendOn 17 = .ok (.iaload, 1) := by decide +kernel
theorem dX8_sendOn_18 : decode cX8_sendOn 18 = .ok (.istore_n 3, 1) := by decide +kernel
theorem dX8_sendOn_19 : decode cX8_sendOn 19 = .ok (.iconst 0, 1) := by decide +kernel
theorem dX8_sendOn_20 : decode cX8_sendOn 20 = .ok (.istore 4, 2) := by decide +kernel
theorem dX8_sendOn_22 : decode cX8_sendOn 22 = .ok (.iload 4, 2) := by decide +kernel
theorem dX8_sendOn_24 : decode cX8_sendOn 24 = .ok (.iconst 1, 1) := by decide +kernel
theorem dX8_sendOn_25 : decode cX8_sendOn 25 = .ok (.iadd, 1) := by decide +kernel
theorem dX8_sendOn_26 : decode cX8_sendOn 26 = .ok (.aload_n 0, 1) := by decide +kernel
theorem dX8_sendOn_27 : decode cX8_sendOn 27 = .ok (.iload_n 2, 1) := by decide +kernel
theorem dX8_sendOn_28 : decode cX8_sendOn 28 = .ok (.iconst 4, 1) := by decide +kernel
theorem dX8_sendOn_29 : decode cX8_sendOn 29 = .ok (.iadd, 1) := by decide +kernel
theorem dX8_sendOn_30 : decode cX8_sendOn 30 = .ok (.iaload, 1) := by decide +kernel
theorem dX8_sendOn_31 : decode cX8_sendOn 31 = .ok (.if_icmp .ge 27, 3) := by decide +kernel
theorem dX8_sendOn_34 : decode cX8_sendOn 34 = .ok (.aload_n 0, 1) := by decide +kernel
theorem dX8_sendOn_35 : decode cX8_sendOn 35 = .ok (.iload_n 2, 1) := by decide +kernel
theorem dX8_sendOn_36 : decode cX8_sendOn 36 = .ok (.iconst 5, 1) := by decide +kernel
theorem dX8_sendOn_37 : decode cX8_sendOn 37 = .ok (.iadd, 1) := by decide +kernel
theorem dX8_sendOn_38 : decode cX8_sendOn 38 = .ok (.iload 4, 2) := by decide +kernel
theorem dX8_sendOn_40 : decode cX8_sendOn 40 = .ok (.iadd, 1) := by decide +kernel
theorem dX8_sendOn_41 : decode cX8_sendOn 41 = .ok (.aload_n 0, 1) := by decide +kernel
theorem dX8_sendOn_42 : decode cX8_sendOn 42 = .ok (.iload_n 2, 1) := by decide +kernel
theorem dX8_sendOn_43 : decode cX8_sendOn 43 = .ok (.iconst 5, 1) := by decide +kernel
theorem dX8_sendOn_44 : decode cX8_sendOn 44 = .ok (.iadd, 1) := by decide +kernel
theorem dX8_sendOn_45 : decode cX8_sendOn 45 = .ok (.iload 4, 2) := by decide +kernel
theorem dX8_sendOn_47 : decode cX8_sendOn 47 = .ok (.iadd, 1) := by decide +kernel
theorem dX8_sendOn_48 : decode cX8_sendOn 48 = .ok (.iconst 1, 1) := by decide +kernel
theorem dX8_sendOn_49 : decode cX8_sendOn 49 = .ok (.iadd, 1) := by decide +kernel
theorem dX8_sendOn_50 : decode cX8_sendOn 50 = .ok (.iaload, 1) := by decide +kernel
theorem dX8_sendOn_51 : decode cX8_sendOn 51 = .ok (.iastore, 1) := by decide +kernel
theorem dX8_sendOn_52 : decode cX8_sendOn 52 = .ok (.iinc 4 1, 3) := by decide +kernel
theorem dX8_sendOn_55 : decode cX8_sendOn 55 = .ok (.goto (-33), 3) := by decide +kernel
theorem dX8_sendOn_58 : decode cX8_sendOn 58 = .ok (.aload_n 0, 1) := by decide +kernel
theorem dX8_sendOn_59 : decode cX8_sendOn 59 = .ok (.iload_n 2, 1) := by decide +kernel
theorem dX8_sendOn_60 : decode cX8_sendOn 60 = .ok (.iconst 4, 1) := by decide +kernel
theorem dX8_sendOn_61 : decode cX8_sendOn 61 = .ok (.iadd, 1) := by decide +kernel
theorem dX8_sendOn_62 : decode cX8_sendOn 62 = .ok (.dup2, 1) := by decide +kernel
theorem dX8_sendOn_63 : decode cX8_sendOn 63 = .ok (.iaload, 1) := by decide +kernel
theorem dX8_sendOn_64 : decode cX8_sendOn 64 = .ok (.iconst 1, 1) := by decide +kernel
theorem dX8_sendOn_65 : decode cX8_sendOn 65 = .ok (.isub, 1) := by decide +kernel
theorem dX8_sendOn_66 : decode cX8_sendOn 66 = .ok (.iastore, 1) := by decide +kernel
theorem dX8_sendOn_67 : decode cX8_sendOn 67 = .ok (.aload_n 0, 1) := by decide +kernel
theorem dX8_sendOn_68 : decode cX8_sendOn 68 = .ok (.iconst 3, 1) := by decide +kernel
theorem dX8_sendOn_69 : decode cX8_sendOn 69 = .ok (.iaload, 1) := by decide +kernel
theorem dX8_sendOn_70 : decode cX8_sendOn 70 = .ok (.iload_n 3, 1) := by decide +kernel
theorem dX8_sendOn_71 : decode cX8_sendOn 71 = .ok (.bipush 10, 2) := by decide +kernel
theorem dX8_sendOn_73 : decode cX8_sendOn 73 = .ok (.idiv, 1) := by decide +kernel
theorem dX8_sendOn_74 : decode cX8_sendOn 74 = .ok (.isub, 1) := by decide +kernel
theorem dX8_sendOn_75 : decode cX8_sendOn 75 = .ok (.istore 4, 2) := by decide +kernel
theorem dX8_sendOn_77 : decode cX8_sendOn 77 = .ok (.aload_n 0, 1) := by decide +kernel
theorem dX8_sendOn_78 : decode cX8_sendOn 78 = .ok (.iconst 5, 1) := by decide +kernel
theorem dX8_sendOn_79 : decode cX8_sendOn 79 = .ok (.dup2, 1) := by decide +kernel
theorem dX8_sendOn_80 : decode cX8_sendOn 80 = .ok (.iaload, 1) := by decide +kernel
theorem dX8_sendOn_81 : decode cX8_sendOn 81 = .ok (.iconst 1, 1) := by decide +kernel
theorem dX8_sendOn_82 : decode cX8_sendOn 82 = .ok (.iadd, 1) := by decide +kernel
theorem dX8_sendOn_83 : decode cX8_sendOn 83 = .ok (.iastore, 1) := by decide +kernel
theorem dX8_sendOn_84 : decode cX8_sendOn 84 = .ok (.aload_n 0, 1) := by decide +kernel
theorem dX8_sendOn_85 : decode cX8_sendOn 85 = .ok (.bipush 6, 2) := by decide +kernel
theorem dX8_sendOn_87 : decode cX8_sendOn 87 = .ok (.dup2, 1) := by decide +kernel
theorem dX8_sendOn_88 : decode cX8_sendOn 88 = .ok (.iaload, 1) := by decide +kernel
theorem dX8_sendOn_89 : decode cX8_sendOn 89 = .ok (.iload 4, 2) := by decide +kernel
theorem dX8_sendOn_91 : decode cX8_sendOn 91 = .ok (.iadd, 1) := by decide +kernel
theorem dX8_sendOn_92 : decode cX8_sendOn 92 = .ok (.iastore, 1) := by decide +kernel
theorem dX8_sendOn_93 : decode cX8_sendOn 93 = .ok (.aload_n 0, 1) := by decide +kernel
theorem dX8_sendOn_94 : decode cX8_sendOn 94 = .ok (.bipush 7, 2) := by decide +kernel
theorem dX8_sendOn_96 : decode cX8_sendOn 96 = .ok (.iload 4, 2) := by decide +kernel
theorem dX8_sendOn_98 : decode cX8_sendOn 98 = .ok (.aload_n 0, 1) := by decide +kernel
theorem dX8_sendOn_99 : decode cX8_sendOn 99 = .ok (.bipush 7, 2) := by decide +kernel
theorem dX8_sendOn_101 : decode cX8_sendOn 101 = .ok (.iaload, 1) := by decide +kernel
theorem dX8_sendOn_102 : decode cX8_sendOn 102 = .ok (.if_icmp .le 8, 3) := by decide +kernel
theorem dX8_sendOn_105 : decode cX8_sendOn 105 = .ok (.iload 4, 2) := by decide +kernel
theorem dX8_sendOn_107 : decode cX8_sendOn 107 = .ok (.goto 7, 3) := by decide +kernel
theorem dX8_sendOn_110 : decode cX8_sendOn 110 = .ok (.aload_n 0, 1) := by decide +kernel
theorem dX8_sendOn_111 : decode cX8_sendOn 111 = .ok (.bipush 7, 2) := by decide +kernel
theorem dX8_sendOn_113 : decode cX8_sendOn 113 = .ok (.iaload, 1) := by decide +kernel
theorem dX8_sendOn_114 : decode cX8_sendOn 114 = .ok (.iastore, 1) := by decide +kernel
theorem dX8_sendOn_115 : decode cX8_sendOn 115 = .ok (.aload_n 0, 1) := by decide +kernel
theorem dX8_sendOn_116 : decode cX8_sendOn 116 = .ok (.iconst 1, 1) := by decide +kernel
theorem dX8_sendOn_117 : decode cX8_sendOn 117 = .ok (.iload_n 1, 1) := by decide +kernel
theorem dX8_sendOn_118 : decode cX8_sendOn 118 = .ok (.isub, 1) := by decide +kernel
theorem dX8_sendOn_119 : decode cX8_sendOn 119 = .ok (.invokestatic 65, 3) := by decide +kernel
theorem dX8_sendOn_122 : decode cX8_sendOn 122 = .ok (.iconst 3, 1) := by decide +kernel
theorem dX8_sendOn_123 : decode cX8_sendOn 123 = .ok (.iadd, 1) := by decide +kernel
theorem dX8_sendOn_124 : decode cX8_sendOn 124 = .ok (.iload_n 3, 1) := by decide +kernel
theorem dX8_sendOn_125 : decode cX8_sendOn 125 = .ok (.bipush 10, 2) := by decide +kernel
theorem dX8_sendOn_127 : decode cX8_sendOn 127 = .ok (.irem, 1) := by decide +kernel
theorem dX8_sendOn_128 : decode cX8_sendOn 128 = .ok (.ifCond .le 10, 3) := by decide +kernel
theorem dX8_sendOn_131 : decode cX8_sendOn 131 = .ok (.iload_n 3, 1) := by decide +kernel
theorem dX8_sendOn_132 : decode cX8_sendOn 132 = .ok (.bipush 10, 2) := by decide +kernel
theorem dX8_sendOn_134 : decode cX8_sendOn 134 = .ok (.irem, 1) := by decide +kernel
theorem dX8_sendOn_135 : decode cX8_sendOn 135 = .ok (.goto 13, 3) := by decide +kernel
theorem dX8_sendOn_138 : decode cX8_sendOn 138 = .ok (.aload_n 0, 1) := by decide +kernel
theorem dX8_sendOn_139 : decode cX8_sendOn 139 = .ok (.iconst 1, 1) := by decide +kernel
theorem dX8_sendOn_140 : decode cX8_sendOn 140 = .ok (.iload_n 1, 1) := by decide +kernel
theorem dX8_sendOn_141 : decode cX8_sendOn 141 = .ok (.isub, 1) := by decide +kernel
theorem dX8_sendOn_142 : decode cX8_sendOn 142 = .ok (.invokestatic 65, 3) := by decide +kernel
theorem dX8_sendOn_145 : decode cX8_sendOn 145 = .ok (.iconst 3, 1) := by decide +kernel
theorem dX8_sendOn_146 : decode cX8_sendOn 146 = .ok (.iadd, 1) := by decide +kernel
theorem dX8_sendOn_147 : decode cX8_sendOn 147 = .ok (.iaload, 1) := by decide +kernel
theorem dX8_sendOn_148 : decode cX8_sendOn 148 = .ok (.iastore, 1) := by decide +kernel
theorem dX8_sendOn_149 : decode cX8_sendOn 149 = .ok (.return_, 1) := by decide +kernel
theorem dX8_tick_0 : decode cX8_tick 0 = .ok (.aload_n 1, 1) := by decide +kernel
theorem dX8_tick_1 : decode cX8_tick 1 = .ok (.iconst 0, 1) := by decide +kernel
theorem dX8_tick_2 : decode cX8_tick 2 = .ok (.iaload, 1) := by decide +kernel
theorem dX8_tick_3 : decode cX8_tick 3 = .ok (.istore_n 2, 1) := by decide +kernel
theorem dX8_tick_4 : decode cX8_tick 4 = .ok (.aload_n 1, 1) := by decide +kernel
theorem dX8_tick_5 : decode cX8_tick 5 = .ok (.iconst 4, 1) := by decide +kernel
theorem dX8_tick_6 : decode cX8_tick 6 = .ok (.dup2, 1) := by decide +kernel
theorem dX8_tick_7 : decode cX8_tick 7 = .ok (.iaload, 1) := by decide +kernel
theorem dX8_tick_8 : decode cX8_tick 8 = .ok (.iload_n 2, 1) := by decide +kernel
theorem dX8_tick_9 : decode cX8_tick 9 = .ok (.iconst 2, 1) := by decide +kernel
theorem dX8_tick_10 : decode cX8_tick 10 = .ok (.if_icmp .eq 8, 3) := by decide +kernel
theorem dX8_tick_13 : decode cX8_tick 13 = .ok (.bipush 9, 2) := by decide +kernel
theorem dX8_tick_15 : decode cX8_tick 15 = .ok (.goto 21, 3) := by decide +kernel
theorem dX8_tick_18 : decode cX8_tick 18 = .ok (.aload_n 1, 1) := by decide +kernel
theorem dX8_tick_19 : decode cX8_tick 19 = .ok (.iconst 2, 1) := by decide +kernel
theorem dX8_tick_20 : decode cX8_tick 20 = .ok (.iaload, 1) := by decide +kernel
theorem dX8_tick_21 : decode cX8_tick 21 = .ok (.iconst 1, 1) := by decide +kernel
theorem dX8_tick_22 : decode cX8_tick 22 = .ok (.iadd, 1) := by decide +kernel
theorem dX8_tick_23 : decode cX8_tick 23 = .ok (.aload_n 1, 1) := by decide +kernel
theorem dX8_tick_24 : decode cX8_tick 24 = .ok (.bipush 10, 2) := by decide +kernel
theorem dX8_tick_26 : decode cX8_tick 26 = .ok (.iaload, 1) := by decide +kernel
theorem dX8_tick_27 : decode cX8_tick 27 = .ok (.irem, 1) := by decide +kernel
theorem dX8_tick_28 : decode cX8_tick 28 = .ok (.ifCond .ne 7, 3) := by decide +kernel
theorem dX8_tick_31 : decode cX8_tick 31 = .ok (.iconst 5, 1) := by decide +kernel
theorem dX8_tick_32 : decode cX8_tick 32 = .ok (.goto 4, 3) := by decide +kernel
theorem dX8_tick_35 : decode cX8_tick 35 = .ok (.iconst 1, 1) := by decide +kernel
theorem dX8_tick_36 : decode cX8_tick 36 = .ok (.iadd, 1) := by decide +kernel
theorem dX8_tick_37 : decode cX8_tick 37 = .ok (.iastore, 1) := by decide +kernel
theorem dX8_tick_38 : decode cX8_tick 38 = .ok (.aload_n 1, 1) := by decide +kernel
theorem dX8_tick_39 : decode cX8_tick 39 = .ok (.iconst 3, 1) := by decide +kernel
theorem dX8_tick_40 : decode cX8_tick 40 = .ok (.dup2, 1) := by decide +kernel
theorem dX8_tick_41 : decode cX8_tick 41 = .ok (.iaload, 1) := by decide +kernel
theorem dX8_tick_42 : decode cX8_tick 42 = .ok (.iconst 1, 1) := by decide +kernel
theorem dX8_tick_43 : decode cX8_tick 43 = .ok (.iadd, 1) := by decide +kernel
theorem dX8_tick_44 : decode cX8_tick 44 = .ok (.iastore, 1) := by decide +kernel
theorem dX8_tick_45 : decode cX8_tick 45 = .ok (.iload_n 2, 1) := by decide +kernel
theorem dX8_tick_46 : decode cX8_tick 46 = .ok (.ifCond .ne 45, 3) := by decide +kernel
theorem dX8_tick_49 : decode cX8_tick 49 = .ok (.aload_n 1, 1) := by decide +kernel
theorem dX8_tick_50 : decode cX8_tick 50 = .ok (.iconst 0, 1) := by decide +kernel
theorem dX8_tick_51 : decode cX8_tick 51 = .ok (.invokestatic 73, 3) := by decide +kernel
theorem dX8_tick_54 : decode cX8_tick 54 = .ok (.aload_n 1, 1) := by decide +kernel
theorem dX8_tick_55 : decode cX8_tick 55 = .ok (.iconst 1, 1) := by decide +kernel
theorem dX8_tick_56 : decode cX8_tick 56 = .ok (.invokestatic 73, 3) := by decide +kernel
theorem dX8_tick_59 : decode cX8_tick 59 = .ok (.aload_n 1, 1) := by decide +kernel
theorem dX8_tick_60 : decode cX8_tick 60 = .ok (.invokestatic 77, 3) := by decide +kernel
theorem dX8_tick_63 : decode cX8_tick 63 = .ok (.ifCond .eq 130, 3) := by decide +kernel
theorem dX8_tick_66 : decode cX8_tick 66 = .ok (.aload_n 0, 1) := by decide +kernel
theorem dX8_tick_67 : decode cX8_tick 67 = .ok (.getfield 50, 3) := by decide +kernel
theorem dX8_tick_70 : decode cX8_tick 70 = .ok (.iconst 2, 1) := by decide +kernel
theorem dX8_tick_71 : decode cX8_tick 71 = .ok (.invokestatic 69, 3) := by decide +kernel
theorem dX8_tick_74 : decode cX8_tick 74 = .ok (.ifCond .eq 119, 3) := by decide +kernel
theorem dX8_tick_77 : decode cX8_tick 77 = .ok (.aload_n 1, 1) := by decide +kernel
theorem dX8_tick_78 : decode cX8_tick 78 = .ok (.iconst 0, 1) := by decide +kernel
theorem dX8_tick_79 : decode cX8_tick 79 = .ok (.iconst 1, 1) := by decide +kernel
theorem dX8_tick_80 : decode cX8_tick 80 = .ok (.iastore, 1) := by decide +kernel
theorem dX8_tick_81 : decode cX8_tick 81 = .ok (.aload_n 1, 1) := by decide +kernel
theorem dX8_tick_82 : decode cX8_tick 82 = .ok (.iconst 1, 1) := by decide +kernel
theorem dX8_tick_83 : decode cX8_tick 83 = .ok (.aload_n 1, 1) := by decide +kernel
theorem dX8_tick_84 : decode cX8_tick 84 = .ok (.bipush 9, 2) := by decide +kernel
theorem dX8_tick_86 : decode cX8_tick 86 = .ok (.iaload, 1) := by decide +kernel
theorem dX8_tick_87 : decode cX8_tick 87 = .ok (.iastore, 1) := by decide +kernel
theorem dX8_tick_88 : decode cX8_tick 88 = .ok (.goto 105, 3) := by decide +kernel
theorem dX8_tick_91 : decode cX8_tick 91 = .ok (.iload_n 2, 1) := by decide +kernel
theorem dX8_tick_92 : decode cX8_tick 92 = .ok (.iconst 1, 1) := by decide +kernel
theorem dX8_tick_93 : decode cX8_tick 93 = .ok (.if_icmp .ne 31, 3) := by decide +kernel
theorem dX8_tick_96 : decode cX8_tick 96 = .ok (.aload_n 1, 1) := by decide +kernel
theorem dX8_tick_97 : decode cX8_tick 97 = .ok (.iconst 1, 1) := by decide +kernel
theorem dX8_tick_98 : decode cX8_tick 98 = .ok (.dup2, 1) := by decide +kernel
theorem dX8_tick_99 : decode cX8_tick 99 = .ok (.iaload, 1) := by decide +kernel
theorem dX8_tick_100 : decode cX8_tick 100 = .ok (.iconst 1, 1) := by decide +kernel
theorem dX8_tick_101 : decode cX8_tick 101 = .ok (.isub, 1) := by decide +kernel
theorem dX8_tick_102 : decode cX8_tick 102 = .ok (.iastore, 1) := by decide +kernel
theorem dX8_tick_103 : decode cX8_tick 103 = .ok (.aload_n 1, 1) := by decide +kernel
theorem dX8_tick_104 : decode cX8_tick 104 = .ok (.iconst 0, 1) := by decide +kernel
theorem dX8_tick_105 : decode cX8_tick 105 = .ok (.aload_n 1, 1) := by decide +kernel
theorem dX8_tick_106 : decode cX8_tick 106 = .ok (.iconst 1, 1) := by decide +kernel
theorem dX8_tick_107 : decode cX8_tick 107 = .ok (.iaload, 1) := by decide +kernel
theorem dX8_tick_108 : decode cX8_tick 108 = .ok (.ifCond .ne 7, 3) := by decide +kernel
theorem dX8_tick_111 : decode cX8_tick 111 = .ok (.iconst 2, 1) := by decide +kernel
theorem dX8_tick_112 : decode cX8_tick 112 = .ok (.goto 4, 3) := by decide +kernel
theorem dX8_tick_115 : decode cX8_tick 115 = .ok (.iconst 1, 1) := by decide +kernel
theorem dX8_tick_116 : decode cX8_tick 116 = .ok (.iastore, 1) := by decide +kernel
theorem dX8_tick_117 : decode cX8_tick 117 = .ok (.aload_n 1, 1) := by decide +kernel
theorem dX8_tick_118 : decode cX8_tick 118 = .ok (.iconst 2, 1) := by decide +kernel
theorem dX8_tick_119 : decode cX8_tick 119 = .ok (.iconst 0, 1) := by decide +kernel
theorem dX8_tick_120 : decode cX8_tick 120 = .ok (.iastore, 1) := by decide +kernel
theorem dX8_tick_121 : decode cX8_tick 121 = .ok (.goto 72, 3) := by decide +kernel
theorem dX8_tick_124 : decode cX8_tick 124 = .ok (.iload_n 2, 1) := by decide +kernel
theorem dX8_tick_125 : decode cX8_tick 125 = .ok (.iconst 2, 1) := by decide +kernel
theorem dX8_tick_126 : decode cX8_tick 126 = .ok (.if_icmp .ne 46, 3) := by decide +kernel
theorem dX8_tick_129 : decode cX8_tick 129 = .ok (.aload_n 1, 1) := by decide +kernel
theorem dX8_tick_130 : decode cX8_tick 130 = .ok (.iconst 2, 1) := by decide +kernel
theorem dX8_tick_131 : decode cX8_tick 131 = .ok (.dup2, 1) := by decide +kernel
theorem dX8_tick_132 : decode cX8_tick 132 = .ok (.iaload, 1) := by decide +kernel
theorem dX8_tick_133 : decode cX8_tick 133 = .ok (.iconst 1, 1) := by decide +kernel
theorem dX8_tick_134 : decode cX8_tick 134 = .ok (.iadd, 1) := by decide +kernel
theorem dX8_tick_135 : decode cX8_tick 135 = .ok (.iastore, 1) := by decide +kernel
theorem dX8_tick_136 : decode cX8_tick 136 = .ok (.aload_n 0, 1) := by decide +kernel
theorem dX8_tick_137 : decode cX8_tick 137 = .ok (.aload_n 1, 1) := by decide +kernel
theorem dX8_tick_138 : decode cX8_tick 138 = .ok (.iconst 0, 1) := by decide +kernel
theorem dX8_tick_139 : decode cX8_tick 139 = .ok (.invokevirtual 81, 3) := by decide +kernel
theorem dX8_tick_142 : decode cX8_tick 142 = .ok (.ifCond .ne 12, 3) := by decide +kernel
theorem dX8_tick_145 : decode cX8_tick 145 = .ok (.aload_n 0, 1) := by decide +kernel
theorem dX8_tick_146 : decode cX8_tick 146 = .ok (.aload_n 1, 1) := by decide +kernel
theorem dX8_tick_147 : decode cX8_tick 147 = .ok (.iconst 1, 1) := by decide +kernel
theorem dX8_tick_148 : decode cX8_tick 148 = .ok (.invokevirtual 81, 3) := by decide +kernel
theorem dX8_tick_151 : decode cX8_tick 151 = .ok (.ifCond .eq 42, 3) := by decide +kernel
theorem dX8_tick_154 : decode cX8_tick 154 = .ok (.aload_n 1, 1) := by decide +kernel
theorem dX8_tick_155 : decode cX8_tick 155 = .ok (.iconst 0, 1) := by decide +kernel
theorem dX8_tick_156 : decode cX8_tick 156 = .ok (.iconst 3, 1) := by decide +kernel
theorem dX8_tick_157 : decode cX8_tick 157 = .ok (.iastore, 1) := by decide +kernel
theorem dX8_tick_158 : decode cX8_tick 158 = .ok (.aload_n 1, 1) := by decide +kernel
theorem dX8_tick_159 : decode cX8_tick 159 = .ok (.iconst 1, 1) := by decide +kernel
theorem dX8_tick_160 : decode cX8_tick 160 = .ok (.aload_n 1, 1) := by decide +kernel
theorem dX8_tick_161 : decode cX8_tick 161 = .ok (.invokestatic 85, 3) := by decide +kernel
theorem dX8_tick_164 : decode cX8_tick 164 = .ok (.iastore, 1) := by decide +kernel
theorem dX8_tick_165 : decode cX8_tick 165 = .ok (.aload_n 1, 1) := by decide +kernel
theorem dX8_tick_166 : decode cX8_tick 166 = .ok (.iconst 2, 1) := by decide +kernel
theorem dX8_tick_167 : decode cX8_tick 167 = .ok (.iconst 0, 1) := by decide +kernel
theorem dX8_tick_168 : decode cX8_tick 168 = .ok (.iastore, 1) := by decide +kernel
theorem dX8_tick_169 : decode cX8_tick 169 = .ok (.goto 24, 3) := by decide +kernel
theorem dX8_tick_172 : decode cX8_tick 172 = .ok (.aload_n 1, 1) := by decide +kernel
theorem dX8_tick_173 : decode cX8_tick 173 = .ok (.iconst 1, 1) := by decide +kernel
theorem dX8_tick_174 : decode cX8_tick 174 = .ok (.dup2, 1) := by decide +kernel
theorem dX8_tick_175 : decode cX8_tick 175 = .ok (.iaload, 1) := by decide +kernel
theorem dX8_tick_176 : decode cX8_tick 176 = .ok (.iconst 1, 1) := by decide +kernel
theorem dX8_tick_177 : decode cX8_tick 177 = .ok (.isub, 1) := by decide +kernel
theorem dX8_tick_178 : decode cX8_tick 178 = .ok (.iastore, 1) := by decide +kernel
theorem dX8_tick_179 : decode cX8_tick 179 = .ok (.aload_n 1, 1) := by decide +kernel
theorem dX8_tick_180 : decode cX8_tick 180 = .ok (.iconst 0, 1) := by decide +kernel
theorem dX8_tick_181 : decode cX8_tick 181 = .ok (.aload_n 1, 1) := by decide +kernel
theorem dX8_tick_182 : decode cX8_tick 182 = .ok (.iconst 1, 1) := by decide +kernel
theorem dX8_tick_183 : decode cX8_tick 183 = .ok (.iaload, 1) := by decide +kernel
theorem dX8_tick_184 : decode cX8_tick 184 = .ok (.ifCond .ne 7, 3) := by decide +kernel
theorem dX8_tick_187 : decode cX8_tick 187 = .ok (.iconst 0, 1) := by decide +kernel
theorem dX8_tick_188 : decode cX8_tick 188 = .ok (.goto 4, 3) := by decide +kernel
theorem dX8_tick_191 : decode cX8_tick 191 = .ok (.iconst 3, 1) := by decide +kernel
theorem dX8_tick_192 : decode cX8_tick 192 = .ok (.iastore, 1) := by decide +kernel
theorem dX8_tick_193 : decode cX8_tick 193 = .ok (.return_, 1) := by decide +kernel
theorem dX8_isQuiet_0 : decode cX8_isQuiet 0 = .ok (.aload_n 0, 1) := by decide +kernel
theorem dX8_isQuiet_1 : decode cX8_isQuiet 1 = .ok (.iconst 0, 1) := by decide +kernel
theorem dX8_isQuiet_2 : decode cX8_isQuiet 2 = .ok (.iaload, 1) := by decide +kernel
theorem dX8_isQuiet_3 : decode cX8_isQuiet 3 = .ok (.iconst 2, 1) := by decide +kernel
theorem dX8_isQuiet_4 : decode cX8_isQuiet 4 = .ok (.if_icmp .ne 14, 3) := by decide +kernel
theorem dX8_isQuiet_7 : decode cX8_isQuiet 7 = .ok (.aload_n 0, 1) := by decide +kernel
theorem dX8_isQuiet_8 : decode cX8_isQuiet 8 = .ok (.invokestatic 77, 3) := by decide +kernel
theorem dX8_isQuiet_11 : decode cX8_isQuiet 11 = .ok (.ifCond .eq 7, 3) := by decide +kernel
theorem dX8_isQuiet_14 : decode cX8_isQuiet 14 = .ok (.iconst 1, 1) := by decide +kernel
theorem dX8_isQuiet_15 : decode cX8_isQuiet 15 = .ok (.goto 4, 3) := by decide +kernel
theorem dX8_isQuiet_18 : decode cX8_isQuiet 18 = .ok (.iconst 0, 1) := by decide +kernel
theorem dX8_isQuiet_19 : decode cX8_isQuiet 19 = .ok (.ireturn, 1) := by decide +kernel
theorem dX8_quiet_0 : decode cX8_quiet 0 = .ok (.aload_n 1, 1) := by decide +kernel
theorem dX8_quiet_1 : decode cX8_quiet 1 = .ok (.aload_n 0, 1) := by decide +kernel
theorem dX8_quiet_2 : decode cX8_quiet 2 = .ok (.getfield 28, 3) := by decide +kernel
theorem dX8_quiet_5 : decode cX8_quiet 5 = .ok (.invokestatic 89, 3) := by decide +kernel
theorem dX8_quiet_8 : decode cX8_quiet 8 = .ok (.iconst 0, 1) := by decide +kernel
theorem dX8_quiet_9 : decode cX8_quiet 9 = .ok (.istore_n 2, 1) := by decide +kernel
theorem dX8_quiet_10 : decode cX8_quiet 10 = .ok (.iload_n 2, 1) := by decide +kernel
theorem dX8_quiet_11 : decode cX8_quiet 11 = .ok (.bipush 100, 2) := by decide +kernel
theorem dX8_quiet_13 : decode cX8_quiet 13 = .ok (.if_icmp .ge 29, 3) := by decide +kernel
theorem dX8_quiet_16 : decode cX8_quiet 16 = .ok (.aload_n 0, 1) := by decide +kernel
theorem dX8_quiet_17 : decode cX8_quiet 17 = .ok (.getfield 28, 3) := by decide +kernel
theorem dX8_quiet_20 : decode cX8_quiet 20 = .ok (.invokestatic 93, 3) := by decide +kernel
theorem dX8_quiet_23 : decode cX8_quiet 23 = .ok (.ifCond .eq 5, 3) := by decide +kernel
theorem dX8_quiet_26 : decode cX8_quiet 26 = .ok (.iload_n 2, 1) := by decide +kernel
theorem dX8_quiet_27 : decode cX8_quiet 27 = .ok (.ireturn, 1) := by decide +kernel
theorem dX8_quiet_28 : decode cX8_quiet 28 = .ok (.aload_n 0, 1) := by decide +kernel
theorem dX8_quiet_29 : decode cX8_quiet 29 = .ok (.aload_n 0, 1) := by decide +kernel
theorem dX8_quiet_30 : decode cX8_quiet 30 = .ok (.getfield 28, 3) := by decide +kernel
theorem dX8_quiet_33 : decode cX8_quiet 33 = .ok (.invokevirtual 96, 3) := by decide +kernel
theorem dX8_quiet_36 : decode cX8_quiet 36 = .ok (.iinc 2 1, 3) := by decide +kernel
theorem dX8_quiet_39 : decode cX8_quiet 39 = .ok (.goto (-29), 3) := by decide +kernel
theorem dX8_quiet_42 : decode cX8_quiet 42 = .ok (.bipush (-9), 2) := by decide +kernel
theorem dX8_quiet_44 : decode cX8_quiet 44 = .ok (.ireturn, 1) := by decide +kernel
theorem dX8_write_0 : decode cX8_write 0 = .ok (.aload_n 0, 1) := by decide +kernel
theorem dX8_write_1 : decode cX8_write 1 = .ok (.iconst 0, 1) := by decide +kernel
theorem dX8_write_2 : decode cX8_write 2 = .ok (.putfield 58, 3) := by decide +kernel
theorem dX8_write_5 : decode cX8_write 5 = .ok (.iload_n 1, 1) := by decide +kernel
theorem dX8_write_6 : decode cX8_write 6 = .ok (.i2l, 1) := by decide +kernel
theorem dX8_write_7 : decode cX8_write 7 = .ok (.lconst 0, 1) := by decide +kernel
theorem dX8_write_8 : decode cX8_write 8 = .ok (.ldc2_w 99, 3) := by decide +kernel
theorem dX8_write_11 : decode cX8_write 11 = .ok (.invokestatic 61, 3) := by decide +kernel
theorem dX8_write_14 : decode cX8_write 14 = .ok (.ifCond .ne 6, 3) := by decide +kernel
theorem dX8_write_17 : decode cX8_write 17 = .ok (.bipush (-2), 2) := by decide +kernel
theorem dX8_write_19 : decode cX8_write 19 = .ok (.ireturn, 1) := by decide +kernel
theorem dX8_write_20 : decode cX8_write 20 = .ok (.aload_n 0, 1) := by decide +kernel
theorem dX8_write_21 : decode cX8_write 21 = .ok (.getfield 101, 3) := by decide +kernel
theorem dX8_write_24 : decode cX8_write 24 = .ok (.bipush 80, 2) := by decide +kernel
theorem dX8_write_26 : decode cX8_write 26 = .ok (.if_icmp .ne 6, 3) := by decide +kernel
theorem dX8_write_29 : decode cX8_write 29 = .ok (.bipush (-4), 2) := by decide +kernel
theorem dX8_write_31 : decode cX8_write 31 = .ok (.ireturn, 1) := by decide +kernel
theorem dX8_write_32 : decode cX8_write 32 = .ok (.aload_n 0, 1) := by decide +kernel
theorem dX8_write_33 : decode cX8_write 33 = .ok (.getfield 7, 3) := by decide +kernel
theorem dX8_write_36 : decode cX8_write 36 = .ok (.aload_n 0, 1) := by decide +kernel
theorem dX8_write_37 : decode cX8_write 37 = .ok (.getfield 101, 3) := by decide +kernel
theorem dX8_write_40 : decode cX8_write 40 = .ok (.iload_n 1, 1) := by decide +kernel
theorem dX8_write_41 : decode cX8_write 41 = .ok (.iastore, 1) := by decide +kernel
theorem dX8_write_42 : decode cX8_write 42 = .ok (.aload_n 0, 1) := by decide +kernel
theorem dX8_write_43 : decode cX8_write 43 = .ok (.dup, 1) := by decide +kernel
theorem dX8_write_44 : decode cX8_write 44 = .ok (.getfield 101, 3) := by decide +kernel
theorem dX8_write_47 : decode cX8_write 47 = .ok (.iconst 1, 1) := by decide +kernel
theorem dX8_write_48 : decode cX8_write 48 = .ok (.iadd, 1) := by decide +kernel
theorem dX8_write_49 : decode cX8_write 49 = .ok (.putfield 101, 3) := by decide +kernel
theorem dX8_write_52 : decode cX8_write 52 = .ok (.aload_n 0, 1) := by decide +kernel
theorem dX8_write_53 : decode cX8_write 53 = .ok (.getfield 101, 3) := by decide +kernel
theorem dX8_write_56 : decode cX8_write 56 = .ok (.ireturn, 1) := by decide +kernel
theorem dX8_wipe_0 : decode cX8_wipe 0 = .ok (.aload_n 0, 1) := by decide +kernel
theorem dX8_wipe_1 : decode cX8_wipe 1 = .ok (.iconst 0, 1) := by decide +kernel
theorem dX8_wipe_2 : decode cX8_wipe 2 = .ok (.putfield 58, 3) := by decide +kernel
theorem dX8_wipe_5 : decode cX8_wipe 5 = .ok (.aload_n 0, 1) := by decide +kernel
theorem dX8_wipe_6 : decode cX8_wipe 6 = .ok (.getfield 101, 3) := by decide +kernel
theorem dX8_wipe_9 : decode cX8_wipe 9 = .ok (.istore_n 1, 1) := by decide +kernel
theorem dX8_wipe_10 : decode cX8_wipe 10 = .ok (.aload_n 0, 1) := by decide +kernel
theorem dX8_wipe_11 : decode cX8_wipe 11 = .ok (.iconst 0, 1) := by decide +kernel
theorem dX8_wipe_12 : decode cX8_wipe 12 = .ok (.putfield 101, 3) := by decide +kernel
theorem dX8_wipe_15 : decode cX8_wipe 15 = .ok (.iload_n 1, 1) := by decide +kernel
theorem dX8_wipe_16 : decode cX8_wipe 16 = .ok (.ireturn, 1) := by decide +kernel
theorem dX8_figure_0 : decode cX8_figure 0 = .ok (.aload_n 0, 1) := by decide +kernel
theorem dX8_figure_1 : decode cX8_figure 1 = .ok (.getfield 104, 3) := by decide +kernel
theorem dX8_figure_4 : decode cX8_figure 4 = .ok (.aload_n 0, 1) := by decide +kernel
theorem dX8_figure_5 : decode cX8_figure 5 = .ok (.getfield 101, 3) := by decide +kernel
theorem dX8_figure_8 : decode cX8_figure 8 = .ok (.if_icmp .ge 18, 3) := by decide +kernel
theorem dX8_figure_11 : decode cX8_figure 11 = .ok (.aload_n 0, 1) := by decide +kernel
theorem dX8_figure_12 : decode cX8_figure 12 = .ok (.getfield 7, 3) := by decide +kernel
theorem dX8_figure_15 : decode cX8_figure 15 = .ok (.aload_n 0, 1) := by decide +kernel
theorem dX8_figure_16 : decode cX8_figure 16 = .ok (.getfield 104, 3) := by decide +kernel
theorem dX8_figure_19 : decode cX8_figure 19 = .ok (.iaload, 1) := by decide +kernel
theorem dX8_figure_20 : decode cX8_figure 20 = .ok (.bipush 48, 2) := by decide +kernel
theorem dX8_figure_22 : decode cX8_figure 22 = .ok (.isub, 1) := by decide +kernel
theorem dX8_figure_23 : decode cX8_figure 23 = .ok (.goto 5, 3) := by decide +kernel
theorem dX8_figure_26 : decode cX8_figure 26 = .ok (.bipush (-9), 2) := by decide +kernel
theorem dX8_figure_28 : decode cX8_figure 28 = .ok (.istore_n 2, 1) := by decide +kernel
theorem dX8_figure_29 : decode cX8_figure 29 = .ok (.iload_n 2, 1) := by decide +kernel
theorem dX8_figure_30 : decode cX8_figure 30 = .ok (.i2l, 1) := by decide +kernel
theorem dX8_figure_31 : decode cX8_figure 31 = .ok (.iload_n 1, 1) := by decide +kernel
theorem dX8_figure_32 : decode cX8_figure 32 = .ok (.i2l, 1) := by decide +kernel
theorem dX8_figure_33 : decode cX8_figure 33 = .ok (.ldc2_w 107, 3) := by decide +kernel
theorem dX8_figure_36 : decode cX8_figure 36 = .ok (.invokestatic 61, 3) := by decide +kernel
theorem dX8_figure_39 : decode cX8_figure 39 = .ok (.ifCond .ne 6, 3) := by decide +kernel
theorem dX8_figure_42 : decode cX8_figure 42 = .ok (.bipush (-9), 2) := by decide +kernel
theorem dX8_figure_44 : decode cX8_figure 44 = .ok (.ireturn, 1) := by decide +kernel
theorem dX8_figure_45 : decode cX8_figure 45 = .ok (.aload_n 0, 1) := by decide +kernel
theorem dX8_figure_46 : decode cX8_figure 46 = .ok (.dup, 1) := by decide +kernel
theorem dX8_figure_47 : decode cX8_figure 47 = .ok (.getfield 104, 3) := by decide +kernel
theorem dX8_figure_50 : decode cX8_figure 50 = .ok (.iconst 1, 1) := by decide +kernel
theorem dX8_figure_51 : decode cX8_figure 51 = .ok (.iadd, 1) := by decide +kernel
theorem dX8_figure_52 : decode cX8_figure 52 = .ok (.putfield 104, 3) := by decide +kernel
theorem dX8_figure_55 : decode cX8_figure 55 = .ok (.iload_n 2, 1) := by decide +kernel
theorem dX8_figure_56 : decode cX8_figure 56 = .ok (.ireturn, 1) := by decide +kernel
theorem dX8_readLink_0 : decode cX8_readLink 0 = .ok (.aload_n 0, 1) := by decide +kernel
theorem dX8_readLink_1 : decode cX8_readLink 1 = .ok (.iconst 0, 1) := by decide +kernel
theorem dX8_readLink_2 : decode cX8_readLink 2 = .ok (.putfield 104, 3) := by decide +kernel
theorem dX8_readLink_5 : decode cX8_readLink 5 = .ok (.aload_n 0, 1) := by decide +kernel
theorem dX8_readLink_6 : decode cX8_readLink 6 = .ok (.iconst 0, 1) := by decide +kernel
theorem dX8_readLink_7 : decode cX8_readLink 7 = .ok (.putfield 109, 3) := by decide +kernel
theorem dX8_readLink_10 : decode cX8_readLink 10 = .ok (.aload_n 0, 1) := by decide +kernel
theorem dX8_readLink_11 : decode cX8_readLink 11 = .ok (.getfield 13, 3) := by decide +kernel
theorem dX8_readLink_14 : decode cX8_readLink 14 = .ok (.invokestatic 54, 3) := by decide +kernel
theorem dX8_readLink_17 : decode cX8_readLink 17 = .ok (.aload_n 0, 1) := by decide +kernel
theorem dX8_readLink_18 : decode cX8_readLink 18 = .ok (.getfield 101, 3) := by decide +kernel
theorem dX8_readLink_21 : decode cX8_readLink 21 = .ok (.ifCond .eq 14, 3) := by decide +kernel
theorem dX8_readLink_24 : decode cX8_readLink 24 = .ok (.aload_n 0, 1) := by decide +kernel
theorem dX8_readLink_25 : decode cX8_readLink 25 = .ok (.getfield 7, 3) := by decide +kernel
theorem dX8_readLink_28 : decode cX8_readLink 28 = .ok (.iconst 0, 1) := by decide +kernel
theorem dX8_readLink_29 : decode cX8_readLink 29 = .ok (.iaload, 1) := by decide +kernel
theorem dX8_readLink_30 : decode cX8_readLink 30 = .ok (.bipush 76, 2) := by decide +kernel
theorem dX8_readLink_32 : decode cX8_readLink 32 = .ok (.if_icmp .eq 5, 3) := by decide +kernel
theorem dX8_readLink_35 : decode cX8_readLink 35 = .ok (.iconst 0, 1) := by decide +kernel
theorem dX8_readLink_36 : decode cX8_readLink 36 = .ok (.ireturn, 1) := by decide +kernel
theorem dX8_readLink_37 : decode cX8_readLink 37 = .ok (.aload_n 0, 1) := by decide +kernel
theorem dX8_readLink_38 : decode cX8_readLink 38 = .ok (.iconst 1, 1) := by decide +kernel
theorem dX8_readLink_39 : decode cX8_readLink 39 = .ok (.putfield 104, 3) := by decide +kernel
theorem dX8_readLink_42 : decode cX8_readLink 42 = .ok (.iconst 0, 1) := by decide +kernel
theorem dX8_readLink_43 : decode cX8_readLink 43 = .ok (.istore_n 1, 1) := by decide +kernel
theorem dX8_readLink_44 : decode cX8_readLink 44 = .ok (.iload_n 1, 1) := by decide +kernel
theorem dX8_readLink_45 : decode cX8_readLink 45 = .ok (.bipush 8, 2) := by decide +kernel
theorem dX8_readLink_47 : decode cX8_readLink 47 = .ok (.if_icmp .ge 67, 3) := by decide +kernel
theorem dX8_readLink_50 : decode cX8_readLink 50 = .ok (.aload_n 0, 1) := by decide +kernel
theorem dX8_readLink_51 : decode cX8_readLink 51 = .ok (.iload_n 1, 1) := by decide +kernel
theorem dX8_readLink_52 : decode cX8_readLink 52 = .ok (.iconst 1, 1) := by decide +kernel
theorem dX8_readLink_53 : decode cX8_readLink 53 = .ok (.if_icmp .ne 7, 3) := by decide +kernel
theorem dX8_readLink_56 : decode cX8_readLink 56 = .ok (.iconst 2, 1) := by decide +kernel
theorem dX8_readLink_57 : decode cX8_readLink 57 = .ok (.goto 4, 3) := by decide +kernel
theorem dX8_readLink_60 : decode cX8_readLink 60 = .ok (.iconst 1, 1) := by decide +kernel
theorem dX8_readLink_61 : decode cX8_readLink 61 = .ok (.invokevirtual 112, 3) := by decide +kernel
theorem dX8_readLink_64 : decode cX8_readLink 64 = .ok (.istore_n 2, 1) := by decide +kernel
theorem dX8_readLink_65 : decode cX8_readLink 65 = .ok (.iload_n 2, 1) := by decide +kernel
theorem dX8_readLink_66 : decode cX8_readLink 66 = .ok (.bipush (-9), 2) := by decide +kernel
theorem dX8_readLink_68 : decode cX8_readLink 68 = .ok (.if_icmp .ne 8, 3) := by decide +kernel
theorem dX8_readLink_71 : decode cX8_readLink 71 = .ok (.aload_n 0, 1) := by decide +kernel
theorem dX8_readLink_72 : decode cX8_readLink 72 = .ok (.getfield 104, 3) := by decide +kernel
theorem dX8_readLink_75 : decode cX8_readLink 75 = .ok (.ireturn, 1) := by decide +kernel
theorem dX8_readLink_76 : decode cX8_readLink 76 = .ok (.aload_n 0, 1) := by decide +kernel
theorem dX8_readLink_77 : decode cX8_readLink 77 = .ok (.getfield 13, 3) := by decide +kernel
theorem dX8_readLink_80 : decode cX8_readLink 80 = .ok (.iload_n 1, 1) := by decide +kernel
theorem dX8_readLink_81 : decode cX8_readLink 81 = .ok (.iconst 2, 1) := by decide +kernel
theorem dX8_readLink_82 : decode cX8_readLink 82 = .ok (.if_icmp .ge 10, 3) := by decide +kernel
theorem dX8_readLink_85 : decode cX8_readLink 85 = .ok (.bipush 9, 2) := by decide +kernel
theorem dX8_readLink_87 : decode cX8_readLink 87 = .ok (.iload_n 1, 1) := by decide +kernel
theorem dX8_readLink_88 : decode cX8_readLink 88 = .ok (.iadd, 1) := by decide +kernel
theorem dX8_readLink_89 : decode cX8_readLink 89 = .ok (.goto 17, 3) := by decide +kernel
theorem dX8_readLink_92 : decode cX8_readLink 92 = .ok (.iload_n 1, 1) := by decide +kernel
theorem dX8_readLink_93 : decode cX8_readLink 93 = .ok (.iconst 2, 1) := by decide +kernel
theorem dX8_readLink_94 : decode cX8_readLink 94 = .ok (.isub, 1) := by decide +kernel
theorem dX8_readLink_95 : decode cX8_readLink 95 = .ok (.iconst 3, 1) := by decide +kernel
theorem dX8_readLink_96 : decode cX8_readLink 96 = .ok (.idiv, 1) := by decide +kernel
theorem dX8_readLink_97 : decode cX8_readLink 97 = .ok (.invokestatic 65, 3) := by decide +kernel
theorem dX8_readLink_100 : decode cX8_readLink 100 = .ok (.iload_n 1, 1) := by decide +kernel
theorem dX8_readLink_101 : decode cX8_readLink 101 = .ok (.iconst 2, 1) := by decide +kernel
theorem dX8_readLink_102 : decode cX8_readLink 102 = .ok (.isub, 1) := by decide +kernel
theorem dX8_readLink_103 : decode cX8_readLink 103 = .ok (.iconst 3, 1) := by decide +kernel
theorem dX8_readLink_104 : decode cX8_readLink 104 = .ok (.irem, 1) := by decide +kernel
theorem dX8_readLink_105 : decode cX8_readLink 105 = .ok (.iadd, 1) := by decide +kernel
theorem dX8_readLink_106 : decode cX8_readLink 106 = .ok (.iload_n 2, 1) := by decide +kernel
theorem dX8_readLink_107 : decode cX8_readLink 107 = .ok (.iastore, 1) := by decide +kernel
theorem dX8_readLink_108 : decode cX8_readLink 108 = .ok (.iinc 1 1, 3) := by decide +kernel
theorem dX8_readLink_111 : decode cX8_readLink 111 = .ok (.goto (-67), 3) := by decide +kernel
theorem dX8_readLink_114 : decode cX8_readLink 114 = .ok (.aload_n 0, 1) := by decide +kernel
theorem dX8_readLink_115 : decode cX8_readLink 115 = .ok (.getfield 13, 3) := by decide +kernel
theorem dX8_readLink_118 : decode cX8_readLink 118 = .ok (.iconst 0, 1) := by decide +kernel
theorem dX8_readLink_119 : decode cX8_readLink 119 = .ok (.invokestatic 65, 3) := by decide +kernel
theorem dX8_readLink_122 : decode cX8_readLink 122 = .ok (.iconst 3, 1) := by decide +kernel
theorem dX8_readLink_123 : decode cX8_readLink 123 = .ok (.iadd, 1) := by decide +kernel
theorem dX8_readLink_124 : decode cX8_readLink 124 = .ok (.aload_n 0, 1) := by decide +kernel
theorem dX8_readLink_125 : decode cX8_readLink 125 = .ok (.getfield 13, 3) := by decide +kernel
theorem dX8_readLink_128 : decode cX8_readLink 128 = .ok (.iconst 1, 1) := by decide +kernel
theorem dX8_readLink_129 : decode cX8_readLink 129 = .ok (.invokestatic 65, 3) := by decide +kernel
theorem dX8_readLink_132 : decode cX8_readLink 132 = .ok (.iaload, 1) := by decide +kernel
theorem dX8_readLink_133 : decode cX8_readLink 133 = .ok (.iastore, 1) := by decide +kernel
theorem dX8_readLink_134 : decode cX8_readLink 134 = .ok (.aload_n 0, 1) := by decide +kernel
theorem dX8_readLink_135 : decode cX8_readLink 135 = .ok (.getfield 13, 3) := by decide +kernel
theorem dX8_readLink_138 : decode cX8_readLink 138 = .ok (.iconst 1, 1) := by decide +kernel
theorem dX8_readLink_139 : decode cX8_readLink 139 = .ok (.invokestatic 65, 3) := by decide +kernel
theorem dX8_readLink_142 : decode cX8_readLink 142 = .ok (.iconst 3, 1) := by decide +kernel
theorem dX8_readLink_143 : decode cX8_readLink 143 = .ok (.iadd, 1) := by decide +kernel
theorem dX8_readLink_144 : decode cX8_readLink 144 = .ok (.aload_n 0, 1) := by decide +kernel
theorem dX8_readLink_145 : decode cX8_readLink 145 = .ok (.getfield 13, 3) := by decide +kernel
theorem dX8_readLink_148 : decode cX8_readLink 148 = .ok (.iconst 0, 1) := by decide +kernel
theorem dX8_readLink_149 : decode cX8_readLink 149 = .ok (.invokestatic 65, 3) := by decide +kernel
theorem dX8_readLink_152 : decode cX8_readLink 152 = .ok (.iaload, 1) := by decide +kernel
theorem dX8_readLink_153 : decode cX8_readLink 153 = .ok (.iastore, 1) := by decide +kernel
theorem dX8_readLink_154 : decode cX8_readLink 154 = .ok (.aload_n 0, 1) := by decide +kernel
theorem dX8_readLink_155 : decode cX8_readLink 155 = .ok (.getfield 104, 3) := by decide +kernel
theorem dX8_readLink_158 : decode cX8_readLink 158 = .ok (.aload_n 0, 1) := by decide +kernel
theorem dX8_readLink_159 : decode cX8_readLink 159 = .ok (.getfield 101, 3) := by decide +kernel
theorem dX8_readLink_162 : decode cX8_readLink 162 = .ok (.if_icmp .ge 125, 3) := by decide +kernel
theorem dX8_readLink_165 : decode cX8_readLink 165 = .ok (.aload_n 0, 1) := by decide +kernel
theorem dX8_readLink_166 : decode cX8_readLink 166 = .ok (.getfield 7, 3) := by decide +kernel
theorem dX8_readLink_169 : decode cX8_readLink 169 = .ok (.aload_n 0, 1) := by decide +kernel
theorem dX8_readLink_170 : decode cX8_readLink 170 = .ok (.getfield 104, 3) := by decide +kernel
theorem dX8_readLink_173 : decode cX8_readLink 173 = .ok (.iaload, 1) := by decide +kernel
theorem dX8_readLink_174 : decode cX8_readLink 174 = .ok (.i2l, 1) := by decide +kernel
theorem dX8_readLink_175 : decode cX8_readLink 175 = .ok (.ldc2_w 115, 3) := by decide +kernel
theorem dX8_readLink_178 : decode cX8_readLink 178 = .ok (.ldc2_w 117, 3) := by decide +kernel
theorem dX8_readLink_181 : decode cX8_readLink 181 = .ok (.invokestatic 61, 3) := by decide +kernel
theorem dX8_readLink_184 : decode cX8_readLink 184 = .ok (.ifCond .eq 18, 3) := by decide +kernel
theorem dX8_readLink_187 : decode cX8_readLink 187 = .ok (.aload_n 0, 1) := by decide +kernel
theorem dX8_readLink_188 : decode cX8_readLink 188 = .ok (.getfield 7, 3) := by decide +kernel
theorem dX8_readLink_191 : decode cX8_readLink 191 = .ok (.aload_n 0, 1) := by decide +kernel
theorem dX8_readLink_192 : decode cX8_readLink 192 = .ok (.getfield 104, 3) := by decide +kernel
theorem dX8_readLink_195 : decode cX8_readLink 195 = .ok (.iaload, 1) := by decide +kernel
theorem dX8_readLink_196 : decode cX8_readLink 196 = .ok (.bipush 87, 2) := by decide +kernel
theorem dX8_readLink_198 : decode cX8_readLink 198 = .ok (.isub, 1) := by decide +kernel
theorem dX8_readLink_199 : decode cX8_readLink 199 = .ok (.goto 15, 3) := by decide +kernel
theorem dX8_readLink_202 : decode cX8_readLink 202 = .ok (.aload_n 0, 1) := by decide +kernel
theorem dX8_readLink_203 : decode cX8_readLink 203 = .ok (.getfield 7, 3) := by decide +kernel
theorem dX8_readLink_206 : decode cX8_readLink 206 = .ok (.aload_n 0, 1) := by decide +kernel
theorem dX8_readLink_207 : decode cX8_readLink 207 = .ok (.getfield 104, 3) := by decide +kernel
theorem dX8_readLink_210 : decode cX8_readLink 210 = .ok (.iaload, 1) := by decide +kernel
theorem dX8_readLink_211 : decode cX8_readLink 211 = .ok (.bipush 48, 2) := by decide +kernel
theorem dX8_readLink_213 : decode cX8_readLink 213 = .ok (.isub, 1) := by decide +kernel
theorem dX8_readLink_214 : decode cX8_readLink 214 = .ok (.istore_n 1, 1) := by decide +kernel
theorem dX8_readLink_215 : decode cX8_readLink 215 = .ok (.iload_n 1, 1) := by decide +kernel
theorem dX8_readLink_216 : decode cX8_readLink 216 = .ok (.i2l, 1) := by decide +kernel
theorem dX8_readLink_217 : decode cX8_readLink 217 = .ok (.lconst 1, 1) := by decide +kernel
theorem dX8_readLink_218 : decode cX8_readLink 218 = .ok (.ldc2_w 107, 3) := by decide +kernel
theorem dX8_readLink_221 : decode cX8_readLink 221 = .ok (.invokestatic 61, 3) := by decide +kernel
theorem dX8_readLink_224 : decode cX8_readLink 224 = .ok (.ifCond .ne 30, 3) := by decide +kernel
theorem dX8_readLink_227 : decode cX8_readLink 227 = .ok (.aload_n 0, 1) := by decide +kernel
theorem dX8_readLink_228 : decode cX8_readLink 228 = .ok (.getfield 7, 3) := by decide +kernel
theorem dX8_readLink_231 : decode cX8_readLink 231 = .ok (.aload_n 0, 1) := by decide +kernel
theorem dX8_readLink_232 : decode cX8_readLink 232 = .ok (.getfield 104, 3) := by decide +kernel
theorem dX8_readLink_235 : decode cX8_readLink 235 = .ok (.iaload, 1) := by decide +kernel
theorem dX8_readLink_236 : decode cX8_readLink 236 = .ok (.i2l, 1) := by decide +kernel
theorem dX8_readLink_237 : decode cX8_readLink 237 = .ok (.ldc2_w 115, 3) := by decide +kernel
theorem dX8_readLink_240 : decode cX8_readLink 240 = .ok (.ldc2_w 117, 3) := by decide +kernel
theorem dX8_readLink_243 : decode cX8_readLink 243 = .ok (.invokestatic 61, 3) := by decide +kernel
theorem dX8_readLink_246 : decode cX8_readLink 246 = .ok (.ifCond .ne 8, 3) := by decide +kernel
theorem dX8_readLink_249 : decode cX8_readLink 249 = .ok (.aload_n 0, 1) := by decide +kernel
theorem dX8_readLink_250 : decode cX8_readLink 250 = .ok (.getfield 104, 3) := by decide +kernel
theorem dX8_readLink_253 : decode cX8_readLink 253 = .ok (.ireturn, 1) := by decide +kernel
theorem dX8_readLink_254 : decode cX8_readLink 254 = .ok (.aload_n 0, 1) := by decide +kernel
theorem dX8_readLink_255 : decode cX8_readLink 255 = .ok (.getfield 16, 3) := by decide +kernel
theorem dX8_readLink_258 : decode cX8_readLink 258 = .ok (.aload_n 0, 1) := by decide +kernel
theorem dX8_readLink_259 : decode cX8_readLink 259 = .ok (.getfield 109, 3) := by decide +kernel
theorem dX8_readLink_262 : decode cX8_readLink 262 = .ok (.iload_n 1, 1) := by decide +kernel
theorem dX8_readLink_263 : decode cX8_readLink 263 = .ok (.iastore, 1) := by decide +kernel
theorem dX8_readLink_264 : decode cX8_readLink 264 = .ok (.aload_n 0, 1) := by decide +kernel
theorem dX8_readLink_265 : decode cX8_readLink 265 = .ok (.dup, 1) := by decide +kernel
theorem dX8_readLink_266 : decode cX8_readLink 266 = .ok (.getfield 109, 3) := by decide +kernel
theorem dX8_readLink_269 : decode cX8_readLink 269 = .ok (.iconst 1, 1) := by decide +kernel
theorem dX8_readLink_270 : decode cX8_readLink 270 = .ok (.iadd, 1) := by decide +kernel
theorem dX8_readLink_271 : decode cX8_readLink 271 = .ok (.putfield 109, 3) := by decide +kernel
theorem dX8_readLink_274 : decode cX8_readLink 274 = .ok (.aload_n 0, 1) := by decide +kernel
theorem dX8_readLink_275 : decode cX8_readLink 275 = .ok (.dup, 1) := by decide +kernel
theorem dX8_readLink_276 : decode cX8_readLink 276 = .ok (.getfield 104, 3) := by decide +kernel
theorem dX8_readLink_279 : decode cX8_readLink 279 = .ok (.iconst 1, 1) := by decide +kernel
theorem dX8_readLink_280 : decode cX8_readLink 280 = .ok (.iadd, 1) := by decide +kernel
theorem dX8_readLink_281 : decode cX8_readLink 281 = .ok (.putfield 104, 3) := by decide +kernel
theorem dX8_readLink_284 : decode cX8_readLink 284 = .ok (.goto (-130), 3) := by decide +kernel
theorem dX8_readLink_287 : decode cX8_readLink 287 = .ok (.bipush (-9), 2) := by decide +kernel
theorem dX8_readLink_289 : decode cX8_readLink 289 = .ok (.ireturn, 1) := by decide +kernel
theorem dX8_fault_0 : decode cX8_fault 0 = .ok (.aload_n 0, 1) := by decide +kernel
theorem dX8_fault_1 : decode cX8_fault 1 = .ok (.iconst 0, 1) := by decide +kernel
theorem dX8_fault_2 : decode cX8_fault 2 = .ok (.putfield 58, 3) := by decide +kernel
theorem dX8_fault_5 : decode cX8_fault 5 = .ok (.aload_n 0, 1) := by decide +kernel
theorem dX8_fault_6 : decode cX8_fault 6 = .ok (.invokevirtual 119, 3) := by decide +kernel
theorem dX8_fault_9 : decode cX8_fault 9 = .ok (.ireturn, 1) := by decide +kernel
theorem dX8_doEvent_0 : decode cX8_doEvent 0 = .ok (.iload_n 2, 1) := by decide +kernel
theorem dX8_doEvent_1 : decode cX8_doEvent 1 = .ok (.bipush 10, 2) := by decide +kernel
theorem dX8_doEvent_3 : decode cX8_doEvent 3 = .ok (.if_icmp .ge 24, 3) := by decide +kernel
theorem dX8_doEvent_6 : decode cX8_doEvent 6 = .ok (.iconst 0, 1) := by decide +kernel
theorem dX8_doEvent_7 : decode cX8_doEvent 7 = .ok (.istore_n 3, 1) := by decide +kernel
theorem dX8_doEvent_8 : decode cX8_doEvent 8 = .ok (.iload_n 3, 1) := by decide +kernel
theorem dX8_doEvent_9 : decode cX8_doEvent 9 = .ok (.iload_n 2, 1) := by decide +kernel
theorem dX8_doEvent_10 : decode cX8_doEvent 10 = .ok (.if_icmp .ge 14, 3) := by decide +kernel
theorem dX8_doEvent_13 : decode cX8_doEvent 13 = .ok (.aload_n 0, 1) := by decide +kernel
theorem dX8_doEvent_14 : decode cX8_doEvent 14 = .ok (.aload_n 1, 1) := by decide +kernel
theorem dX8_doEvent_15 : decode cX8_doEvent 15 = .ok (.invokevirtual 96, 3) := by decide +kernel
theorem dX8_doEvent_18 : decode cX8_doEvent 18 = .ok (.iinc 3 1, 3) := by decide +kernel
theorem dX8_doEvent_21 : decode cX8_doEvent 21 = .ok (.goto (-13), 3) := by decide +kernel
theorem dX8_doEvent_24 : decode cX8_doEvent 24 = .ok (.goto 34, 3) := by decide +kernel
theorem dX8_doEvent_27 : decode cX8_doEvent 27 = .ok (.aload_n 1, 1) := by decide +kernel
theorem dX8_doEvent_28 : decode cX8_doEvent 28 = .ok (.iload_n 2, 1) := by decide +kernel
theorem dX8_doEvent_29 : decode cX8_doEvent 29 = .ok (.bipush 10, 2) := by decide +kernel
theorem dX8_doEvent_31 : decode cX8_doEvent 31 = .ok (.isub, 1) := by decide +kernel
theorem dX8_doEvent_32 : decode cX8_doEvent 32 = .ok (.invokestatic 123, 3) := by decide +kernel
theorem dX8_doEvent_35 : decode cX8_doEvent 35 = .ok (.ifCond .eq 14, 3) := by decide +kernel
theorem dX8_doEvent_38 : decode cX8_doEvent 38 = .ok (.aload_n 1, 1) := by decide +kernel
theorem dX8_doEvent_39 : decode cX8_doEvent 39 = .ok (.bipush 8, 2) := by decide +kernel
theorem dX8_doEvent_41 : decode cX8_doEvent 41 = .ok (.dup2, 1) := by decide +kernel
theorem dX8_doEvent_42 : decode cX8_doEvent 42 = .ok (.iaload, 1) := by decide +kernel
theorem dX8_doEvent_43 : decode cX8_doEvent 43 = .ok (.iconst 1, 1) := by decide +kernel
theorem dX8_doEvent_44 : decode cX8_doEvent 44 = .ok (.iadd, 1) := by decide +kernel
theorem dX8_doEvent_45 : decode cX8_doEvent 45 = .ok (.iastore, 1) := by decide +kernel
theorem dX8_doEvent_46 : decode cX8_doEvent 46 = .ok (.goto 12, 3) := by decide +kernel
theorem dX8_doEvent_49 : decode cX8_doEvent 49 = .ok (.aload_n 1, 1) := by decide +kernel
theorem dX8_doEvent_50 : decode cX8_doEvent 50 = .ok (.iload_n 2, 1) := by decide +kernel
theorem dX8_doEvent_51 : decode cX8_doEvent 51 = .ok (.bipush 10, 2) := by decide +kernel
theorem dX8_doEvent_53 : decode cX8_doEvent 53 = .ok (.isub, 1) := by decide +kernel
theorem dX8_doEvent_54 : decode cX8_doEvent 54 = .ok (.iconst 0, 1) := by decide +kernel
theorem dX8_doEvent_55 : decode cX8_doEvent 55 = .ok (.invokestatic 126, 3) := by decide +kernel
theorem dX8_doEvent_58 : decode cX8_doEvent 58 = .ok (.return_, 1) := by decide +kernel
theorem dX8_link_0 : decode cX8_link 0 = .ok (.aload_n 0, 1) := by decide +kernel
theorem dX8_link_1 : decode cX8_link 1 = .ok (.iconst 0, 1) := by decide +kernel
theorem dX8_link_2 : decode cX8_link 2 = .ok (.putfield 58, 3) := by decide +kernel
theorem dX8_link_5 : decode cX8_link 5 = .ok (.aload_n 0, 1) := by decide +kernel
theorem dX8_link_6 : decode cX8_link 6 = .ok (.invokevirtual 119, 3) := by decide +kernel
theorem dX8_link_9 : decode cX8_link 9 = .ok (.bipush (-9), 2) := by decide +kernel
theorem dX8_link_11 : decode cX8_link 11 = .ok (.if_icmp .eq 6, 3) := by decide +kernel
theorem dX8_link_14 : decode cX8_link 14 = .ok (.bipush (-3), 2) := by decide +kernel
theorem dX8_link_16 : decode cX8_link 16 = .ok (.ireturn, 1) := by decide +kernel
theorem dX8_link_17 : decode cX8_link 17 = .ok (.aload_n 0, 1) := by decide +kernel
theorem dX8_link_18 : decode cX8_link 18 = .ok (.getfield 13, 3) := by decide +kernel
theorem dX8_link_21 : decode cX8_link 21 = .ok (.aload_n 0, 1) := by decide +kernel
theorem dX8_link_22 : decode cX8_link 22 = .ok (.getfield 22, 3) := by decide +kernel
theorem dX8_link_25 : decode cX8_link 25 = .ok (.invokestatic 89, 3) := by decide +kernel
theorem dX8_link_28 : decode cX8_link 28 = .ok (.aload_n 0, 1) := by decide +kernel
theorem dX8_link_29 : decode cX8_link 29 = .ok (.aload_n 0, 1) := by decide +kernel
theorem dX8_link_30 : decode cX8_link 30 = .ok (.getfield 109, 3) := by decide +kernel
theorem dX8_link_33 : decode cX8_link 33 = .ok (.putfield 130, 3) := by decide +kernel
theorem dX8_link_36 : decode cX8_link 36 = .ok (.aload_n 0, 1) := by decide +kernel
theorem dX8_link_37 : decode cX8_link 37 = .ok (.getfield 22, 3) := by decide +kernel
theorem dX8_link_40 : decode cX8_link 40 = .ok (.aload_n 0, 1) := by decide +kernel
theorem dX8_link_41 : decode cX8_link 41 = .ok (.getfield 19, 3) := by decide +kernel
theorem dX8_link_44 : decode cX8_link 44 = .ok (.invokestatic 89, 3) := by decide +kernel
theorem dX8_link_47 : decode cX8_link 47 = .ok (.iconst 0, 1) := by decide +kernel
theorem dX8_link_48 : decode cX8_link 48 = .ok (.istore_n 1, 1) := by decide +kernel
theorem dX8_link_49 : decode cX8_link 49 = .ok (.iload_n 1, 1) := by decide +kernel
theorem dX8_link_50 : decode cX8_link 50 = .ok (.aload_n 0, 1) := by decide +kernel
theorem dX8_link_51 : decode cX8_link 51 = .ok (.getfield 130, 3) := by decide +kernel
theorem dX8_link_54 : decode cX8_link 54 = .ok (.if_icmp .ge 35, 3) := by decide +kernel
theorem dX8_link_57 : decode cX8_link 57 = .ok (.aload_n 0, 1) := by decide +kernel
theorem dX8_link_58 : decode cX8_link 58 = .ok (.getfield 25, 3) := by decide +kernel
theorem dX8_link_61 : decode cX8_link 61 = .ok (.iload_n 1, 1) := by decide +kernel
theorem dX8_link_62 : decode cX8_link 62 = .ok (.aload_n 0, 1) := by decide +kernel
theorem dX8_link_63 : decode cX8_link 63 = .ok (.getfield 16, 3) := by decide +kernel
theorem dX8_link_66 : decode cX8_link 66 = .ok (.iload_n 1, 1) := by decide +kernel
theorem dX8_link_67 : decode cX8_link 67 = .ok (.iaload, 1) := by decide +kernel
theorem dX8_link_68 : decode cX8_link 68 = .ok (.iastore, 1) := by decide +kernel
theorem dX8_link_69 : decode cX8_link 69 = .ok (.aload_n 0, 1) := by decide +kernel
theorem dX8_link_70 : decode cX8_link 70 = .ok (.aload_n 0, 1) := by decide +kernel
theorem dX8_link_71 : decode cX8_link 71 = .ok (.getfield 19, 3) := by decide +kernel
theorem dX8_link_74 : decode cX8_link 74 = .ok (.aload_n 0, 1) := by decide +kernel
theorem dX8_link_75 : decode cX8_link 75 = .ok (.getfield 25, 3) := by decide +kernel
theorem dX8_link_78 : decode cX8_link 78 = .ok (.iload_n 1, 1) := by decide +kernel
theorem dX8_link_79 : decode cX8_link 79 = .ok (.iaload, 1) := by decide +kernel
theorem dX8_link_80 : decode cX8_link 80 = .ok (.invokevirtual 133, 3) := by decide +kernel
theorem dX8_link_83 : decode cX8_link 83 = .ok (.iinc 1 1, 3) := by decide +kernel
theorem dX8_link_86 : decode cX8_link 86 = .ok (.goto (-37), 3) := by decide +kernel
theorem dX8_link_89 : decode cX8_link 89 = .ok (.aload_n 0, 1) := by decide +kernel
theorem dX8_link_90 : decode cX8_link 90 = .ok (.iconst 0, 1) := by decide +kernel
theorem dX8_link_91 : decode cX8_link 91 = .ok (.putfield 136, 3) := by decide +kernel
theorem dX8_link_94 : decode cX8_link 94 = .ok (.aload_n 0, 1) := by decide +kernel
theorem dX8_link_95 : decode cX8_link 95 = .ok (.getfield 37, 3) := by decide +kernel
theorem dX8_link_98 : decode cX8_link 98 = .ok (.iconst 0, 1) := by decide +kernel
theorem dX8_link_99 : decode cX8_link 99 = .ok (.iconst 0, 1) := by decide +kernel
theorem dX8_link_100 : decode cX8_link 100 = .ok (.bastore, 1) := by decide +kernel
theorem dX8_link_101 : decode cX8_link 101 = .ok (.aload_n 0, 1) := by decide +kernel
theorem dX8_link_102 : decode cX8_link 102 = .ok (.getfield 37, 3) := by decide +kernel
theorem dX8_link_105 : decode cX8_link 105 = .ok (.iconst 1, 1) := by decide +kernel
theorem dX8_link_106 : decode cX8_link 106 = .ok (.iconst 0, 1) := by decide +kernel
theorem dX8_link_107 : decode cX8_link 107 = .ok (.bastore, 1) := by decide +kernel
theorem dX8_link_108 : decode cX8_link 108 = .ok (.aload_n 0, 1) := by decide +kernel
theorem dX8_link_109 : decode cX8_link 109 = .ok (.getfield 19, 3) := by decide +kernel
theorem dX8_link_112 : decode cX8_link 112 = .ok (.iconst 3, 1) := by decide +kernel
theorem dX8_link_113 : decode cX8_link 113 = .ok (.iaload, 1) := by decide +kernel
theorem dX8_link_114 : decode cX8_link 114 = .ok (.ireturn, 1) := by decide +kernel
theorem dX8_told_0 : decode cX8_told 0 = .ok (.iload_n 1, 1) := by decide +kernel
theorem dX8_told_1 : decode cX8_told 1 = .ok (.tableswitch 77 0 3 #[31, 35, 57, 72], 31) := by decide +kernel
theorem dX8_told_32 : decode cX8_told 32 = .ok (.aload_n 0, 1) := by decide +kernel
theorem dX8_told_33 : decode cX8_told 33 = .ok (.iconst 0, 1) := by decide +kernel
theorem dX8_told_34 : decode cX8_told 34 = .ok (.iaload, 1) := by decide +kernel
theorem dX8_told_35 : decode cX8_told 35 = .ok (.ireturn, 1) := by decide +kernel
theorem dX8_told_36 : decode cX8_told 36 = .ok (.aload_n 0, 1) := by decide +kernel
theorem dX8_told_37 : decode cX8_told 37 = .ok (.iconst 0, 1) := by decide +kernel
theorem dX8_told_38 : decode cX8_told 38 = .ok (.iaload, 1) := by decide +kernel
theorem dX8_told_39 : decode cX8_told 39 = .ok (.iconst 1, 1) := by decide +kernel
theorem dX8_told_40 : decode cX8_told 40 = .ok (.if_icmp .eq 10, 3) := by decide +kernel
theorem dX8_told_43 : decode cX8_told 43 = .ok (.aload_n 0, 1) := by decide +kernel
theorem dX8_told_44 : decode cX8_told 44 = .ok (.iconst 0, 1) := by decide +kernel
theorem dX8_told_45 : decode cX8_told 45 = .ok (.iaload, 1) := by decide +kernel
theorem dX8_told_46 : decode cX8_told 46 = .ok (.iconst 3, 1) := by decide +kernel
theorem dX8_told_47 : decode cX8_told 47 = .ok (.if_icmp .ne 9, 3) := by decide +kernel
theorem dX8_told_50 : decode cX8_told 50 = .ok (.aload_n 0, 1) := by decide +kernel
theorem dX8_told_51 : decode cX8_told 51 = .ok (.iconst 1, 1) := by decide +kernel
theorem dX8_told_52 : decode cX8_told 52 = .ok (.iaload, 1) := by decide +kernel
theorem dX8_told_53 : decode cX8_told 53 = .ok (.goto 4, 3) := by decide +kernel
theorem dX8_told_56 : decode cX8_told 56 = .ok (.iconst 0, 1) := by decide +kernel
theorem dX8_told_57 : decode cX8_told 57 = .ok (.ireturn, 1) := by decide +kernel
theorem dX8_told_58 : decode cX8_told 58 = .ok (.aload_n 0, 1) := by decide +kernel
theorem dX8_told_59 : decode cX8_told 59 = .ok (.iconst 0, 1) := by decide +kernel
theorem dX8_told_60 : decode cX8_told 60 = .ok (.iaload, 1) := by decide +kernel
theorem dX8_told_61 : decode cX8_told 61 = .ok (.iconst 2, 1) := by decide +kernel
theorem dX8_told_62 : decode cX8_told 62 = .ok (.if_icmp .ne 9, 3) := by decide +kernel
theorem dX8_told_65 : decode cX8_told 65 = .ok (.aload_n 0, 1) := by decide +kernel
theorem dX8_told_66 : decode cX8_told 66 = .ok (.iconst 2, 1) := by decide +kernel
theorem dX8_told_67 : decode cX8_told 67 = .ok (.iaload, 1) := by decide +kernel
theorem dX8_told_68 : decode cX8_told 68 = .ok (.goto 4, 3) := by decide +kernel
theorem dX8_told_71 : decode cX8_told 71 = .ok (.iconst 0, 1) := by decide +kernel
theorem dX8_told_72 : decode cX8_told 72 = .ok (.ireturn, 1) := by decide +kernel
theorem dX8_told_73 : decode cX8_told 73 = .ok (.aload_n 0, 1) := by decide +kernel
theorem dX8_told_74 : decode cX8_told 74 = .ok (.invokestatic 85, 3) := by decide +kernel
theorem dX8_told_77 : decode cX8_told 77 = .ok (.ireturn, 1) := by decide +kernel
theorem dX8_told_78 : decode cX8_told 78 = .ok (.aload_n 0, 1) := by decide +kernel
theorem dX8_told_79 : decode cX8_told 79 = .ok (.iconst 3, 1) := by decide +kernel
theorem dX8_told_80 : decode cX8_told 80 = .ok (.iload_n 1, 1) := by decide +kernel
theorem dX8_told_81 : decode cX8_told 81 = .ok (.iadd, 1) := by decide +kernel
theorem dX8_told_82 : decode cX8_told 82 = .ok (.iconst 4, 1) := by decide +kernel
theorem dX8_told_83 : decode cX8_told 83 = .ok (.isub, 1) := by decide +kernel
theorem dX8_told_84 : decode cX8_told 84 = .ok (.iaload, 1) := by decide +kernel
theorem dX8_told_85 : decode cX8_told 85 = .ok (.ireturn, 1) := by decide +kernel
theorem dX8_ask_0 : decode cX8_ask 0 = .ok (.aload_n 0, 1) := by decide +kernel
theorem dX8_ask_1 : decode cX8_ask 1 = .ok (.iconst 0, 1) := by decide +kernel
theorem dX8_ask_2 : decode cX8_ask 2 = .ok (.putfield 58, 3) := by decide +kernel
theorem dX8_ask_5 : decode cX8_ask 5 = .ok (.iload_n 1, 1) := by decide +kernel
theorem dX8_ask_6 : decode cX8_ask 6 = .ok (.i2l, 1) := by decide +kernel
theorem dX8_ask_7 : decode cX8_ask 7 = .ok (.lconst 0, 1) := by decide +kernel
theorem dX8_ask_8 : decode cX8_ask 8 = .ok (.ldc2_w 107, 3) := by decide +kernel
theorem dX8_ask_11 : decode cX8_ask 11 = .ok (.invokestatic 61, 3) := by decide +kernel
theorem dX8_ask_14 : decode cX8_ask 14 = .ok (.ifCond .eq 14, 3) := by decide +kernel
theorem dX8_ask_17 : decode cX8_ask 17 = .ok (.aload_n 0, 1) := by decide +kernel
theorem dX8_ask_18 : decode cX8_ask 18 = .ok (.getfield 19, 3) := by decide +kernel
theorem dX8_ask_21 : decode cX8_ask 21 = .ok (.iload_n 1, 1) := by decide +kernel
theorem dX8_ask_22 : decode cX8_ask 22 = .ok (.invokestatic 139, 3) := by decide +kernel
theorem dX8_ask_25 : decode cX8_ask 25 = .ok (.goto 22, 3) := by decide +kernel
theorem dX8_ask_28 : decode cX8_ask 28 = .ok (.iload_n 1, 1) := by decide +kernel
theorem dX8_ask_29 : decode cX8_ask 29 = .ok (.bipush 10, 2) := by decide +kernel
theorem dX8_ask_31 : decode cX8_ask 31 = .ok (.if_icmp .ne 14, 3) := by decide +kernel
theorem dX8_ask_34 : decode cX8_ask 34 = .ok (.aload_n 0, 1) := by decide +kernel
theorem dX8_ask_35 : decode cX8_ask 35 = .ok (.aload_n 0, 1) := by decide +kernel
theorem dX8_ask_36 : decode cX8_ask 36 = .ok (.getfield 19, 3) := by decide +kernel
theorem dX8_ask_39 : decode cX8_ask 39 = .ok (.invokevirtual 143, 3) := by decide +kernel
theorem dX8_ask_42 : decode cX8_ask 42 = .ok (.goto 5, 3) := by decide +kernel
theorem dX8_ask_45 : decode cX8_ask 45 = .ok (.bipush (-2), 2) := by decide +kernel
theorem dX8_ask_47 : decode cX8_ask 47 = .ok (.ireturn, 1) := by decide +kernel
theorem dX8_best_0 : decode cX8_best 0 = .ok (.iconst 1, 1) := by decide +kernel
theorem dX8_best_1 : decode cX8_best 1 = .ok (.istore_n 2, 1) := by decide +kernel
theorem dX8_best_2 : decode cX8_best 2 = .ok (.iconst 0, 1) := by decide +kernel
theorem dX8_best_3 : decode cX8_best 3 = .ok (.istore_n 3, 1) := by decide +kernel
theorem dX8_best_4 : decode cX8_best 4 = .ok (.iconst 1, 1) := by decide +kernel
theorem dX8_best_5 : decode cX8_best 5 = .ok (.istore 4, 2) := by decide +kernel
theorem dX8_best_7 : decode cX8_best 7 = .ok (.iload 4, 2) := by decide +kernel
theorem dX8_best_9 : decode cX8_best 9 = .ok (.bipush 10, 2) := by decide +kernel
theorem dX8_best_11 : decode cX8_best 11 = .ok (.if_icmp .ge 92, 3) := by decide +kernel
theorem dX8_best_14 : decode cX8_best 14 = .ok (.aload_n 0, 1) := by decide +kernel
theorem dX8_best_15 : decode cX8_best 15 = .ok (.getfield 22, 3) := by decide +kernel
theorem dX8_best_18 : decode cX8_best 18 = .ok (.iload_n 1, 1) := by decide +kernel
theorem dX8_best_19 : decode cX8_best 19 = .ok (.invokestatic 65, 3) := by decide +kernel
theorem dX8_best_22 : decode cX8_best 22 = .ok (.iconst 1, 1) := by decide +kernel
theorem dX8_best_23 : decode cX8_best 23 = .ok (.iadd, 1) := by decide +kernel
theorem dX8_best_24 : decode cX8_best 24 = .ok (.iaload, 1) := by decide +kernel
theorem dX8_best_25 : decode cX8_best 25 = .ok (.istore 5, 2) := by decide +kernel
theorem dX8_best_27 : decode cX8_best 27 = .ok (.aload_n 0, 1) := by decide +kernel
theorem dX8_best_28 : decode cX8_best 28 = .ok (.getfield 22, 3) := by decide +kernel
theorem dX8_best_31 : decode cX8_best 31 = .ok (.iload_n 1, 1) := by decide +kernel
theorem dX8_best_32 : decode cX8_best 32 = .ok (.invokestatic 65, 3) := by decide +kernel
theorem dX8_best_35 : decode cX8_best 35 = .ok (.iconst 1, 1) := by decide +kernel
theorem dX8_best_36 : decode cX8_best 36 = .ok (.iadd, 1) := by decide +kernel
theorem dX8_best_37 : decode cX8_best 37 = .ok (.iload 4, 2) := by decide +kernel
theorem dX8_best_39 : decode cX8_best 39 = .ok (.iastore, 1) := by decide +kernel
theorem dX8_best_40 : decode cX8_best 40 = .ok (.aload_n 0, 1) := by decide +kernel
theorem dX8_best_41 : decode cX8_best 41 = .ok (.invokevirtual 146, 3) := by decide +kernel
theorem dX8_best_44 : decode cX8_best 44 = .ok (.istore 6, 2) := by decide +kernel
theorem dX8_best_46 : decode cX8_best 46 = .ok (.aload_n 0, 1) := by decide +kernel
theorem dX8_best_47 : decode cX8_best 47 = .ok (.getfield 22, 3) := by decide +kernel
theorem dX8_best_50 : decode cX8_best 50 = .ok (.iload_n 1, 1) := by decide +kernel
theorem dX8_best_51 : decode cX8_best 51 = .ok (.invokestatic 65, 3) := by decide +kernel
theorem dX8_best_54 : decode cX8_best 54 = .ok (.iconst 1, 1) := by decide +kernel
theorem dX8_best_55 : decode cX8_best 55 = .ok (.iadd, 1) := by decide +kernel
theorem dX8_best_56 : decode cX8_best 56 = .ok (.iload 5, 2) := by decide +kernel
theorem dX8_best_58 : decode cX8_best 58 = .ok (.iastore, 1) := by decide +kernel
theorem dX8_best_59 : decode cX8_best 59 = .ok (.iload 4, 2) := by decide +kernel
theorem dX8_best_61 : decode cX8_best 61 = .ok (.iconst 1, 1) := by decide +kernel
theorem dX8_best_62 : decode cX8_best 62 = .ok (.if_icmp .eq 9, 3) := by decide +kernel
theorem dX8_best_65 : decode cX8_best 65 = .ok (.iload 6, 2) := by decide +kernel
theorem dX8_best_67 : decode cX8_best 67 = .ok (.iload_n 3, 1) := by decide +kernel
theorem dX8_best_68 : decode cX8_best 68 = .ok (.if_icmp .ge 8, 3) := by decide +kernel
theorem dX8_best_71 : decode cX8_best 71 = .ok (.iload 4, 2) := by decide +kernel
theorem dX8_best_73 : decode cX8_best 73 = .ok (.goto 4, 3) := by decide +kernel
theorem dX8_best_76 : decode cX8_best 76 = .ok (.iload_n 2, 1) := by decide +kernel
theorem dX8_best_77 : decode cX8_best 77 = .ok (.istore_n 2, 1) := by decide +kernel
theorem dX8_best_78 : decode cX8_best 78 = .ok (.iload 4, 2) := by decide +kernel
theorem dX8_best_80 : decode cX8_best 80 = .ok (.iconst 1, 1) := by decide +kernel
theorem dX8_best_81 : decode cX8_best 81 = .ok (.if_icmp .eq 9, 3) := by decide +kernel
theorem dX8_best_84 : decode cX8_best 84 = .ok (.iload 6, 2) := by decide +kernel
theorem dX8_best_86 : decode cX8_best 86 = .ok (.iload_n 3, 1) := by decide +kernel
theorem dX8_best_87 : decode cX8_best 87 = .ok (.if_icmp .ge 8, 3) := by decide +kernel
theorem dX8_best_90 : decode cX8_best 90 = .ok (.iload 6, 2) := by decide +kernel
theorem dX8_best_92 : decode cX8_best 92 = .ok (.goto 4, 3) := by decide +kernel
theorem dX8_best_95 : decode cX8_best 95 = .ok (.iload_n 3, 1) := by decide +kernel
theorem dX8_best_96 : decode cX8_best 96 = .ok (.istore_n 3, 1) := by decide +kernel
theorem dX8_best_97 : decode cX8_best 97 = .ok (.iinc 4 1, 3) := by decide +kernel
theorem dX8_best_100 : decode cX8_best 100 = .ok (.goto (-93), 3) := by decide +kernel
theorem dX8_best_103 : decode cX8_best 103 = .ok (.iload_n 2, 1) := by decide +kernel
theorem dX8_best_104 : decode cX8_best 104 = .ok (.ireturn, 1) := by decide +kernel
theorem dX8_end_0 : decode cX8_end 0 = .ok (.aload_n 0, 1) := by decide +kernel
theorem dX8_end_1 : decode cX8_end 1 = .ok (.iconst 0, 1) := by decide +kernel
theorem dX8_end_2 : decode cX8_end 2 = .ok (.putfield 58, 3) := by decide +kernel
theorem dX8_end_5 : decode cX8_end 5 = .ok (.iload_n 1, 1) := by decide +kernel
theorem dX8_end_6 : decode cX8_end 6 = .ok (.invokestatic 149, 3) := by decide +kernel
theorem dX8_end_9 : decode cX8_end 9 = .ok (.ifCond .eq 5, 3) := by decide +kernel
theorem dX8_end_12 : decode cX8_end 12 = .ok (.iconst (-1), 1) := by decide +kernel
theorem dX8_end_13 : decode cX8_end 13 = .ok (.ireturn, 1) := by decide +kernel
theorem dX8_end_14 : decode cX8_end 14 = .ok (.iload_n 2, 1) := by decide +kernel
theorem dX8_end_15 : decode cX8_end 15 = .ok (.i2l, 1) := by decide +kernel
theorem dX8_end_16 : decode cX8_end 16 = .ok (.lconst 0, 1) := by decide +kernel
theorem dX8_end_17 : decode cX8_end 17 = .ok (.ldc2_w 153, 3) := by decide +kernel
theorem dX8_end_20 : decode cX8_end 20 = .ok (.invokestatic 61, 3) := by decide +kernel
theorem dX8_end_23 : decode cX8_end 23 = .ok (.ifCond .eq 15, 3) := by decide +kernel
theorem dX8_end_26 : decode cX8_end 26 = .ok (.aload_n 0, 1) := by decide +kernel
theorem dX8_end_27 : decode cX8_end 27 = .ok (.getfield 19, 3) := by decide +kernel
theorem dX8_end_30 : decode cX8_end 30 = .ok (.iload_n 1, 1) := by decide +kernel
theorem dX8_end_31 : decode cX8_end 31 = .ok (.invokestatic 65, 3) := by decide +kernel
theorem dX8_end_34 : decode cX8_end 34 = .ok (.iload_n 2, 1) := by decide +kernel
theorem dX8_end_35 : decode cX8_end 35 = .ok (.iadd, 1) := by decide +kernel
theorem dX8_end_36 : decode cX8_end 36 = .ok (.iaload, 1) := by decide +kernel
theorem dX8_end_37 : decode cX8_end 37 = .ok (.ireturn, 1) := by decide +kernel
theorem dX8_end_38 : decode cX8_end 38 = .ok (.iload_n 2, 1) := by decide +kernel
theorem dX8_end_39 : decode cX8_end 39 = .ok (.iconst 5, 1) := by decide +kernel
theorem dX8_end_40 : decode cX8_end 40 = .ok (.if_icmp .ne 23, 3) := by decide +kernel
theorem dX8_end_43 : decode cX8_end 43 = .ok (.aload_n 0, 1) := by decide +kernel
theorem dX8_end_44 : decode cX8_end 44 = .ok (.aload_n 0, 1) := by decide +kernel
theorem dX8_end_45 : decode cX8_end 45 = .ok (.getfield 19, 3) := by decide +kernel
theorem dX8_end_48 : decode cX8_end 48 = .ok (.iload_n 1, 1) := by decide +kernel
theorem dX8_end_49 : decode cX8_end 49 = .ok (.invokevirtual 81, 3) := by decide +kernel
theorem dX8_end_52 : decode cX8_end 52 = .ok (.ifCond .eq 7, 3) := by decide +kernel
theorem dX8_end_55 : decode cX8_end 55 = .ok (.iconst 1, 1) := by decide +kernel
theorem dX8_end_56 : decode cX8_end 56 = .ok (.goto 23, 3) := by decide +kernel
theorem dX8_end_59 : decode cX8_end 59 = .ok (.iconst 0, 1) := by decide +kernel
theorem dX8_end_60 : decode cX8_end 60 = .ok (.goto 19, 3) := by decide +kernel
theorem dX8_end_63 : decode cX8_end 63 = .ok (.iload_n 2, 1) := by decide +kernel
theorem dX8_end_64 : decode cX8_end 64 = .ok (.bipush 6, 2) := by decide +kernel
theorem dX8_end_66 : decode cX8_end 66 = .ok (.if_icmp .ne 11, 3) := by decide +kernel
theorem dX8_end_69 : decode cX8_end 69 = .ok (.aload_n 0, 1) := by decide +kernel
theorem dX8_end_70 : decode cX8_end 70 = .ok (.iload_n 1, 1) := by decide +kernel
theorem dX8_end_71 : decode cX8_end 71 = .ok (.invokevirtual 155, 3) := by decide +kernel
theorem dX8_end_74 : decode cX8_end 74 = .ok (.goto 5, 3) := by decide +kernel
theorem dX8_end_77 : decode cX8_end 77 = .ok (.bipush (-2), 2) := by decide +kernel
theorem dX8_end_79 : decode cX8_end 79 = .ok (.ireturn, 1) := by decide +kernel
theorem dX8_held_0 : decode cX8_held 0 = .ok (.aload_n 0, 1) := by decide +kernel
theorem dX8_held_1 : decode cX8_held 1 = .ok (.iconst 0, 1) := by decide +kernel
theorem dX8_held_2 : decode cX8_held 2 = .ok (.putfield 58, 3) := by decide +kernel
theorem dX8_held_5 : decode cX8_held 5 = .ok (.iload_n 1, 1) := by decide +kernel
theorem dX8_held_6 : decode cX8_held 6 = .ok (.invokestatic 149, 3) := by decide +kernel
theorem dX8_held_9 : decode cX8_held 9 = .ok (.ifCond .eq 5, 3) := by decide +kernel
theorem dX8_held_12 : decode cX8_held 12 = .ok (.iconst (-1), 1) := by decide +kernel
theorem dX8_held_13 : decode cX8_held 13 = .ok (.ireturn, 1) := by decide +kernel
theorem dX8_held_14 : decode cX8_held 14 = .ok (.iload_n 2, 1) := by decide +kernel
theorem dX8_held_15 : decode cX8_held 15 = .ok (.i2l, 1) := by decide +kernel
theorem dX8_held_16 : decode cX8_held 16 = .ok (.lconst 0, 1) := by decide +kernel
theorem dX8_held_17 : decode cX8_held 17 = .ok (.aload_n 0, 1) := by decide +kernel
theorem dX8_held_18 : decode cX8_held 18 = .ok (.getfield 19, 3) := by decide +kernel
theorem dX8_held_21 : decode cX8_held 21 = .ok (.iload_n 1, 1) := by decide +kernel
theorem dX8_held_22 : decode cX8_held 22 = .ok (.invokestatic 65, 3) := by decide +kernel
theorem dX8_held_25 : decode cX8_held 25 = .ok (.iconst 4, 1) := by decide +kernel
theorem dX8_held_26 : decode cX8_held 26 = .ok (.iadd, 1) := by decide +kernel
theorem dX8_held_27 : decode cX8_held 27 = .ok (.iaload, 1) := by decide +kernel
theorem dX8_held_28 : decode cX8_held 28 = .ok (.iconst 1, 1) := by decide +kernel
theorem dX8_held_29 : decode cX8_held 29 = .ok (.isub, 1) := by decide +kernel
theorem dX8_held_30 : decode cX8_held 30 = .ok (.i2l, 1) := by decide +kernel
theorem dX8_held_31 : decode cX8_held 31 = .ok (.invokestatic 61, 3) := by decide +kernel
theorem dX8_held_34 : decode cX8_held 34 = .ok (.ifCond .eq 19, 3) := by decide +kernel
theorem dX8_held_37 : decode cX8_held 37 = .ok (.aload_n 0, 1) := by decide +kernel
theorem dX8_held_38 : decode cX8_held 38 = .ok (.getfield 19, 3) := by decide +kernel
theorem dX8_held_41 : decode cX8_held 41 = .ok (.iload_n 1, 1) := by decide +kernel
theorem dX8_held_42 : decode cX8_held 42 = .ok (.invokestatic 65, 3) := by decide +kernel
theorem dX8_held_45 : decode cX8_held 45 = .ok (.iconst 5, 1) := by decide +kernel
theorem dX8_held_46 : decode cX8_held 46 = .ok (.iadd, 1) := by decide +kernel
theorem dX8_held_47 : decode cX8_held 47 = .ok (.iload_n 2, 1) := by decide +kernel
theorem dX8_held_48 : decode cX8_held 48 = .ok (.iadd, 1) := by decide +kernel
theorem dX8_held_49 : decode cX8_held 49 = .ok (.iaload, 1) := by decide +kernel
theorem dX8_held_50 : decode cX8_held 50 = .ok (.goto 5, 3) := by decide +kernel
theorem dX8_held_53 : decode cX8_held 53 = .ok (.bipush (-9), 2) := by decide +kernel
theorem dX8_held_55 : decode cX8_held 55 = .ok (.ireturn, 1) := by decide +kernel
theorem dX8_note_0 : decode cX8_note 0 = .ok (.aload_n 0, 1) := by decide +kernel
theorem dX8_note_1 : decode cX8_note 1 = .ok (.getfield 136, 3) := by decide +kernel
theorem dX8_note_4 : decode cX8_note 4 = .ok (.bipush 14, 2) := by decide +kernel
theorem dX8_note_6 : decode cX8_note 6 = .ok (.if_icmp .ne 43, 3) := by decide +kernel
theorem dX8_note_9 : decode cX8_note 9 = .ok (.iconst 0, 1) := by decide +kernel
theorem dX8_note_10 : decode cX8_note 10 = .ok (.istore_n 1, 1) := by decide +kernel
theorem dX8_note_11 : decode cX8_note 11 = .ok (.iload_n 1, 1) := by decide +kernel
theorem dX8_note_12 : decode cX8_note 12 = .ok (.sipush 507, 3) := by decide +kernel
theorem dX8_note_15 : decode cX8_note 15 = .ok (.if_icmp .ge 24, 3) := by decide +kernel
theorem dX8_note_18 : decode cX8_note 18 = .ok (.aload_n 0, 1) := by decide +kernel
theorem dX8_note_19 : decode cX8_note 19 = .ok (.getfield 31, 3) := by decide +kernel
theorem dX8_note_22 : decode cX8_note 22 = .ok (.iload_n 1, 1) := by decide +kernel
theorem dX8_note_23 : decode cX8_note 23 = .ok (.aload_n 0, 1) := by decide +kernel
theorem dX8_note_24 : decode cX8_note 24 = .ok (.getfield 31, 3) := by decide +kernel
theorem dX8_note_27 : decode cX8_note 27 = .ok (.iload_n 1, 1) := by decide +kernel
theorem dX8_note_28 : decode cX8_note 28 = .ok (.bipush 39, 2) := by decide +kernel
theorem dX8_note_30 : decode cX8_note 30 = .ok (.iadd, 1) := by decide +kernel
theorem dX8_note_31 : decode cX8_note 31 = .ok (.iaload, 1) := by decide +kernel
theorem dX8_note_32 : decode cX8_note 32 = .ok (.iastore, 1) := by decide +kernel
theorem dX8_note_33 : decode cX8_note 33 = .ok (.iinc 1 1, 3) := by decide +kernel
theorem dX8_note_36 : decode cX8_note 36 = .ok (.goto (-25), 3) := by decide +kernel
theorem dX8_note_39 : decode cX8_note 39 = .ok (.aload_n 0, 1) := by decide +kernel
theorem dX8_note_40 : decode cX8_note 40 = .ok (.dup, 1) := by decide +kernel
theorem dX8_note_41 : decode cX8_note 41 = .ok (.getfield 136, 3) := by decide +kernel
theorem dX8_note_44 : decode cX8_note 44 = .ok (.iconst 1, 1) := by decide +kernel
theorem dX8_note_45 : decode cX8_note 45 = .ok (.isub, 1) := by decide +kernel
theorem dX8_note_46 : decode cX8_note 46 = .ok (.putfield 136, 3) := by decide +kernel
theorem dX8_note_49 : decode cX8_note 49 = .ok (.iconst 0, 1) := by decide +kernel
theorem dX8_note_50 : decode cX8_note 50 = .ok (.istore_n 1, 1) := by decide +kernel
theorem dX8_note_51 : decode cX8_note 51 = .ok (.iload_n 1, 1) := by decide +kernel
theorem dX8_note_52 : decode cX8_note 52 = .ok (.bipush 39, 2) := by decide +kernel
theorem dX8_note_54 : decode cX8_note 54 = .ok (.if_icmp .ge 29, 3) := by decide +kernel
theorem dX8_note_57 : decode cX8_note 57 = .ok (.aload_n 0, 1) := by decide +kernel
theorem dX8_note_58 : decode cX8_note 58 = .ok (.getfield 31, 3) := by decide +kernel
theorem dX8_note_61 : decode cX8_note 61 = .ok (.bipush 39, 2) := by decide +kernel
theorem dX8_note_63 : decode cX8_note 63 = .ok (.aload_n 0, 1) := by decide +kernel
theorem dX8_note_64 : decode cX8_note 64 = .ok (.getfield 136, 3) := by decide +kernel
theorem dX8_note_67 : decode cX8_note 67 = .ok (.imul, 1) := by decide +kernel
theorem dX8_note_68 : decode cX8_note 68 = .ok (.iload_n 1, 1) := by decide +kernel
theorem dX8_note_69 : decode cX8_note 69 = .ok (.iadd, 1) := by decide +kernel
theorem dX8_note_70 : decode cX8_note 70 = .ok (.aload_n 0, 1) := by decide +kernel
theorem dX8_note_71 : decode cX8_note 71 = .ok (.getfield 19, 3) := by decide +kernel
theorem dX8_note_74 : decode cX8_note 74 = .ok (.iload_n 1, 1) := by decide +kernel
theorem dX8_note_75 : decode cX8_note 75 = .ok (.iaload, 1) := by decide +kernel
theorem dX8_note_76 : decode cX8_note 76 = .ok (.iastore, 1) := by decide +kernel
theorem dX8_note_77 : decode cX8_note 77 = .ok (.iinc 1 1, 3) := by decide +kernel
theorem dX8_note_80 : decode cX8_note 80 = .ok (.goto (-29), 3) := by decide +kernel
theorem dX8_note_83 : decode cX8_note 83 = .ok (.aload_n 0, 1) := by decide +kernel
theorem dX8_note_84 : decode cX8_note 84 = .ok (.dup, 1) := by decide +kernel
theorem dX8_note_85 : decode cX8_note 85 = .ok (.getfield 136, 3) := by decide +kernel
theorem dX8_note_88 : decode cX8_note 88 = .ok (.iconst 1, 1) := by decide +kernel
theorem dX8_note_89 : decode cX8_note 89 = .ok (.iadd, 1) := by decide +kernel
theorem dX8_note_90 : decode cX8_note 90 = .ok (.putfield 136, 3) := by decide +kernel
theorem dX8_note_93 : decode cX8_note 93 = .ok (.return_, 1) := by decide +kernel
theorem dX8_come_0 : decode cX8_come 0 = .ok (.aload_n 0, 1) := by decide +kernel
theorem dX8_come_1 : decode cX8_come 1 = .ok (.iconst 0, 1) := by decide +kernel
theorem dX8_come_2 : decode cX8_come 2 = .ok (.putfield 58, 3) := by decide +kernel
theorem dX8_come_5 : decode cX8_come 5 = .ok (.iload_n 1, 1) := by decide +kernel
theorem dX8_come_6 : decode cX8_come 6 = .ok (.invokestatic 149, 3) := by decide +kernel
theorem dX8_come_9 : decode cX8_come 9 = .ok (.ifCond .eq 5, 3) := by decide +kernel
theorem dX8_come_12 : decode cX8_come 12 = .ok (.iconst (-1), 1) := by decide +kernel
theorem dX8_come_13 : decode cX8_come 13 = .ok (.ireturn, 1) := by decide +kernel
theorem dX8_come_14 : decode cX8_come 14 = .ok (.aload_n 0, 1) := by decide +kernel
theorem dX8_come_15 : decode cX8_come 15 = .ok (.getfield 19, 3) := by decide +kernel
theorem dX8_come_18 : decode cX8_come 18 = .ok (.iload_n 1, 1) := by decide +kernel
theorem dX8_come_19 : decode cX8_come 19 = .ok (.invokestatic 123, 3) := by decide +kernel
theorem dX8_come_22 : decode cX8_come 22 = .ok (.ifCond .eq 6, 3) := by decide +kernel
theorem dX8_come_25 : decode cX8_come 25 = .ok (.bipush (-4), 2) := by decide +kernel
theorem dX8_come_27 : decode cX8_come 27 = .ok (.ireturn, 1) := by decide +kernel
theorem dX8_come_28 : decode cX8_come 28 = .ok (.aload_n 0, 1) := by decide +kernel
theorem dX8_come_29 : decode cX8_come 29 = .ok (.invokevirtual 158, 3) := by decide +kernel
theorem dX8_come_32 : decode cX8_come 32 = .ok (.aload_n 0, 1) := by decide +kernel
theorem dX8_come_33 : decode cX8_come 33 = .ok (.getfield 19, 3) := by decide +kernel
theorem dX8_come_36 : decode cX8_come 36 = .ok (.iload_n 1, 1) := by decide +kernel
theorem dX8_come_37 : decode cX8_come 37 = .ok (.iconst 0, 1) := by decide +kernel
theorem dX8_come_38 : decode cX8_come 38 = .ok (.invokestatic 126, 3) := by decide +kernel
theorem dX8_come_41 : decode cX8_come 41 = .ok (.aload_n 0, 1) := by decide +kernel
theorem dX8_come_42 : decode cX8_come 42 = .ok (.getfield 19, 3) := by decide +kernel
theorem dX8_come_45 : decode cX8_come 45 = .ok (.iload_n 1, 1) := by decide +kernel
theorem dX8_come_46 : decode cX8_come 46 = .ok (.invokestatic 65, 3) := by decide +kernel
theorem dX8_come_49 : decode cX8_come 49 = .ok (.iconst 4, 1) := by decide +kernel
theorem dX8_come_50 : decode cX8_come 50 = .ok (.iadd, 1) := by decide +kernel
theorem dX8_come_51 : decode cX8_come 51 = .ok (.iaload, 1) := by decide +kernel
theorem dX8_come_52 : decode cX8_come 52 = .ok (.ireturn, 1) := by decide +kernel
theorem dX8_pass_0 : decode cX8_pass 0 = .ok (.aload_n 0, 1) := by decide +kernel
theorem dX8_pass_1 : decode cX8_pass 1 = .ok (.iconst 0, 1) := by decide +kernel
theorem dX8_pass_2 : decode cX8_pass 2 = .ok (.putfield 58, 3) := by decide +kernel
theorem dX8_pass_5 : decode cX8_pass 5 = .ok (.iload_n 1, 1) := by decide +kernel
theorem dX8_pass_6 : decode cX8_pass 6 = .ok (.i2l, 1) := by decide +kernel
theorem dX8_pass_7 : decode cX8_pass 7 = .ok (.lconst 1, 1) := by decide +kernel
theorem dX8_pass_8 : decode cX8_pass 8 = .ok (.ldc2_w 161, 3) := by decide +kernel
theorem dX8_pass_11 : decode cX8_pass 11 = .ok (.invokestatic 61, 3) := by decide +kernel
theorem dX8_pass_14 : decode cX8_pass 14 = .ok (.ifCond .ne 6, 3) := by decide +kernel
theorem dX8_pass_17 : decode cX8_pass 17 = .ok (.bipush (-2), 2) := by decide +kernel
theorem dX8_pass_19 : decode cX8_pass 19 = .ok (.ireturn, 1) := by decide +kernel
theorem dX8_pass_20 : decode cX8_pass 20 = .ok (.aload_n 0, 1) := by decide +kernel
theorem dX8_pass_21 : decode cX8_pass 21 = .ok (.invokevirtual 158, 3) := by decide +kernel
theorem dX8_pass_24 : decode cX8_pass 24 = .ok (.iconst 0, 1) := by decide +kernel
theorem dX8_pass_25 : decode cX8_pass 25 = .ok (.istore_n 2, 1) := by decide +kernel
theorem dX8_pass_26 : decode cX8_pass 26 = .ok (.iload_n 2, 1) := by decide +kernel
theorem dX8_pass_27 : decode cX8_pass 27 = .ok (.iload_n 1, 1) := by decide +kernel
theorem dX8_pass_28 : decode cX8_pass 28 = .ok (.if_icmp .ge 17, 3) := by decide +kernel
theorem dX8_pass_31 : decode cX8_pass 31 = .ok (.aload_n 0, 1) := by decide +kernel
theorem dX8_pass_32 : decode cX8_pass 32 = .ok (.aload_n 0, 1) := by decide +kernel
theorem dX8_pass_33 : decode cX8_pass 33 = .ok (.getfield 19, 3) := by decide +kernel
theorem dX8_pass_36 : decode cX8_pass 36 = .ok (.invokevirtual 96, 3) := by decide +kernel
theorem dX8_pass_39 : decode cX8_pass 39 = .ok (.iinc 2 1, 3) := by decide +kernel
theorem dX8_pass_42 : decode cX8_pass 42 = .ok (.goto (-16), 3) := by decide +kernel
theorem dX8_pass_45 : decode cX8_pass 45 = .ok (.aload_n 0, 1) := by decide +kernel
theorem dX8_pass_46 : decode cX8_pass 46 = .ok (.getfield 19, 3) := by decide +kernel
theorem dX8_pass_49 : decode cX8_pass 49 = .ok (.iconst 3, 1) := by decide +kernel
theorem dX8_pass_50 : decode cX8_pass 50 = .ok (.iaload, 1) := by decide +kernel
theorem dX8_pass_51 : decode cX8_pass 51 = .ok (.ireturn, 1) := by decide +kernel
theorem dX8_tell_0 : decode cX8_tell 0 = .ok (.aload_n 0, 1) := by decide +kernel
theorem dX8_tell_1 : decode cX8_tell 1 = .ok (.iconst 0, 1) := by decide +kernel
theorem dX8_tell_2 : decode cX8_tell 2 = .ok (.putfield 58, 3) := by decide +kernel
theorem dX8_tell_5 : decode cX8_tell 5 = .ok (.iload_n 1, 1) := by decide +kernel
theorem dX8_tell_6 : decode cX8_tell 6 = .ok (.invokestatic 149, 3) := by decide +kernel
theorem dX8_tell_9 : decode cX8_tell 9 = .ok (.ifCond .eq 5, 3) := by decide +kernel
theorem dX8_tell_12 : decode cX8_tell 12 = .ok (.iconst (-1), 1) := by decide +kernel
theorem dX8_tell_13 : decode cX8_tell 13 = .ok (.ireturn, 1) := by decide +kernel
theorem dX8_tell_14 : decode cX8_tell 14 = .ok (.iload_n 2, 1) := by decide +kernel
theorem dX8_tell_15 : decode cX8_tell 15 = .ok (.i2l, 1) := by decide +kernel
theorem dX8_tell_16 : decode cX8_tell 16 = .ok (.lconst 0, 1) := by decide +kernel
theorem dX8_tell_17 : decode cX8_tell 17 = .ok (.ldc2_w 163, 3) := by decide +kernel
theorem dX8_tell_20 : decode cX8_tell 20 = .ok (.invokestatic 61, 3) := by decide +kernel
theorem dX8_tell_23 : decode cX8_tell 23 = .ok (.ifCond .eq 15, 3) := by decide +kernel
theorem dX8_tell_26 : decode cX8_tell 26 = .ok (.iload_n 3, 1) := by decide +kernel
theorem dX8_tell_27 : decode cX8_tell 27 = .ok (.i2l, 1) := by decide +kernel
theorem dX8_tell_28 : decode cX8_tell 28 = .ok (.lconst 1, 1) := by decide +kernel
theorem dX8_tell_29 : decode cX8_tell 29 = .ok (.ldc2_w 107, 3) := by decide +kernel
theorem dX8_tell_32 : decode cX8_tell 32 = .ok (.invokestatic 61, 3) := by decide +kernel
theorem dX8_tell_35 : decode cX8_tell 35 = .ok (.ifCond .ne 6, 3) := by decide +kernel
theorem dX8_tell_38 : decode cX8_tell 38 = .ok (.bipush (-2), 2) := by decide +kernel
theorem dX8_tell_40 : decode cX8_tell 40 = .ok (.ireturn, 1) := by decide +kernel
theorem dX8_tell_41 : decode cX8_tell 41 = .ok (.iload_n 2, 1) := by decide +kernel
theorem dX8_tell_42 : decode cX8_tell 42 = .ok (.ifCond .ne 17, 3) := by decide +kernel
theorem dX8_tell_45 : decode cX8_tell 45 = .ok (.aload_n 0, 1) := by decide +kernel
theorem dX8_tell_46 : decode cX8_tell 46 = .ok (.getfield 19, 3) := by decide +kernel
theorem dX8_tell_49 : decode cX8_tell 49 = .ok (.iload_n 1, 1) := by decide +kernel
theorem dX8_tell_50 : decode cX8_tell 50 = .ok (.invokestatic 123, 3) := by decide +kernel
theorem dX8_tell_53 : decode cX8_tell 53 = .ok (.ifCond .eq 6, 3) := by decide +kernel
theorem dX8_tell_56 : decode cX8_tell 56 = .ok (.bipush (-4), 2) := by decide +kernel
theorem dX8_tell_58 : decode cX8_tell 58 = .ok (.ireturn, 1) := by decide +kernel
theorem dX8_tell_59 : decode cX8_tell 59 = .ok (.aload_n 0, 1) := by decide +kernel
theorem dX8_tell_60 : decode cX8_tell 60 = .ok (.invokevirtual 158, 3) := by decide +kernel
theorem dX8_tell_63 : decode cX8_tell 63 = .ok (.aload_n 0, 1) := by decide +kernel
theorem dX8_tell_64 : decode cX8_tell 64 = .ok (.getfield 19, 3) := by decide +kernel
theorem dX8_tell_67 : decode cX8_tell 67 = .ok (.iload_n 1, 1) := by decide +kernel
theorem dX8_tell_68 : decode cX8_tell 68 = .ok (.invokestatic 65, 3) := by decide +kernel
theorem dX8_tell_71 : decode cX8_tell 71 = .ok (.iload_n 2, 1) := by decide +kernel
theorem dX8_tell_72 : decode cX8_tell 72 = .ok (.iadd, 1) := by decide +kernel
theorem dX8_tell_73 : decode cX8_tell 73 = .ok (.iaload, 1) := by decide +kernel
theorem dX8_tell_74 : decode cX8_tell 74 = .ok (.istore 4, 2) := by decide +kernel
theorem dX8_tell_76 : decode cX8_tell 76 = .ok (.aload_n 0, 1) := by decide +kernel
theorem dX8_tell_77 : decode cX8_tell 77 = .ok (.getfield 19, 3) := by decide +kernel
theorem dX8_tell_80 : decode cX8_tell 80 = .ok (.iload_n 1, 1) := by decide +kernel
theorem dX8_tell_81 : decode cX8_tell 81 = .ok (.invokestatic 65, 3) := by decide +kernel
theorem dX8_tell_84 : decode cX8_tell 84 = .ok (.iload_n 2, 1) := by decide +kernel
theorem dX8_tell_85 : decode cX8_tell 85 = .ok (.iadd, 1) := by decide +kernel
theorem dX8_tell_86 : decode cX8_tell 86 = .ok (.iload_n 3, 1) := by decide +kernel
theorem dX8_tell_87 : decode cX8_tell 87 = .ok (.iastore, 1) := by decide +kernel
theorem dX8_tell_88 : decode cX8_tell 88 = .ok (.iload_n 2, 1) := by decide +kernel
theorem dX8_tell_89 : decode cX8_tell 89 = .ok (.ifCond .ne 12, 3) := by decide +kernel
theorem dX8_tell_92 : decode cX8_tell 92 = .ok (.aload_n 0, 1) := by decide +kernel
theorem dX8_tell_93 : decode cX8_tell 93 = .ok (.getfield 19, 3) := by decide +kernel
theorem dX8_tell_96 : decode cX8_tell 96 = .ok (.iload_n 1, 1) := by decide +kernel
theorem dX8_tell_97 : decode cX8_tell 97 = .ok (.iload_n 3, 1) := by decide +kernel
theorem dX8_tell_98 : decode cX8_tell 98 = .ok (.invokestatic 126, 3) := by decide +kernel
theorem dX8_tell_101 : decode cX8_tell 101 = .ok (.iload 4, 2) := by decide +kernel
theorem dX8_tell_103 : decode cX8_tell 103 = .ok (.ireturn, 1) := by decide +kernel
theorem dX8_undo_0 : decode cX8_undo 0 = .ok (.aload_n 0, 1) := by decide +kernel
theorem dX8_undo_1 : decode cX8_undo 1 = .ok (.iconst 0, 1) := by decide +kernel
theorem dX8_undo_2 : decode cX8_undo 2 = .ok (.putfield 58, 3) := by decide +kernel
theorem dX8_undo_5 : decode cX8_undo 5 = .ok (.aload_n 0, 1) := by decide +kernel
theorem dX8_undo_6 : decode cX8_undo 6 = .ok (.getfield 136, 3) := by decide +kernel
theorem dX8_undo_9 : decode cX8_undo 9 = .ok (.ifCond .ne 6, 3) := by decide +kernel
theorem dX8_undo_12 : decode cX8_undo 12 = .ok (.bipush (-3), 2) := by decide +kernel
theorem dX8_undo_14 : decode cX8_undo 14 = .ok (.ireturn, 1) := by decide +kernel
theorem dX8_undo_15 : decode cX8_undo 15 = .ok (.aload_n 0, 1) := by decide +kernel
theorem dX8_undo_16 : decode cX8_undo 16 = .ok (.dup, 1) := by decide +kernel
theorem dX8_undo_17 : decode cX8_undo 17 = .ok (.getfield 136, 3) := by decide +kernel
theorem dX8_undo_20 : decode cX8_undo 20 = .ok (.iconst 1, 1) := by decide +kernel
theorem dX8_undo_21 : decode cX8_undo 21 = .ok (.isub, 1) := by decide +kernel
theorem dX8_undo_22 : decode cX8_undo 22 = .ok (.putfield 136, 3) := by decide +kernel
theorem dX8_undo_25 : decode cX8_undo 25 = .ok (.iconst 0, 1) := by decide +kernel
theorem dX8_undo_26 : decode cX8_undo 26 = .ok (.istore_n 1, 1) := by decide +kernel
theorem dX8_undo_27 : decode cX8_undo 27 = .ok (.iload_n 1, 1) := by decide +kernel
theorem dX8_undo_28 : decode cX8_undo 28 = .ok (.bipush 39, 2) := by decide +kernel
theorem dX8_undo_30 : decode cX8_undo 30 = .ok (.if_icmp .ge 29, 3) := by decide +kernel
theorem dX8_undo_33 : decode cX8_undo 33 = .ok (.aload_n 0, 1) := by decide +kernel
theorem dX8_undo_34 : decode cX8_undo 34 = .ok (.getfield 19, 3) := by decide +kernel
theorem dX8_undo_37 : decode cX8_undo 37 = .ok (.iload_n 1, 1) := by decide +kernel
theorem dX8_undo_38 : decode cX8_undo 38 = .ok (.aload_n 0, 1) := by decide +kernel
theorem dX8_undo_39 : decode cX8_undo 39 = .ok (.getfield 31, 3) := by decide +kernel
theorem dX8_undo_42 : decode cX8_undo 42 = .ok (.bipush 39, 2) := by decide +kernel
theorem dX8_undo_44 : decode cX8_undo 44 = .ok (.aload_n 0, 1) := by decide +kernel
theorem dX8_undo_45 : decode cX8_undo 45 = .ok (.getfield 136, 3) := by decide +kernel
theorem dX8_undo_48 : decode cX8_undo 48 = .ok (.imul, 1) := by decide +kernel
theorem dX8_undo_49 : decode cX8_undo 49 = .ok (.iload_n 1, 1) := by decide +kernel
theorem dX8_undo_50 : decode cX8_undo 50 = .ok (.iadd, 1) := by decide +kernel
theorem dX8_undo_51 : decode cX8_undo 51 = .ok (.iaload, 1) := by decide +kernel
theorem dX8_undo_52 : decode cX8_undo 52 = .ok (.iastore, 1) := by decide +kernel
theorem dX8_undo_53 : decode cX8_undo 53 = .ok (.iinc 1 1, 3) := by decide +kernel
theorem dX8_undo_56 : decode cX8_undo 56 = .ok (.goto (-29), 3) := by decide +kernel
theorem dX8_undo_59 : decode cX8_undo 59 = .ok (.aload_n 0, 1) := by decide +kernel
theorem dX8_undo_60 : decode cX8_undo 60 = .ok (.getfield 136, 3) := by decide +kernel
theorem dX8_undo_63 : decode cX8_undo 63 = .ok (.ireturn, 1) := by decide +kernel
theorem dX8_ahead_0 : decode cX8_ahead 0 = .ok (.aload_n 0, 1) := by decide +kernel
theorem dX8_ahead_1 : decode cX8_ahead 1 = .ok (.iconst 0, 1) := by decide +kernel
theorem dX8_ahead_2 : decode cX8_ahead 2 = .ok (.putfield 58, 3) := by decide +kernel
theorem dX8_ahead_5 : decode cX8_ahead 5 = .ok (.iload_n 1, 1) := by decide +kernel
theorem dX8_ahead_6 : decode cX8_ahead 6 = .ok (.i2l, 1) := by decide +kernel
theorem dX8_ahead_7 : decode cX8_ahead 7 = .ok (.lconst 0, 1) := by decide +kernel
theorem dX8_ahead_8 : decode cX8_ahead 8 = .ok (.ldc2_w 165, 3) := by decide +kernel
theorem dX8_ahead_11 : decode cX8_ahead 11 = .ok (.invokestatic 61, 3) := by decide +kernel
theorem dX8_ahead_14 : decode cX8_ahead 14 = .ok (.ifCond .eq 15, 3) := by decide +kernel
theorem dX8_ahead_17 : decode cX8_ahead 17 = .ok (.iload_n 2, 1) := by decide +kernel
theorem dX8_ahead_18 : decode cX8_ahead 18 = .ok (.i2l, 1) := by decide +kernel
theorem dX8_ahead_19 : decode cX8_ahead 19 = .ok (.lconst 0, 1) := by decide +kernel
theorem dX8_ahead_20 : decode cX8_ahead 20 = .ok (.ldc2_w 107, 3) := by decide +kernel
theorem dX8_ahead_23 : decode cX8_ahead 23 = .ok (.invokestatic 61, 3) := by decide +kernel
theorem dX8_ahead_26 : decode cX8_ahead 26 = .ok (.ifCond .ne 6, 3) := by decide +kernel
theorem dX8_ahead_29 : decode cX8_ahead 29 = .ok (.bipush (-2), 2) := by decide +kernel
theorem dX8_ahead_31 : decode cX8_ahead 31 = .ok (.ireturn, 1) := by decide +kernel
theorem dX8_ahead_32 : decode cX8_ahead 32 = .ok (.aload_n 0, 1) := by decide +kernel
theorem dX8_ahead_33 : decode cX8_ahead 33 = .ok (.getfield 19, 3) := by decide +kernel
theorem dX8_ahead_36 : decode cX8_ahead 36 = .ok (.aload_n 0, 1) := by decide +kernel
theorem dX8_ahead_37 : decode cX8_ahead 37 = .ok (.getfield 28, 3) := by decide +kernel
theorem dX8_ahead_40 : decode cX8_ahead 40 = .ok (.invokestatic 89, 3) := by decide +kernel
theorem dX8_ahead_43 : decode cX8_ahead 43 = .ok (.iconst 0, 1) := by decide +kernel
theorem dX8_ahead_44 : decode cX8_ahead 44 = .ok (.istore_n 3, 1) := by decide +kernel
theorem dX8_ahead_45 : decode cX8_ahead 45 = .ok (.iload_n 3, 1) := by decide +kernel
theorem dX8_ahead_46 : decode cX8_ahead 46 = .ok (.iload_n 1, 1) := by decide +kernel
theorem dX8_ahead_47 : decode cX8_ahead 47 = .ok (.if_icmp .ge 17, 3) := by decide +kernel
theorem dX8_ahead_50 : decode cX8_ahead 50 = .ok (.aload_n 0, 1) := by decide +kernel
theorem dX8_ahead_51 : decode cX8_ahead 51 = .ok (.aload_n 0, 1) := by decide +kernel
theorem dX8_ahead_52 : decode cX8_ahead 52 = .ok (.getfield 28, 3) := by decide +kernel
theorem dX8_ahead_55 : decode cX8_ahead 55 = .ok (.invokevirtual 96, 3) := by decide +kernel
theorem dX8_ahead_58 : decode cX8_ahead 58 = .ok (.iinc 3 1, 3) := by decide +kernel
theorem dX8_ahead_61 : decode cX8_ahead 61 = .ok (.goto (-16), 3) := by decide +kernel
theorem dX8_ahead_64 : decode cX8_ahead 64 = .ok (.aload_n 0, 1) := by decide +kernel
theorem dX8_ahead_65 : decode cX8_ahead 65 = .ok (.getfield 28, 3) := by decide +kernel
theorem dX8_ahead_68 : decode cX8_ahead 68 = .ok (.iload_n 2, 1) := by decide +kernel
theorem dX8_ahead_69 : decode cX8_ahead 69 = .ok (.invokestatic 139, 3) := by decide +kernel
theorem dX8_ahead_72 : decode cX8_ahead 72 = .ok (.ireturn, 1) := by decide +kernel
theorem dX8_goOver_0 : decode cX8_goOver 0 = .ok (.aload_n 0, 1) := by decide +kernel
theorem dX8_goOver_1 : decode cX8_goOver 1 = .ok (.iload_n 1, 1) := by decide +kernel
theorem dX8_goOver_2 : decode cX8_goOver 2 = .ok (.putfield 50, 3) := by decide +kernel
theorem dX8_goOver_5 : decode cX8_goOver 5 = .ok (.aload_n 0, 1) := by decide +kernel
theorem dX8_goOver_6 : decode cX8_goOver 6 = .ok (.getfield 22, 3) := by decide +kernel
theorem dX8_goOver_9 : decode cX8_goOver 9 = .ok (.aload_n 0, 1) := by decide +kernel
theorem dX8_goOver_10 : decode cX8_goOver 10 = .ok (.getfield 28, 3) := by decide +kernel
theorem dX8_goOver_13 : decode cX8_goOver 13 = .ok (.invokestatic 89, 3) := by decide +kernel
theorem dX8_goOver_16 : decode cX8_goOver 16 = .ok (.iconst 0, 1) := by decide +kernel
theorem dX8_goOver_17 : decode cX8_goOver 17 = .ok (.istore_n 3, 1) := by decide +kernel
theorem dX8_goOver_18 : decode cX8_goOver 18 = .ok (.iconst 0, 1) := by decide +kernel
theorem dX8_goOver_19 : decode cX8_goOver 19 = .ok (.istore 4, 2) := by decide +kernel
theorem dX8_goOver_21 : decode cX8_goOver 21 = .ok (.iload 4, 2) := by decide +kernel
theorem dX8_goOver_23 : decode cX8_goOver 23 = .ok (.aload_n 0, 1) := by decide +kernel
theorem dX8_goOver_24 : decode cX8_goOver 24 = .ok (.getfield 130, 3) := by decide +kernel
theorem dX8_goOver_27 : decode cX8_goOver 27 = .ok (.if_icmp .ge 82, 3) := by decide +kernel
theorem dX8_goOver_30 : decode cX8_goOver 30 = .ok (.aload_n 0, 1) := by decide +kernel
theorem dX8_goOver_31 : decode cX8_goOver 31 = .ok (.getfield 25, 3) := by decide +kernel
theorem dX8_goOver_34 : decode cX8_goOver 34 = .ok (.iload 4, 2) := by decide +kernel
theorem dX8_goOver_36 : decode cX8_goOver 36 = .ok (.iaload, 1) := by decide +kernel
theorem dX8_goOver_37 : decode cX8_goOver 37 = .ok (.bipush 9, 2) := by decide +kernel
theorem dX8_goOver_39 : decode cX8_goOver 39 = .ok (.if_icmp .le 21, 3) := by decide +kernel
theorem dX8_goOver_42 : decode cX8_goOver 42 = .ok (.iload_n 3, 1) := by decide +kernel
theorem dX8_goOver_43 : decode cX8_goOver 43 = .ok (.bipush 6, 2) := by decide +kernel
theorem dX8_goOver_45 : decode cX8_goOver 45 = .ok (.if_icmp .ge 15, 3) := by decide +kernel
theorem dX8_goOver_48 : decode cX8_goOver 48 = .ok (.iload_n 2, 1) := by decide +kernel
theorem dX8_goOver_49 : decode cX8_goOver 49 = .ok (.iload_n 3, 1) := by decide +kernel
theorem dX8_goOver_50 : decode cX8_goOver 50 = .ok (.invokestatic 69, 3) := by decide +kernel
theorem dX8_goOver_53 : decode cX8_goOver 53 = .ok (.ifCond .eq 7, 3) := by decide +kernel
theorem dX8_goOver_56 : decode cX8_goOver 56 = .ok (.iconst 1, 1) := by decide +kernel
theorem dX8_goOver_57 : decode cX8_goOver 57 = .ok (.goto 4, 3) := by decide +kernel
theorem dX8_goOver_60 : decode cX8_goOver 60 = .ok (.iconst 0, 1) := by decide +kernel
theorem dX8_goOver_61 : decode cX8_goOver 61 = .ok (.istore 5, 2) := by decide +kernel
theorem dX8_goOver_63 : decode cX8_goOver 63 = .ok (.iload_n 3, 1) := by decide +kernel
theorem dX8_goOver_64 : decode cX8_goOver 64 = .ok (.aload_n 0, 1) := by decide +kernel
theorem dX8_goOver_65 : decode cX8_goOver 65 = .ok (.getfield 25, 3) := by decide +kernel
theorem dX8_goOver_68 : decode cX8_goOver 68 = .ok (.iload 4, 2) := by decide +kernel
theorem dX8_goOver_70 : decode cX8_goOver 70 = .ok (.iaload, 1) := by decide +kernel
theorem dX8_goOver_71 : decode cX8_goOver 71 = .ok (.bipush 9, 2) := by decide +kernel
theorem dX8_goOver_73 : decode cX8_goOver 73 = .ok (.if_icmp .le 7, 3) := by decide +kernel
theorem dX8_goOver_76 : decode cX8_goOver 76 = .ok (.iconst 1, 1) := by decide +kernel
theorem dX8_goOver_77 : decode cX8_goOver 77 = .ok (.goto 4, 3) := by decide +kernel
theorem dX8_goOver_80 : decode cX8_goOver 80 = .ok (.iconst 0, 1) := by decide +kernel
theorem dX8_goOver_81 : decode cX8_goOver 81 = .ok (.iadd, 1) := by decide +kernel
theorem dX8_goOver_82 : decode cX8_goOver 82 = .ok (.istore_n 3, 1) := by decide +kernel
theorem dX8_goOver_83 : decode cX8_goOver 83 = .ok (.iload 5, 2) := by decide +kernel
theorem dX8_goOver_85 : decode cX8_goOver 85 = .ok (.ifCond .ne 18, 3) := by decide +kernel
theorem dX8_goOver_88 : decode cX8_goOver 88 = .ok (.aload_n 0, 1) := by decide +kernel
theorem dX8_goOver_89 : decode cX8_goOver 89 = .ok (.aload_n 0, 1) := by decide +kernel
theorem dX8_goOver_90 : decode cX8_goOver 90 = .ok (.getfield 28, 3) := by decide +kernel
theorem dX8_goOver_93 : decode cX8_goOver 93 = .ok (.aload_n 0, 1) := by decide +kernel
theorem dX8_goOver_94 : decode cX8_goOver 94 = .ok (.getfield 25, 3) := by decide +kernel
theorem dX8_goOver_97 : decode cX8_goOver 97 = .ok (.iload 4, 2) := by decide +kernel
theorem dX8_goOver_99 : decode cX8_goOver 99 = .ok (.iaload, 1) := by decide +kernel
theorem dX8_goOver_100 : decode cX8_goOver 100 = .ok (.invokevirtual 133, 3) := by decide +kernel
theorem dX8_goOver_103 : decode cX8_goOver 103 = .ok (.iinc 4 1, 3) := by decide +kernel
theorem dX8_goOver_106 : decode cX8_goOver 106 = .ok (.goto (-85), 3) := by decide +kernel
theorem dX8_goOver_109 : decode cX8_goOver 109 = .ok (.iload_n 1, 1) := by decide +kernel
theorem dX8_goOver_110 : decode cX8_goOver 110 = .ok (.iconst 2, 1) := by decide +kernel
theorem dX8_goOver_111 : decode cX8_goOver 111 = .ok (.invokestatic 69, 3) := by decide +kernel
theorem dX8_goOver_114 : decode cX8_goOver 114 = .ok (.ifCond .eq 13, 3) := by decide +kernel
theorem dX8_goOver_117 : decode cX8_goOver 117 = .ok (.aload_n 0, 1) := by decide +kernel
theorem dX8_goOver_118 : decode cX8_goOver 118 = .ok (.getfield 28, 3) := by decide +kernel
theorem dX8_goOver_121 : decode cX8_goOver 121 = .ok (.invokestatic 93, 3) := by decide +kernel
theorem dX8_goOver_124 : decode cX8_goOver 124 = .ok (.goto 10, 3) := by decide +kernel
theorem dX8_goOver_127 : decode cX8_goOver 127 = .ok (.aload_n 0, 1) := by decide +kernel
theorem dX8_goOver_128 : decode cX8_goOver 128 = .ok (.getfield 28, 3) := by decide +kernel
theorem dX8_goOver_131 : decode cX8_goOver 131 = .ok (.invokestatic 77, 3) := by decide +kernel
theorem dX8_goOver_134 : decode cX8_goOver 134 = .ok (.istore 4, 2) := by decide +kernel
theorem dX8_goOver_136 : decode cX8_goOver 136 = .ok (.iconst 0, 1) := by decide +kernel
theorem dX8_goOver_137 : decode cX8_goOver 137 = .ok (.istore 5, 2) := by decide +kernel
theorem dX8_goOver_139 : decode cX8_goOver 139 = .ok (.iload 5, 2) := by decide +kernel
theorem dX8_goOver_141 : decode cX8_goOver 141 = .ok (.bipush 99, 2) := by decide +kernel
theorem dX8_goOver_143 : decode cX8_goOver 143 = .ok (.if_icmp .ge 49, 3) := by decide +kernel
theorem dX8_goOver_146 : decode cX8_goOver 146 = .ok (.iload 4, 2) := by decide +kernel
theorem dX8_goOver_148 : decode cX8_goOver 148 = .ok (.ifCond .ne 44, 3) := by decide +kernel
theorem dX8_goOver_151 : decode cX8_goOver 151 = .ok (.aload_n 0, 1) := by decide +kernel
theorem dX8_goOver_152 : decode cX8_goOver 152 = .ok (.aload_n 0, 1) := by decide +kernel
theorem dX8_goOver_153 : decode cX8_goOver 153 = .ok (.getfield 28, 3) := by decide +kernel
theorem dX8_goOver_156 : decode cX8_goOver 156 = .ok (.invokevirtual 96, 3) := by decide +kernel
theorem dX8_goOver_159 : decode cX8_goOver 159 = .ok (.iload_n 1, 1) := by decide +kernel
theorem dX8_goOver_160 : decode cX8_goOver 160 = .ok (.iconst 2, 1) := by decide +kernel
theorem dX8_goOver_161 : decode cX8_goOver 161 = .ok (.invokestatic 69, 3) := by decide +kernel
theorem dX8_goOver_164 : decode cX8_goOver 164 = .ok (.ifCond .eq 13, 3) := by decide +kernel
theorem dX8_goOver_167 : decode cX8_goOver 167 = .ok (.aload_n 0, 1) := by decide +kernel
theorem dX8_goOver_168 : decode cX8_goOver 168 = .ok (.getfield 28, 3) := by decide +kernel
theorem dX8_goOver_171 : decode cX8_goOver 171 = .ok (.invokestatic 93, 3) := by decide +kernel
theorem dX8_goOver_174 : decode cX8_goOver 174 = .ok (.goto 10, 3) := by decide +kernel
theorem dX8_goOver_177 : decode cX8_goOver 177 = .ok (.aload_n 0, 1) := by decide +kernel
theorem dX8_goOver_178 : decode cX8_goOver 178 = .ok (.getfield 28, 3) := by decide +kernel
theorem dX8_goOver_181 : decode cX8_goOver 181 = .ok (.invokestatic 77, 3) := by decide +kernel
theorem dX8_goOver_184 : decode cX8_goOver 184 = .ok (.istore 4, 2) := by decide +kernel
theorem dX8_goOver_186 : decode cX8_goOver 186 = .ok (.iinc 5 1, 3) := by decide +kernel
theorem dX8_goOver_189 : decode cX8_goOver 189 = .ok (.goto (-50), 3) := by decide +kernel
theorem dX8_goOver_192 : decode cX8_goOver 192 = .ok (.aload_n 0, 1) := by decide +kernel
theorem dX8_goOver_193 : decode cX8_goOver 193 = .ok (.bipush 7, 2) := by decide +kernel
theorem dX8_goOver_195 : decode cX8_goOver 195 = .ok (.putfield 50, 3) := by decide +kernel
theorem dX8_goOver_198 : decode cX8_goOver 198 = .ok (.return_, 1) := by decide +kernel
theorem dX8_pricePlay_0 : decode cX8_pricePlay 0 = .ok (.aload_n 0, 1) := by decide +kernel
theorem dX8_pricePlay_1 : decode cX8_pricePlay 1 = .ok (.bipush 7, 2) := by decide +kernel
theorem dX8_pricePlay_3 : decode cX8_pricePlay 3 = .ok (.iconst 0, 1) := by decide +kernel
theorem dX8_pricePlay_4 : decode cX8_pricePlay 4 = .ok (.invokevirtual 167, 3) := by decide +kernel
theorem dX8_pricePlay_7 : decode cX8_pricePlay 7 = .ok (.aload_n 0, 1) := by decide +kernel
theorem dX8_pricePlay_8 : decode cX8_pricePlay 8 = .ok (.getfield 28, 3) := by decide +kernel
theorem dX8_pricePlay_11 : decode cX8_pricePlay 11 = .ok (.iconst 4, 1) := by decide +kernel
theorem dX8_pricePlay_12 : decode cX8_pricePlay 12 = .ok (.iaload, 1) := by decide +kernel
theorem dX8_pricePlay_13 : decode cX8_pricePlay 13 = .ok (.aload_n 0, 1) := by decide +kernel
theorem dX8_pricePlay_14 : decode cX8_pricePlay 14 = .ok (.getfield 28, 3) := by decide +kernel
theorem dX8_pricePlay_17 : decode cX8_pricePlay 17 = .ok (.bipush 6, 2) := by decide +kernel
theorem dX8_pricePlay_19 : decode cX8_pricePlay 19 = .ok (.iaload, 1) := by decide +kernel
theorem dX8_pricePlay_20 : decode cX8_pricePlay 20 = .ok (.iadd, 1) := by decide +kernel
theorem dX8_pricePlay_21 : decode cX8_pricePlay 21 = .ok (.bipush 20, 2) := by decide +kernel
theorem dX8_pricePlay_23 : decode cX8_pricePlay 23 = .ok (.aload_n 0, 1) := by decide +kernel
theorem dX8_pricePlay_24 : decode cX8_pricePlay 24 = .ok (.getfield 28, 3) := by decide +kernel
theorem dX8_pricePlay_27 : decode cX8_pricePlay 27 = .ok (.bipush 8, 2) := by decide +kernel
theorem dX8_pricePlay_29 : decode cX8_pricePlay 29 = .ok (.iaload, 1) := by decide +kernel
theorem dX8_pricePlay_30 : decode cX8_pricePlay 30 = .ok (.imul, 1) := by decide +kernel
theorem dX8_pricePlay_31 : decode cX8_pricePlay 31 = .ok (.iadd, 1) := by decide +kernel
theorem dX8_pricePlay_32 : decode cX8_pricePlay 32 = .ok (.ireturn, 1) := by decide +kernel
theorem dX8_letters_0 : decode cX8_letters 0 = .ok (.iconst 0, 1) := by decide +kernel
theorem dX8_letters_1 : decode cX8_letters 1 = .ok (.istore_n 1, 1) := by decide +kernel
theorem dX8_letters_2 : decode cX8_letters 2 = .ok (.iconst 0, 1) := by decide +kernel
theorem dX8_letters_3 : decode cX8_letters 3 = .ok (.istore_n 2, 1) := by decide +kernel
theorem dX8_letters_4 : decode cX8_letters 4 = .ok (.iload_n 2, 1) := by decide +kernel
theorem dX8_letters_5 : decode cX8_letters 5 = .ok (.aload_n 0, 1) := by decide +kernel
theorem dX8_letters_6 : decode cX8_letters 6 = .ok (.getfield 130, 3) := by decide +kernel
theorem dX8_letters_9 : decode cX8_letters 9 = .ok (.if_icmp .ge 28, 3) := by decide +kernel
theorem dX8_letters_12 : decode cX8_letters 12 = .ok (.iload_n 1, 1) := by decide +kernel
theorem dX8_letters_13 : decode cX8_letters 13 = .ok (.aload_n 0, 1) := by decide +kernel
theorem dX8_letters_14 : decode cX8_letters 14 = .ok (.getfield 25, 3) := by decide +kernel
theorem dX8_letters_17 : decode cX8_letters 17 = .ok (.iload_n 2, 1) := by decide +kernel
theorem dX8_letters_18 : decode cX8_letters 18 = .ok (.iaload, 1) := by decide +kernel
theorem dX8_letters_19 : decode cX8_letters 19 = .ok (.bipush 9, 2) := by decide +kernel
theorem dX8_letters_21 : decode cX8_letters 21 = .ok (.if_icmp .le 7, 3) := by decide +kernel
theorem dX8_letters_24 : decode cX8_letters 24 = .ok (.iconst 1, 1) := by decide +kernel
theorem dX8_letters_25 : decode cX8_letters 25 = .ok (.goto 4, 3) := by decide +kernel
theorem dX8_letters_28 : decode cX8_letters 28 = .ok (.iconst 0, 1) := by decide +kernel
theorem dX8_letters_29 : decode cX8_letters 29 = .ok (.iadd, 1) := by decide +kernel
theorem dX8_letters_30 : decode cX8_letters 30 = .ok (.istore_n 1, 1) := by decide +kernel
theorem dX8_letters_31 : decode cX8_letters 31 = .ok (.iinc 2 1, 3) := by decide +kernel
theorem dX8_letters_34 : decode cX8_letters 34 = .ok (.goto (-30), 3) := by decide +kernel
theorem dX8_letters_37 : decode cX8_letters 37 = .ok (.iload_n 1, 1) := by decide +kernel
theorem dX8_letters_38 : decode cX8_letters 38 = .ok (.ireturn, 1) := by decide +kernel
theorem dX8_play_0 : decode cX8_play 0 = .ok (.aload_n 0, 1) := by decide +kernel
theorem dX8_play_1 : decode cX8_play 1 = .ok (.iconst 0, 1) := by decide +kernel
theorem dX8_play_2 : decode cX8_play 2 = .ok (.putfield 58, 3) := by decide +kernel
theorem dX8_play_5 : decode cX8_play 5 = .ok (.aload_n 0, 1) := by decide +kernel
theorem dX8_play_6 : decode cX8_play 6 = .ok (.invokevirtual 146, 3) := by decide +kernel
theorem dX8_play_9 : decode cX8_play 9 = .ok (.istore_n 2, 1) := by decide +kernel
theorem dX8_play_10 : decode cX8_play 10 = .ok (.iload_n 1, 1) := by decide +kernel
theorem dX8_play_11 : decode cX8_play 11 = .ok (.tableswitch 74 0 5 #[37, 39, 46, 54, 62, 69], 37) := by decide +kernel
theorem dX8_play_48 : decode cX8_play 48 = .ok (.iload_n 2, 1) := by decide +kernel
theorem dX8_play_49 : decode cX8_play 49 = .ok (.ireturn, 1) := by decide +kernel
theorem dX8_play_50 : decode cX8_play 50 = .ok (.aload_n 0, 1) := by decide +kernel
theorem dX8_play_51 : decode cX8_play 51 = .ok (.getfield 28, 3) := by decide +kernel
theorem dX8_play_54 : decode cX8_play 54 = .ok (.iconst 4, 1) := by decide +kernel
theorem dX8_play_55 : decode cX8_play 55 = .ok (.iaload, 1) := by decide +kernel
theorem dX8_play_56 : decode cX8_play 56 = .ok (.ireturn, 1) := by decide +kernel
theorem dX8_play_57 : decode cX8_play 57 = .ok (.aload_n 0, 1) := by decide +kernel
theorem dX8_play_58 : decode cX8_play 58 = .ok (.getfield 28, 3) := by decide +kernel
theorem dX8_play_61 : decode cX8_play 61 = .ok (.bipush 6, 2) := by decide +kernel
theorem dX8_play_63 : decode cX8_play 63 = .ok (.iaload, 1) := by decide +kernel
theorem dX8_play_64 : decode cX8_play 64 = .ok (.ireturn, 1) := by decide +kernel
theorem dX8_play_65 : decode cX8_play 65 = .ok (.aload_n 0, 1) := by decide +kernel
theorem dX8_play_66 : decode cX8_play 66 = .ok (.getfield 28, 3) := by decide +kernel
theorem dX8_play_69 : decode cX8_play 69 = .ok (.bipush 8, 2) := by decide +kernel
theorem dX8_play_71 : decode cX8_play 71 = .ok (.iaload, 1) := by decide +kernel
theorem dX8_play_72 : decode cX8_play 72 = .ok (.ireturn, 1) := by decide +kernel
theorem dX8_play_73 : decode cX8_play 73 = .ok (.aload_n 0, 1) := by decide +kernel
theorem dX8_play_74 : decode cX8_play 74 = .ok (.getfield 28, 3) := by decide +kernel
theorem dX8_play_77 : decode cX8_play 77 = .ok (.iconst 3, 1) := by decide +kernel
theorem dX8_play_78 : decode cX8_play 78 = .ok (.iaload, 1) := by decide +kernel
theorem dX8_play_79 : decode cX8_play 79 = .ok (.ireturn, 1) := by decide +kernel
theorem dX8_play_80 : decode cX8_play 80 = .ok (.aload_n 0, 1) := by decide +kernel
theorem dX8_play_81 : decode cX8_play 81 = .ok (.invokevirtual 171, 3) := by decide +kernel
theorem dX8_play_84 : decode cX8_play 84 = .ok (.ireturn, 1) := by decide +kernel
theorem dX8_play_85 : decode cX8_play 85 = .ok (.bipush (-2), 2) := by decide +kernel
theorem dX8_play_87 : decode cX8_play 87 = .ok (.ireturn, 1) := by decide +kernel
theorem dX8_does_0 : decode cX8_does 0 = .ok (.bipush 10, 2) := by decide +kernel
theorem dX8_does_2 : decode cX8_does 2 = .ok (.iload_n 2, 1) := by decide +kernel
theorem dX8_does_3 : decode cX8_does 3 = .ok (.imul, 1) := by decide +kernel
theorem dX8_does_4 : decode cX8_does 4 = .ok (.iload_n 3, 1) := by decide +kernel
theorem dX8_does_5 : decode cX8_does 5 = .ok (.iadd, 1) := by decide +kernel
theorem dX8_does_6 : decode cX8_does 6 = .ok (.istore 4, 2) := by decide +kernel
theorem dX8_does_8 : decode cX8_does 8 = .ok (.iload_n 2, 1) := by decide +kernel
theorem dX8_does_9 : decode cX8_does 9 = .ok (.invokestatic 149, 3) := by decide +kernel
theorem dX8_does_12 : decode cX8_does 12 = .ok (.ifCond .ne 7, 3) := by decide +kernel
theorem dX8_does_15 : decode cX8_does 15 = .ok (.iconst 1, 1) := by decide +kernel
theorem dX8_does_16 : decode cX8_does 16 = .ok (.goto 4, 3) := by decide +kernel
theorem dX8_does_19 : decode cX8_does 19 = .ok (.iconst 0, 1) := by decide +kernel
theorem dX8_does_20 : decode cX8_does 20 = .ok (.istore 5, 2) := by decide +kernel
theorem dX8_does_22 : decode cX8_does 22 = .ok (.iload_n 1, 1) := by decide +kernel
theorem dX8_does_23 : decode cX8_does 23 = .ok (.tableswitch 242 1 7 #[41, 74, 116, 136, 162, 200, 217], 41) := by decide +kernel
theorem dX8_does_64 : decode cX8_does 64 = .ok (.iload 5, 2) := by decide +kernel
theorem dX8_does_66 : decode cX8_does 66 = .ok (.ifCond .eq 18, 3) := by decide +kernel
theorem dX8_does_69 : decode cX8_does 69 = .ok (.iload_n 3, 1) := by decide +kernel
theorem dX8_does_70 : decode cX8_does 70 = .ok (.ifCond .ne 14, 3) := by decide +kernel
theorem dX8_does_73 : decode cX8_does 73 = .ok (.aload_n 0, 1) := by decide +kernel
theorem dX8_does_74 : decode cX8_does 74 = .ok (.getfield 28, 3) := by decide +kernel
theorem dX8_does_77 : decode cX8_does 77 = .ok (.iload_n 2, 1) := by decide +kernel
theorem dX8_does_78 : decode cX8_does 78 = .ok (.invokestatic 123, 3) := by decide +kernel
theorem dX8_does_81 : decode cX8_does 81 = .ok (.ifCond .eq 5, 3) := by decide +kernel
theorem dX8_does_84 : decode cX8_does 84 = .ok (.iconst 0, 1) := by decide +kernel
theorem dX8_does_85 : decode cX8_does 85 = .ok (.ireturn, 1) := by decide +kernel
theorem dX8_does_86 : decode cX8_does 86 = .ok (.aload_n 0, 1) := by decide +kernel
theorem dX8_does_87 : decode cX8_does 87 = .ok (.getfield 28, 3) := by decide +kernel
theorem dX8_does_90 : decode cX8_does 90 = .ok (.iload_n 2, 1) := by decide +kernel
theorem dX8_does_91 : decode cX8_does 91 = .ok (.iconst 0, 1) := by decide +kernel
theorem dX8_does_92 : decode cX8_does 92 = .ok (.invokestatic 126, 3) := by decide +kernel
theorem dX8_does_95 : decode cX8_does 95 = .ok (.iconst 1, 1) := by decide +kernel
theorem dX8_does_96 : decode cX8_does 96 = .ok (.ireturn, 1) := by decide +kernel
theorem dX8_does_97 : decode cX8_does 97 = .ok (.iconst 0, 1) := by decide +kernel
theorem dX8_does_98 : decode cX8_does 98 = .ok (.istore 6, 2) := by decide +kernel
theorem dX8_does_100 : decode cX8_does 100 = .ok (.iload 6, 2) := by decide +kernel
theorem dX8_does_102 : decode cX8_does 102 = .ok (.iload 4, 2) := by decide +kernel
theorem dX8_does_104 : decode cX8_does 104 = .ok (.if_icmp .ge 24, 3) := by decide +kernel
theorem dX8_does_107 : decode cX8_does 107 = .ok (.iload 4, 2) := by decide +kernel
theorem dX8_does_109 : decode cX8_does 109 = .ok (.bipush 21, 2) := by decide +kernel
theorem dX8_does_111 : decode cX8_does 111 = .ok (.if_icmp .ge 17, 3) := by decide +kernel
theorem dX8_does_114 : decode cX8_does 114 = .ok (.aload_n 0, 1) := by decide +kernel
theorem dX8_does_115 : decode cX8_does 115 = .ok (.aload_n 0, 1) := by decide +kernel
theorem dX8_does_116 : decode cX8_does 116 = .ok (.getfield 28, 3) := by decide +kernel
theorem dX8_does_119 : decode cX8_does 119 = .ok (.invokevirtual 96, 3) := by decide +kernel
theorem dX8_does_122 : decode cX8_does 122 = .ok (.iinc 6 1, 3) := by decide +kernel
theorem dX8_does_125 : decode cX8_does 125 = .ok (.goto (-25), 3) := by decide +kernel
theorem dX8_does_128 : decode cX8_does 128 = .ok (.iload 4, 2) := by decide +kernel
theorem dX8_does_130 : decode cX8_does 130 = .ok (.i2l, 1) := by decide +kernel
theorem dX8_does_131 : decode cX8_does 131 = .ok (.lconst 1, 1) := by decide +kernel
theorem dX8_does_132 : decode cX8_does 132 = .ok (.ldc2_w 161, 3) := by decide +kernel
theorem dX8_does_135 : decode cX8_does 135 = .ok (.invokestatic 61, 3) := by decide +kernel
theorem dX8_does_138 : decode cX8_does 138 = .ok (.ireturn, 1) := by decide +kernel
theorem dX8_does_139 : decode cX8_does 139 = .ok (.iload_n 2, 1) := by decide +kernel
theorem dX8_does_140 : decode cX8_does 140 = .ok (.ifCond .ne 17, 3) := by decide +kernel
theorem dX8_does_143 : decode cX8_does 143 = .ok (.aload_n 0, 1) := by decide +kernel
theorem dX8_does_144 : decode cX8_does 144 = .ok (.getfield 28, 3) := by decide +kernel
theorem dX8_does_147 : decode cX8_does 147 = .ok (.iconst 0, 1) := by decide +kernel
theorem dX8_does_148 : decode cX8_does 148 = .ok (.iaload, 1) := by decide +kernel
theorem dX8_does_149 : decode cX8_does 149 = .ok (.iload_n 3, 1) := by decide +kernel
theorem dX8_does_150 : decode cX8_does 150 = .ok (.if_icmp .ne 7, 3) := by decide +kernel
theorem dX8_does_153 : decode cX8_does 153 = .ok (.iconst 1, 1) := by decide +kernel
theorem dX8_does_154 : decode cX8_does 154 = .ok (.goto 4, 3) := by decide +kernel
theorem dX8_does_157 : decode cX8_does 157 = .ok (.iconst 0, 1) := by decide +kernel
theorem dX8_does_158 : decode cX8_does 158 = .ok (.ireturn, 1) := by decide +kernel
theorem dX8_does_159 : decode cX8_does 159 = .ok (.iload 5, 2) := by decide +kernel
theorem dX8_does_161 : decode cX8_does 161 = .ok (.ifCond .eq 22, 3) := by decide +kernel
theorem dX8_does_164 : decode cX8_does 164 = .ok (.aload_n 0, 1) := by decide +kernel
theorem dX8_does_165 : decode cX8_does 165 = .ok (.getfield 28, 3) := by decide +kernel
theorem dX8_does_168 : decode cX8_does 168 = .ok (.iload_n 2, 1) := by decide +kernel
theorem dX8_does_169 : decode cX8_does 169 = .ok (.invokestatic 65, 3) := by decide +kernel
theorem dX8_does_172 : decode cX8_does 172 = .ok (.iconst 4, 1) := by decide +kernel
theorem dX8_does_173 : decode cX8_does 173 = .ok (.iadd, 1) := by decide +kernel
theorem dX8_does_174 : decode cX8_does 174 = .ok (.iaload, 1) := by decide +kernel
theorem dX8_does_175 : decode cX8_does 175 = .ok (.iload_n 3, 1) := by decide +kernel
theorem dX8_does_176 : decode cX8_does 176 = .ok (.if_icmp .ne 7, 3) := by decide +kernel
theorem dX8_does_179 : decode cX8_does 179 = .ok (.iconst 1, 1) := by decide +kernel
theorem dX8_does_180 : decode cX8_does 180 = .ok (.goto 4, 3) := by decide +kernel
theorem dX8_does_183 : decode cX8_does 183 = .ok (.iconst 0, 1) := by decide +kernel
theorem dX8_does_184 : decode cX8_does 184 = .ok (.ireturn, 1) := by decide +kernel
theorem dX8_does_185 : decode cX8_does 185 = .ok (.iload 5, 2) := by decide +kernel
theorem dX8_does_187 : decode cX8_does 187 = .ok (.ifCond .eq 34, 3) := by decide +kernel
theorem dX8_does_190 : decode cX8_does 190 = .ok (.iload_n 3, 1) := by decide +kernel
theorem dX8_does_191 : decode cX8_does 191 = .ok (.iconst 2, 1) := by decide +kernel
theorem dX8_does_192 : decode cX8_does 192 = .ok (.if_icmp .ge 29, 3) := by decide +kernel
theorem dX8_does_195 : decode cX8_does 195 = .ok (.aload_n 0, 1) := by decide +kernel
theorem dX8_does_196 : decode cX8_does 196 = .ok (.aload_n 0, 1) := by decide +kernel
theorem dX8_does_197 : decode cX8_does 197 = .ok (.getfield 28, 3) := by decide +kernel
theorem dX8_does_200 : decode cX8_does 200 = .ok (.iload_n 2, 1) := by decide +kernel
theorem dX8_does_201 : decode cX8_does 201 = .ok (.invokevirtual 81, 3) := by decide +kernel
theorem dX8_does_204 : decode cX8_does 204 = .ok (.iload_n 3, 1) := by decide +kernel
theorem dX8_does_205 : decode cX8_does 205 = .ok (.iconst 1, 1) := by decide +kernel
theorem dX8_does_206 : decode cX8_does 206 = .ok (.if_icmp .ne 7, 3) := by decide +kernel
theorem dX8_does_209 : decode cX8_does 209 = .ok (.iconst 1, 1) := by decide +kernel
theorem dX8_does_210 : decode cX8_does 210 = .ok (.goto 4, 3) := by decide +kernel
theorem dX8_does_213 : decode cX8_does 213 = .ok (.iconst 0, 1) := by decide +kernel
theorem dX8_does_214 : decode cX8_does 214 = .ok (.if_icmp .ne 7, 3) := by decide +kernel
theorem dX8_does_217 : decode cX8_does 217 = .ok (.iconst 1, 1) := by decide +kernel
theorem dX8_does_218 : decode cX8_does 218 = .ok (.goto 4, 3) := by decide +kernel
theorem dX8_does_221 : decode cX8_does 221 = .ok (.iconst 0, 1) := by decide +kernel
theorem dX8_does_222 : decode cX8_does 222 = .ok (.ireturn, 1) := by decide +kernel
theorem dX8_does_223 : decode cX8_does 223 = .ok (.aload_n 0, 1) := by decide +kernel
theorem dX8_does_224 : decode cX8_does 224 = .ok (.getfield 28, 3) := by decide +kernel
theorem dX8_does_227 : decode cX8_does 227 = .ok (.iconst 5, 1) := by decide +kernel
theorem dX8_does_228 : decode cX8_does 228 = .ok (.iaload, 1) := by decide +kernel
theorem dX8_does_229 : decode cX8_does 229 = .ok (.iload 4, 2) := by decide +kernel
theorem dX8_does_231 : decode cX8_does 231 = .ok (.if_icmp .ne 7, 3) := by decide +kernel
theorem dX8_does_234 : decode cX8_does 234 = .ok (.iconst 1, 1) := by decide +kernel
theorem dX8_does_235 : decode cX8_does 235 = .ok (.goto 4, 3) := by decide +kernel
theorem dX8_does_238 : decode cX8_does 238 = .ok (.iconst 0, 1) := by decide +kernel
theorem dX8_does_239 : decode cX8_does 239 = .ok (.ireturn, 1) := by decide +kernel
theorem dX8_does_240 : decode cX8_does 240 = .ok (.iload 5, 2) := by decide +kernel
theorem dX8_does_242 : decode cX8_does 242 = .ok (.ifCond .eq 7, 3) := by decide +kernel
theorem dX8_does_245 : decode cX8_does 245 = .ok (.iload_n 3, 1) := by decide +kernel
theorem dX8_does_246 : decode cX8_does 246 = .ok (.ifCond .ne 5, 3) := by decide +kernel
theorem dX8_does_249 : decode cX8_does 249 = .ok (.iconst 0, 1) := by decide +kernel
theorem dX8_does_250 : decode cX8_does 250 = .ok (.ireturn, 1) := by decide +kernel
theorem dX8_does_251 : decode cX8_does 251 = .ok (.aload_n 0, 1) := by decide +kernel
theorem dX8_does_252 : decode cX8_does 252 = .ok (.getfield 28, 3) := by decide +kernel
theorem dX8_does_255 : decode cX8_does 255 = .ok (.iload_n 2, 1) := by decide +kernel
theorem dX8_does_256 : decode cX8_does 256 = .ok (.invokestatic 65, 3) := by decide +kernel
theorem dX8_does_259 : decode cX8_does 259 = .ok (.iconst 1, 1) := by decide +kernel
theorem dX8_does_260 : decode cX8_does 260 = .ok (.iadd, 1) := by decide +kernel
theorem dX8_does_261 : decode cX8_does 261 = .ok (.iload_n 3, 1) := by decide +kernel
theorem dX8_does_262 : decode cX8_does 262 = .ok (.iastore, 1) := by decide +kernel
theorem dX8_does_263 : decode cX8_does 263 = .ok (.iconst 1, 1) := by decide +kernel
theorem dX8_does_264 : decode cX8_does 264 = .ok (.ireturn, 1) := by decide +kernel
theorem dX8_does_265 : decode cX8_does 265 = .ok (.iconst 0, 1) := by decide +kernel
theorem dX8_does_266 : decode cX8_does 266 = .ok (.ireturn, 1) := by decide +kernel
theorem dX8_longPower_0 : decode cX8_longPower 0 = .ok (.lconst 1, 1) := by decide +kernel
theorem dX8_longPower_1 : decode cX8_longPower 1 = .ok (.lstore_n 3, 1) := by decide +kernel
theorem dX8_longPower_2 : decode cX8_longPower 2 = .ok (.iconst 0, 1) := by decide +kernel
theorem dX8_longPower_3 : decode cX8_longPower 3 = .ok (.istore 5, 2) := by decide +kernel
theorem dX8_longPower_5 : decode cX8_longPower 5 = .ok (.iload 5, 2) := by decide +kernel
theorem dX8_longPower_7 : decode cX8_longPower 7 = .ok (.iload_n 2, 1) := by decide +kernel
theorem dX8_longPower_8 : decode cX8_longPower 8 = .ok (.if_icmp .ge 13, 3) := by decide +kernel
theorem dX8_longPower_11 : decode cX8_longPower 11 = .ok (.lload_n 3, 1) := by decide +kernel
theorem dX8_longPower_12 : decode cX8_longPower 12 = .ok (.lload_n 0, 1) := by decide +kernel
theorem dX8_longPower_13 : decode cX8_longPower 13 = .ok (.lmul, 1) := by decide +kernel
theorem dX8_longPower_14 : decode cX8_longPower 14 = .ok (.lstore_n 3, 1) := by decide +kernel
theorem dX8_longPower_15 : decode cX8_longPower 15 = .ok (.iinc 5 1, 3) := by decide +kernel
theorem dX8_longPower_18 : decode cX8_longPower 18 = .ok (.goto (-13), 3) := by decide +kernel
theorem dX8_longPower_21 : decode cX8_longPower 21 = .ok (.lload_n 3, 1) := by decide +kernel
theorem dX8_longPower_22 : decode cX8_longPower 22 = .ok (.lreturn, 1) := by decide +kernel
theorem dX8_judge_0 : decode cX8_judge 0 = .ok (.aload_n 0, 1) := by decide +kernel
theorem dX8_judge_1 : decode cX8_judge 1 = .ok (.iconst 0, 1) := by decide +kernel
theorem dX8_judge_2 : decode cX8_judge 2 = .ok (.putfield 58, 3) := by decide +kernel
theorem dX8_judge_5 : decode cX8_judge 5 = .ok (.iload_n 1, 1) := by decide +kernel
theorem dX8_judge_6 : decode cX8_judge 6 = .ok (.i2l, 1) := by decide +kernel
theorem dX8_judge_7 : decode cX8_judge 7 = .ok (.lconst 1, 1) := by decide +kernel
theorem dX8_judge_8 : decode cX8_judge 8 = .ok (.ldc2_w 153, 3) := by decide +kernel
theorem dX8_judge_11 : decode cX8_judge 11 = .ok (.invokestatic 61, 3) := by decide +kernel
theorem dX8_judge_14 : decode cX8_judge 14 = .ok (.ifCond .eq 20, 3) := by decide +kernel
theorem dX8_judge_17 : decode cX8_judge 17 = .ok (.lload_n 2, 1) := by decide +kernel
theorem dX8_judge_18 : decode cX8_judge 18 = .ok (.lconst 0, 1) := by decide +kernel
theorem dX8_judge_19 : decode cX8_judge 19 = .ok (.ldc2_w 174, 3) := by decide +kernel
theorem dX8_judge_22 : decode cX8_judge 22 = .ok (.iload_n 1, 1) := by decide +kernel
theorem dX8_judge_23 : decode cX8_judge 23 = .ok (.invokestatic 176, 3) := by decide +kernel
theorem dX8_judge_26 : decode cX8_judge 26 = .ok (.lconst 1, 1) := by decide +kernel
theorem dX8_judge_27 : decode cX8_judge 27 = .ok (.lsub, 1) := by decide +kernel
theorem dX8_judge_28 : decode cX8_judge 28 = .ok (.invokestatic 61, 3) := by decide +kernel
theorem dX8_judge_31 : decode cX8_judge 31 = .ok (.ifCond .ne 6, 3) := by decide +kernel
theorem dX8_judge_34 : decode cX8_judge 34 = .ok (.bipush (-2), 2) := by decide +kernel
theorem dX8_judge_36 : decode cX8_judge 36 = .ok (.ireturn, 1) := by decide +kernel
theorem dX8_judge_37 : decode cX8_judge 37 = .ok (.aload_n 0, 1) := by decide +kernel
theorem dX8_judge_38 : decode cX8_judge 38 = .ok (.getfield 19, 3) := by decide +kernel
theorem dX8_judge_41 : decode cX8_judge 41 = .ok (.aload_n 0, 1) := by decide +kernel
theorem dX8_judge_42 : decode cX8_judge 42 = .ok (.getfield 28, 3) := by decide +kernel
theorem dX8_judge_45 : decode cX8_judge 45 = .ok (.invokestatic 89, 3) := by decide +kernel
theorem dX8_judge_48 : decode cX8_judge 48 = .ok (.iconst 0, 1) := by decide +kernel
theorem dX8_judge_49 : decode cX8_judge 49 = .ok (.istore 4, 2) := by decide +kernel
theorem dX8_judge_51 : decode cX8_judge 51 = .ok (.iload 4, 2) := by decide +kernel
theorem dX8_judge_53 : decode cX8_judge 53 = .ok (.iload_n 1, 1) := by decide +kernel
theorem dX8_judge_54 : decode cX8_judge 54 = .ok (.if_icmp .ge 58, 3) := by decide +kernel
theorem dX8_judge_57 : decode cX8_judge 57 = .ok (.lload_n 2, 1) := by decide +kernel
theorem dX8_judge_58 : decode cX8_judge 58 = .ok (.ldc2_w 174, 3) := by decide +kernel
theorem dX8_judge_61 : decode cX8_judge 61 = .ok (.iload_n 1, 1) := by decide +kernel
theorem dX8_judge_62 : decode cX8_judge 62 = .ok (.iconst 1, 1) := by decide +kernel
theorem dX8_judge_63 : decode cX8_judge 63 = .ok (.isub, 1) := by decide +kernel
theorem dX8_judge_64 : decode cX8_judge 64 = .ok (.iload 4, 2) := by decide +kernel
theorem dX8_judge_66 : decode cX8_judge 66 = .ok (.isub, 1) := by decide +kernel
theorem dX8_judge_67 : decode cX8_judge 67 = .ok (.invokestatic 176, 3) := by decide +kernel
theorem dX8_judge_70 : decode cX8_judge 70 = .ok (.ldiv, 1) := by decide +kernel
theorem dX8_judge_71 : decode cX8_judge 71 = .ok (.ldc2_w 174, 3) := by decide +kernel
theorem dX8_judge_74 : decode cX8_judge 74 = .ok (.lrem, 1) := by decide +kernel
theorem dX8_judge_75 : decode cX8_judge 75 = .ok (.l2i, 1) := by decide +kernel
theorem dX8_judge_76 : decode cX8_judge 76 = .ok (.istore 5, 2) := by decide +kernel
theorem dX8_judge_78 : decode cX8_judge 78 = .ok (.aload_n 0, 1) := by decide +kernel
theorem dX8_judge_79 : decode cX8_judge 79 = .ok (.iload 5, 2) := by decide +kernel
theorem dX8_judge_81 : decode cX8_judge 81 = .ok (.bipush 100, 2) := by decide +kernel
theorem dX8_judge_83 : decode cX8_judge 83 = .ok (.idiv, 1) := by decide +kernel
theorem dX8_judge_84 : decode cX8_judge 84 = .ok (.iload 5, 2) := by decide +kernel
theorem dX8_judge_86 : decode cX8_judge 86 = .ok (.bipush 10, 2) := by decide +kernel
theorem dX8_judge_88 : decode cX8_judge 88 = .ok (.idiv, 1) := by decide +kernel
theorem dX8_judge_89 : decode cX8_judge 89 = .ok (.bipush 10, 2) := by decide +kernel
theorem dX8_judge_91 : decode cX8_judge 91 = .ok (.irem, 1) := by decide +kernel
theorem dX8_judge_92 : decode cX8_judge 92 = .ok (.iload 5, 2) := by decide +kernel
theorem dX8_judge_94 : decode cX8_judge 94 = .ok (.bipush 10, 2) := by decide +kernel
theorem dX8_judge_96 : decode cX8_judge 96 = .ok (.irem, 1) := by decide +kernel
theorem dX8_judge_97 : decode cX8_judge 97 = .ok (.invokevirtual 180, 3) := by decide +kernel
theorem dX8_judge_100 : decode cX8_judge 100 = .ok (.ifCond .ne 6, 3) := by decide +kernel
theorem dX8_judge_103 : decode cX8_judge 103 = .ok (.iload 4, 2) := by decide +kernel
theorem dX8_judge_105 : decode cX8_judge 105 = .ok (.ireturn, 1) := by decide +kernel
theorem dX8_judge_106 : decode cX8_judge 106 = .ok (.iinc 4 1, 3) := by decide +kernel
theorem dX8_judge_109 : decode cX8_judge 109 = .ok (.goto (-58), 3) := by decide +kernel
theorem dX8_judge_112 : decode cX8_judge 112 = .ok (.bipush (-9), 2) := by decide +kernel
theorem dX8_judge_114 : decode cX8_judge 114 = .ok (.ireturn, 1) := by decide +kernel
theorem dX8_see_0 : decode cX8_see 0 = .ok (.aload_n 0, 1) := by decide +kernel
theorem dX8_see_1 : decode cX8_see 1 = .ok (.iconst 0, 1) := by decide +kernel
theorem dX8_see_2 : decode cX8_see 2 = .ok (.putfield 58, 3) := by decide +kernel
theorem dX8_see_5 : decode cX8_see 5 = .ok (.iload_n 1, 1) := by decide +kernel
theorem dX8_see_6 : decode cX8_see 6 = .ok (.i2l, 1) := by decide +kernel
theorem dX8_see_7 : decode cX8_see 7 = .ok (.lconst 0, 1) := by decide +kernel
theorem dX8_see_8 : decode cX8_see 8 = .ok (.ldc2_w 165, 3) := by decide +kernel
theorem dX8_see_11 : decode cX8_see 11 = .ok (.invokestatic 61, 3) := by decide +kernel
theorem dX8_see_14 : decode cX8_see 14 = .ok (.ifCond .eq 15, 3) := by decide +kernel
theorem dX8_see_17 : decode cX8_see 17 = .ok (.iload_n 2, 1) := by decide +kernel
theorem dX8_see_18 : decode cX8_see 18 = .ok (.i2l, 1) := by decide +kernel
theorem dX8_see_19 : decode cX8_see 19 = .ok (.lconst 0, 1) := by decide +kernel
theorem dX8_see_20 : decode cX8_see 20 = .ok (.ldc2_w 184, 3) := by decide +kernel
theorem dX8_see_23 : decode cX8_see 23 = .ok (.invokestatic 61, 3) := by decide +kernel
theorem dX8_see_26 : decode cX8_see 26 = .ok (.ifCond .ne 6, 3) := by decide +kernel
theorem dX8_see_29 : decode cX8_see 29 = .ok (.bipush (-2), 2) := by decide +kernel
theorem dX8_see_31 : decode cX8_see 31 = .ok (.ireturn, 1) := by decide +kernel
theorem dX8_see_32 : decode cX8_see 32 = .ok (.aload_n 0, 1) := by decide +kernel
theorem dX8_see_33 : decode cX8_see 33 = .ok (.getfield 186, 3) := by decide +kernel
theorem dX8_see_36 : decode cX8_see 36 = .ok (.bipush 6, 2) := by decide +kernel
theorem dX8_see_38 : decode cX8_see 38 = .ok (.if_icmp .ne 6, 3) := by decide +kernel
theorem dX8_see_41 : decode cX8_see 41 = .ok (.bipush (-4), 2) := by decide +kernel
theorem dX8_see_43 : decode cX8_see 43 = .ok (.ireturn, 1) := by decide +kernel
theorem dX8_see_44 : decode cX8_see 44 = .ok (.aload_n 0, 1) := by decide +kernel
theorem dX8_see_45 : decode cX8_see 45 = .ok (.getfield 41, 3) := by decide +kernel
theorem dX8_see_48 : decode cX8_see 48 = .ok (.aload_n 0, 1) := by decide +kernel
theorem dX8_see_49 : decode cX8_see 49 = .ok (.getfield 186, 3) := by decide +kernel
theorem dX8_see_52 : decode cX8_see 52 = .ok (.iload_n 1, 1) := by decide +kernel
theorem dX8_see_53 : decode cX8_see 53 = .ok (.iastore, 1) := by decide +kernel
theorem dX8_see_54 : decode cX8_see 54 = .ok (.aload_n 0, 1) := by decide +kernel
theorem dX8_see_55 : decode cX8_see 55 = .ok (.getfield 44, 3) := by decide +kernel
theorem dX8_see_58 : decode cX8_see 58 = .ok (.aload_n 0, 1) := by decide +kernel
theorem dX8_see_59 : decode cX8_see 59 = .ok (.getfield 186, 3) := by decide +kernel
theorem dX8_see_62 : decode cX8_see 62 = .ok (.iload_n 2, 1) := by decide +kernel
theorem dX8_see_63 : decode cX8_see 63 = .ok (.iastore, 1) := by decide +kernel
theorem dX8_see_64 : decode cX8_see 64 = .ok (.aload_n 0, 1) := by decide +kernel
theorem dX8_see_65 : decode cX8_see 65 = .ok (.dup, 1) := by decide +kernel
theorem dX8_see_66 : decode cX8_see 66 = .ok (.getfield 186, 3) := by decide +kernel
theorem dX8_see_69 : decode cX8_see 69 = .ok (.iconst 1, 1) := by decide +kernel
theorem dX8_see_70 : decode cX8_see 70 = .ok (.iadd, 1) := by decide +kernel
theorem dX8_see_71 : decode cX8_see 71 = .ok (.putfield 186, 3) := by decide +kernel
theorem dX8_see_74 : decode cX8_see 74 = .ok (.aload_n 0, 1) := by decide +kernel
theorem dX8_see_75 : decode cX8_see 75 = .ok (.getfield 186, 3) := by decide +kernel
theorem dX8_see_78 : decode cX8_see 78 = .ok (.ireturn, 1) := by decide +kernel
theorem dX8_unsee_0 : decode cX8_unsee 0 = .ok (.aload_n 0, 1) := by decide +kernel
theorem dX8_unsee_1 : decode cX8_unsee 1 = .ok (.iconst 0, 1) := by decide +kernel
theorem dX8_unsee_2 : decode cX8_unsee 2 = .ok (.putfield 58, 3) := by decide +kernel
theorem dX8_unsee_5 : decode cX8_unsee 5 = .ok (.aload_n 0, 1) := by decide +kernel
theorem dX8_unsee_6 : decode cX8_unsee 6 = .ok (.getfield 186, 3) := by decide +kernel
theorem dX8_unsee_9 : decode cX8_unsee 9 = .ok (.istore_n 1, 1) := by decide +kernel
theorem dX8_unsee_10 : decode cX8_unsee 10 = .ok (.aload_n 0, 1) := by decide +kernel
theorem dX8_unsee_11 : decode cX8_unsee 11 = .ok (.iconst 0, 1) := by decide +kernel
theorem dX8_unsee_12 : decode cX8_unsee 12 = .ok (.putfield 186, 3) := by decide +kernel
theorem dX8_unsee_15 : decode cX8_unsee 15 = .ok (.iload_n 1, 1) := by decide +kernel
theorem dX8_unsee_16 : decode cX8_unsee 16 = .ok (.ireturn, 1) := by decide +kernel
theorem dX8_tickNoted_0 : decode cX8_tickNoted 0 = .ok (.aload_n 0, 1) := by decide +kernel
theorem dX8_tickNoted_1 : decode cX8_tickNoted 1 = .ok (.aload_n 0, 1) := by decide +kernel
theorem dX8_tickNoted_2 : decode cX8_tickNoted 2 = .ok (.getfield 28, 3) := by decide +kernel
theorem dX8_tickNoted_5 : decode cX8_tickNoted 5 = .ok (.invokevirtual 96, 3) := by decide +kernel
theorem dX8_tickNoted_8 : decode cX8_tickNoted 8 = .ok (.aload_n 0, 1) := by decide +kernel
theorem dX8_tickNoted_9 : decode cX8_tickNoted 9 = .ok (.getfield 28, 3) := by decide +kernel
theorem dX8_tickNoted_12 : decode cX8_tickNoted 12 = .ok (.iconst 3, 1) := by decide +kernel
theorem dX8_tickNoted_13 : decode cX8_tickNoted 13 = .ok (.iaload, 1) := by decide +kernel
theorem dX8_tickNoted_14 : decode cX8_tickNoted 14 = .ok (.bipush 100, 2) := by decide +kernel
theorem dX8_tickNoted_16 : decode cX8_tickNoted 16 = .ok (.if_icmp .ge 20, 3) := by decide +kernel
theorem dX8_tickNoted_19 : decode cX8_tickNoted 19 = .ok (.aload_n 0, 1) := by decide +kernel
theorem dX8_tickNoted_20 : decode cX8_tickNoted 20 = .ok (.getfield 47, 3) := by decide +kernel
theorem dX8_tickNoted_23 : decode cX8_tickNoted 23 = .ok (.aload_n 0, 1) := by decide +kernel
theorem dX8_tickNoted_24 : decode cX8_tickNoted 24 = .ok (.getfield 28, 3) := by decide +kernel
theorem dX8_tickNoted_27 : decode cX8_tickNoted 27 = .ok (.iconst 3, 1) := by decide +kernel
theorem dX8_tickNoted_28 : decode cX8_tickNoted 28 = .ok (.iaload, 1) := by decide +kernel
theorem dX8_tickNoted_29 : decode cX8_tickNoted 29 = .ok (.aload_n 0, 1) := by decide +kernel
theorem dX8_tickNoted_30 : decode cX8_tickNoted 30 = .ok (.getfield 28, 3) := by decide +kernel
theorem dX8_tickNoted_33 : decode cX8_tickNoted 33 = .ok (.iconst 0, 1) := by decide +kernel
theorem dX8_tickNoted_34 : decode cX8_tickNoted 34 = .ok (.iaload, 1) := by decide +kernel
theorem dX8_tickNoted_35 : decode cX8_tickNoted 35 = .ok (.iastore, 1) := by decide +kernel
theorem dX8_tickNoted_36 : decode cX8_tickNoted 36 = .ok (.return_, 1) := by decide +kernel
theorem dX8_layWas_0 : decode cX8_layWas 0 = .ok (.aload_n 0, 1) := by decide +kernel
theorem dX8_layWas_1 : decode cX8_layWas 1 = .ok (.getfield 22, 3) := by decide +kernel
theorem dX8_layWas_4 : decode cX8_layWas 4 = .ok (.aload_n 0, 1) := by decide +kernel
theorem dX8_layWas_5 : decode cX8_layWas 5 = .ok (.getfield 28, 3) := by decide +kernel
theorem dX8_layWas_8 : decode cX8_layWas 8 = .ok (.invokestatic 89, 3) := by decide +kernel
theorem dX8_layWas_11 : decode cX8_layWas 11 = .ok (.aload_n 0, 1) := by decide +kernel
theorem dX8_layWas_12 : decode cX8_layWas 12 = .ok (.getfield 28, 3) := by decide +kernel
theorem dX8_layWas_15 : decode cX8_layWas 15 = .ok (.iconst 0, 1) := by decide +kernel
theorem dX8_layWas_16 : decode cX8_layWas 16 = .ok (.invokestatic 65, 3) := by decide +kernel
theorem dX8_layWas_19 : decode cX8_layWas 19 = .ok (.iconst 1, 1) := by decide +kernel
theorem dX8_layWas_20 : decode cX8_layWas 20 = .ok (.iadd, 1) := by decide +kernel
theorem dX8_layWas_21 : decode cX8_layWas 21 = .ok (.iload_n 1, 1) := by decide +kernel
theorem dX8_layWas_22 : decode cX8_layWas 22 = .ok (.iastore, 1) := by decide +kernel
theorem dX8_layWas_23 : decode cX8_layWas 23 = .ok (.aload_n 0, 1) := by decide +kernel
theorem dX8_layWas_24 : decode cX8_layWas 24 = .ok (.getfield 47, 3) := by decide +kernel
theorem dX8_layWas_27 : decode cX8_layWas 27 = .ok (.iconst 0, 1) := by decide +kernel
theorem dX8_layWas_28 : decode cX8_layWas 28 = .ok (.aload_n 0, 1) := by decide +kernel
theorem dX8_layWas_29 : decode cX8_layWas 29 = .ok (.getfield 28, 3) := by decide +kernel
theorem dX8_layWas_32 : decode cX8_layWas 32 = .ok (.iconst 0, 1) := by decide +kernel
theorem dX8_layWas_33 : decode cX8_layWas 33 = .ok (.iaload, 1) := by decide +kernel
theorem dX8_layWas_34 : decode cX8_layWas 34 = .ok (.iastore, 1) := by decide +kernel
theorem dX8_layWas_35 : decode cX8_layWas 35 = .ok (.iconst 0, 1) := by decide +kernel
theorem dX8_layWas_36 : decode cX8_layWas 36 = .ok (.istore_n 2, 1) := by decide +kernel
theorem dX8_layWas_37 : decode cX8_layWas 37 = .ok (.iload_n 2, 1) := by decide +kernel
theorem dX8_layWas_38 : decode cX8_layWas 38 = .ok (.aload_n 0, 1) := by decide +kernel
theorem dX8_layWas_39 : decode cX8_layWas 39 = .ok (.getfield 130, 3) := by decide +kernel
theorem dX8_layWas_42 : decode cX8_layWas 42 = .ok (.if_icmp .ge 67, 3) := by decide +kernel
theorem dX8_layWas_45 : decode cX8_layWas 45 = .ok (.iconst 0, 1) := by decide +kernel
theorem dX8_layWas_46 : decode cX8_layWas 46 = .ok (.istore_n 3, 1) := by decide +kernel
theorem dX8_layWas_47 : decode cX8_layWas 47 = .ok (.iload_n 3, 1) := by decide +kernel
theorem dX8_layWas_48 : decode cX8_layWas 48 = .ok (.aload_n 0, 1) := by decide +kernel
theorem dX8_layWas_49 : decode cX8_layWas 49 = .ok (.getfield 25, 3) := by decide +kernel
theorem dX8_layWas_52 : decode cX8_layWas 52 = .ok (.iload_n 2, 1) := by decide +kernel
theorem dX8_layWas_53 : decode cX8_layWas 53 = .ok (.iaload, 1) := by decide +kernel
theorem dX8_layWas_54 : decode cX8_layWas 54 = .ok (.if_icmp .ge 24, 3) := by decide +kernel
theorem dX8_layWas_57 : decode cX8_layWas 57 = .ok (.aload_n 0, 1) := by decide +kernel
theorem dX8_layWas_58 : decode cX8_layWas 58 = .ok (.getfield 25, 3) := by decide +kernel
theorem dX8_layWas_61 : decode cX8_layWas 61 = .ok (.iload_n 2, 1) := by decide +kernel
theorem dX8_layWas_62 : decode cX8_layWas 62 = .ok (.iaload, 1) := by decide +kernel
theorem dX8_layWas_63 : decode cX8_layWas 63 = .ok (.bipush 10, 2) := by decide +kernel
theorem dX8_layWas_65 : decode cX8_layWas 65 = .ok (.if_icmp .ge 13, 3) := by decide +kernel
theorem dX8_layWas_68 : decode cX8_layWas 68 = .ok (.aload_n 0, 1) := by decide +kernel
theorem dX8_layWas_69 : decode cX8_layWas 69 = .ok (.invokevirtual 189, 3) := by decide +kernel
theorem dX8_layWas_72 : decode cX8_layWas 72 = .ok (.iinc 3 1, 3) := by decide +kernel
theorem dX8_layWas_75 : decode cX8_layWas 75 = .ok (.goto (-28), 3) := by decide +kernel
theorem dX8_layWas_78 : decode cX8_layWas 78 = .ok (.aload_n 0, 1) := by decide +kernel
theorem dX8_layWas_79 : decode cX8_layWas 79 = .ok (.getfield 25, 3) := by decide +kernel
theorem dX8_layWas_82 : decode cX8_layWas 82 = .ok (.iload_n 2, 1) := by decide +kernel
theorem dX8_layWas_83 : decode cX8_layWas 83 = .ok (.iaload, 1) := by decide +kernel
theorem dX8_layWas_84 : decode cX8_layWas 84 = .ok (.bipush 9, 2) := by decide +kernel
theorem dX8_layWas_86 : decode cX8_layWas 86 = .ok (.if_icmp .le 17, 3) := by decide +kernel
theorem dX8_layWas_89 : decode cX8_layWas 89 = .ok (.aload_n 0, 1) := by decide +kernel
theorem dX8_layWas_90 : decode cX8_layWas 90 = .ok (.aload_n 0, 1) := by decide +kernel
theorem dX8_layWas_91 : decode cX8_layWas 91 = .ok (.getfield 28, 3) := by decide +kernel
theorem dX8_layWas_94 : decode cX8_layWas 94 = .ok (.aload_n 0, 1) := by decide +kernel
theorem dX8_layWas_95 : decode cX8_layWas 95 = .ok (.getfield 25, 3) := by decide +kernel
theorem dX8_layWas_98 : decode cX8_layWas 98 = .ok (.iload_n 2, 1) := by decide +kernel
theorem dX8_layWas_99 : decode cX8_layWas 99 = .ok (.iaload, 1) := by decide +kernel
theorem dX8_layWas_100 : decode cX8_layWas 100 = .ok (.invokevirtual 133, 3) := by decide +kernel
theorem dX8_layWas_103 : decode cX8_layWas 103 = .ok (.iinc 2 1, 3) := by decide +kernel
theorem dX8_layWas_106 : decode cX8_layWas 106 = .ok (.goto (-69), 3) := by decide +kernel
theorem dX8_layWas_109 : decode cX8_layWas 109 = .ok (.aload_n 0, 1) := by decide +kernel
theorem dX8_layWas_110 : decode cX8_layWas 110 = .ok (.getfield 28, 3) := by decide +kernel
theorem dX8_layWas_113 : decode cX8_layWas 113 = .ok (.iconst 3, 1) := by decide +kernel
theorem dX8_layWas_114 : decode cX8_layWas 114 = .ok (.iaload, 1) := by decide +kernel
theorem dX8_layWas_115 : decode cX8_layWas 115 = .ok (.bipush 99, 2) := by decide +kernel
theorem dX8_layWas_117 : decode cX8_layWas 117 = .ok (.if_icmp .ge 10, 3) := by decide +kernel
theorem dX8_layWas_120 : decode cX8_layWas 120 = .ok (.aload_n 0, 1) := by decide +kernel
theorem dX8_layWas_121 : decode cX8_layWas 121 = .ok (.invokevirtual 189, 3) := by decide +kernel
theorem dX8_layWas_124 : decode cX8_layWas 124 = .ok (.goto (-15), 3) := by decide +kernel
theorem dX8_layWas_127 : decode cX8_layWas 127 = .ok (.return_, 1) := by decide +kernel
theorem dX8_which_0 : decode cX8_which 0 = .ok (.aload_n 0, 1) := by decide +kernel
theorem dX8_which_1 : decode cX8_which 1 = .ok (.iconst 0, 1) := by decide +kernel
theorem dX8_which_2 : decode cX8_which 2 = .ok (.putfield 58, 3) := by decide +kernel
theorem dX8_which_5 : decode cX8_which 5 = .ok (.iconst 0, 1) := by decide +kernel
theorem dX8_which_6 : decode cX8_which 6 = .ok (.istore_n 1, 1) := by decide +kernel
theorem dX8_which_7 : decode cX8_which 7 = .ok (.iconst 1, 1) := by decide +kernel
theorem dX8_which_8 : decode cX8_which 8 = .ok (.istore_n 2, 1) := by decide +kernel
theorem dX8_which_9 : decode cX8_which 9 = .ok (.iload_n 2, 1) := by decide +kernel
theorem dX8_which_10 : decode cX8_which 10 = .ok (.bipush 10, 2) := by decide +kernel
theorem dX8_which_12 : decode cX8_which 12 = .ok (.if_icmp .ge 80, 3) := by decide +kernel
theorem dX8_which_15 : decode cX8_which 15 = .ok (.aload_n 0, 1) := by decide +kernel
theorem dX8_which_16 : decode cX8_which 16 = .ok (.iload_n 2, 1) := by decide +kernel
theorem dX8_which_17 : decode cX8_which 17 = .ok (.invokevirtual 192, 3) := by decide +kernel
theorem dX8_which_20 : decode cX8_which 20 = .ok (.iconst 1, 1) := by decide +kernel
theorem dX8_which_21 : decode cX8_which 21 = .ok (.istore_n 3, 1) := by decide +kernel
theorem dX8_which_22 : decode cX8_which 22 = .ok (.iconst 0, 1) := by decide +kernel
theorem dX8_which_23 : decode cX8_which 23 = .ok (.istore 4, 2) := by decide +kernel
theorem dX8_which_25 : decode cX8_which 25 = .ok (.iload 4, 2) := by decide +kernel
theorem dX8_which_27 : decode cX8_which 27 = .ok (.aload_n 0, 1) := by decide +kernel
theorem dX8_which_28 : decode cX8_which 28 = .ok (.getfield 186, 3) := by decide +kernel
theorem dX8_which_31 : decode cX8_which 31 = .ok (.if_icmp .ge 41, 3) := by decide +kernel
theorem dX8_which_34 : decode cX8_which 34 = .ok (.iload_n 3, 1) := by decide +kernel
theorem dX8_which_35 : decode cX8_which 35 = .ok (.ifCond .eq 29, 3) := by decide +kernel
theorem dX8_which_38 : decode cX8_which 38 = .ok (.aload_n 0, 1) := by decide +kernel
theorem dX8_which_39 : decode cX8_which 39 = .ok (.getfield 47, 3) := by decide +kernel
theorem dX8_which_42 : decode cX8_which 42 = .ok (.aload_n 0, 1) := by decide +kernel
theorem dX8_which_43 : decode cX8_which 43 = .ok (.getfield 41, 3) := by decide +kernel
theorem dX8_which_46 : decode cX8_which 46 = .ok (.iload 4, 2) := by decide +kernel
theorem dX8_which_48 : decode cX8_which 48 = .ok (.iaload, 1) := by decide +kernel
theorem dX8_which_49 : decode cX8_which 49 = .ok (.iaload, 1) := by decide +kernel
theorem dX8_which_50 : decode cX8_which 50 = .ok (.aload_n 0, 1) := by decide +kernel
theorem dX8_which_51 : decode cX8_which 51 = .ok (.getfield 44, 3) := by decide +kernel
theorem dX8_which_54 : decode cX8_which 54 = .ok (.iload 4, 2) := by decide +kernel
theorem dX8_which_56 : decode cX8_which 56 = .ok (.iaload, 1) := by decide +kernel
theorem dX8_which_57 : decode cX8_which 57 = .ok (.if_icmp .ne 7, 3) := by decide +kernel
theorem dX8_which_60 : decode cX8_which 60 = .ok (.iconst 1, 1) := by decide +kernel
theorem dX8_which_61 : decode cX8_which 61 = .ok (.goto 4, 3) := by decide +kernel
theorem dX8_which_64 : decode cX8_which 64 = .ok (.iconst 0, 1) := by decide +kernel
theorem dX8_which_65 : decode cX8_which 65 = .ok (.istore_n 3, 1) := by decide +kernel
theorem dX8_which_66 : decode cX8_which 66 = .ok (.iinc 4 1, 3) := by decide +kernel
theorem dX8_which_69 : decode cX8_which 69 = .ok (.goto (-44), 3) := by decide +kernel
theorem dX8_which_72 : decode cX8_which 72 = .ok (.iload_n 1, 1) := by decide +kernel
theorem dX8_which_73 : decode cX8_which 73 = .ok (.iload_n 3, 1) := by decide +kernel
theorem dX8_which_74 : decode cX8_which 74 = .ok (.ifCond .eq 9, 3) := by decide +kernel
theorem dX8_which_77 : decode cX8_which 77 = .ok (.iconst 1, 1) := by decide +kernel
theorem dX8_which_78 : decode cX8_which 78 = .ok (.iload_n 2, 1) := by decide +kernel
theorem dX8_which_79 : decode cX8_which 79 = .ok (.ishl, 1) := by decide +kernel
theorem dX8_which_80 : decode cX8_which 80 = .ok (.goto 4, 3) := by decide +kernel
theorem dX8_which_83 : decode cX8_which 83 = .ok (.iconst 0, 1) := by decide +kernel
theorem dX8_which_84 : decode cX8_which 84 = .ok (.ior, 1) := by decide +kernel
theorem dX8_which_85 : decode cX8_which 85 = .ok (.istore_n 1, 1) := by decide +kernel
theorem dX8_which_86 : decode cX8_which 86 = .ok (.iinc 2 1, 3) := by decide +kernel
theorem dX8_which_89 : decode cX8_which 89 = .ok (.goto (-80), 3) := by decide +kernel
theorem dX8_which_92 : decode cX8_which 92 = .ok (.iload_n 1, 1) := by decide +kernel
theorem dX8_which_93 : decode cX8_which 93 = .ok (.ireturn, 1) := by decide +kernel
theorem dX8_divisor_0 : decode cX8_divisor 0 = .ok (.iload_n 0, 1) := by decide +kernel
theorem dX8_divisor_1 : decode cX8_divisor 1 = .ok (.ifCond .ge 8, 3) := by decide +kernel
theorem dX8_divisor_4 : decode cX8_divisor 4 = .ok (.iload_n 0, 1) := by decide +kernel
theorem dX8_divisor_5 : decode cX8_divisor 5 = .ok (.ineg, 1) := by decide +kernel
theorem dX8_divisor_6 : decode cX8_divisor 6 = .ok (.goto 4, 3) := by decide +kernel
theorem dX8_divisor_9 : decode cX8_divisor 9 = .ok (.iload_n 0, 1) := by decide +kernel
theorem dX8_divisor_10 : decode cX8_divisor 10 = .ok (.istore_n 2, 1) := by decide +kernel
theorem dX8_divisor_11 : decode cX8_divisor 11 = .ok (.iload_n 1, 1) := by decide +kernel
theorem dX8_divisor_12 : decode cX8_divisor 12 = .ok (.istore_n 3, 1) := by decide +kernel
theorem dX8_divisor_13 : decode cX8_divisor 13 = .ok (.iload_n 3, 1) := by decide +kernel
theorem dX8_divisor_14 : decode cX8_divisor 14 = .ok (.ifCond .eq 16, 3) := by decide +kernel
theorem dX8_divisor_17 : decode cX8_divisor 17 = .ok (.iload_n 2, 1) := by decide +kernel
theorem dX8_divisor_18 : decode cX8_divisor 18 = .ok (.iload_n 3, 1) := by decide +kernel
theorem dX8_divisor_19 : decode cX8_divisor 19 = .ok (.irem, 1) := by decide +kernel
theorem dX8_divisor_20 : decode cX8_divisor 20 = .ok (.istore 4, 2) := by decide +kernel
theorem dX8_divisor_22 : decode cX8_divisor 22 = .ok (.iload_n 3, 1) := by decide +kernel
theorem dX8_divisor_23 : decode cX8_divisor 23 = .ok (.istore_n 2, 1) := by decide +kernel
theorem dX8_divisor_24 : decode cX8_divisor 24 = .ok (.iload 4, 2) := by decide +kernel
theorem dX8_divisor_26 : decode cX8_divisor 26 = .ok (.istore_n 3, 1) := by decide +kernel
theorem dX8_divisor_27 : decode cX8_divisor 27 = .ok (.goto (-14), 3) := by decide +kernel
theorem dX8_divisor_30 : decode cX8_divisor 30 = .ok (.iload_n 2, 1) := by decide +kernel
theorem dX8_divisor_31 : decode cX8_divisor 31 = .ok (.ireturn, 1) := by decide +kernel
theorem dX8_fraction_0 : decode cX8_fraction 0 = .ok (.iload_n 0, 1) := by decide +kernel
theorem dX8_fraction_1 : decode cX8_fraction 1 = .ok (.iload_n 1, 1) := by decide +kernel
theorem dX8_fraction_2 : decode cX8_fraction 2 = .ok (.invokestatic 196, 3) := by decide +kernel
theorem dX8_fraction_5 : decode cX8_fraction 5 = .ok (.istore_n 3, 1) := by decide +kernel
theorem dX8_fraction_6 : decode cX8_fraction 6 = .ok (.iload_n 2, 1) := by decide +kernel
theorem dX8_fraction_7 : decode cX8_fraction 7 = .ok (.ifCond .eq 9, 3) := by decide +kernel
theorem dX8_fraction_10 : decode cX8_fraction 10 = .ok (.iload_n 0, 1) := by decide +kernel
theorem dX8_fraction_11 : decode cX8_fraction 11 = .ok (.iload_n 3, 1) := by decide +kernel
theorem dX8_fraction_12 : decode cX8_fraction 12 = .ok (.idiv, 1) := by decide +kernel
theorem dX8_fraction_13 : decode cX8_fraction 13 = .ok (.goto 6, 3) := by decide +kernel
theorem dX8_fraction_16 : decode cX8_fraction 16 = .ok (.iload_n 1, 1) := by decide +kernel
theorem dX8_fraction_17 : decode cX8_fraction 17 = .ok (.iload_n 3, 1) := by decide +kernel
theorem dX8_fraction_18 : decode cX8_fraction 18 = .ok (.idiv, 1) := by decide +kernel
theorem dX8_fraction_19 : decode cX8_fraction 19 = .ok (.ireturn, 1) := by decide +kernel
theorem dX8_factorial_0 : decode cX8_factorial 0 = .ok (.iconst 1, 1) := by decide +kernel
theorem dX8_factorial_1 : decode cX8_factorial 1 = .ok (.istore_n 1, 1) := by decide +kernel
theorem dX8_factorial_2 : decode cX8_factorial 2 = .ok (.iconst 2, 1) := by decide +kernel
theorem dX8_factorial_3 : decode cX8_factorial 3 = .ok (.istore_n 2, 1) := by decide +kernel
theorem dX8_factorial_4 : decode cX8_factorial 4 = .ok (.iload_n 2, 1) := by decide +kernel
theorem dX8_factorial_5 : decode cX8_factorial 5 = .ok (.iload_n 0, 1) := by decide +kernel
theorem dX8_factorial_6 : decode cX8_factorial 6 = .ok (.if_icmp .gt 13, 3) := by decide +kernel
theorem dX8_factorial_9 : decode cX8_factorial 9 = .ok (.iload_n 1, 1) := by decide +kernel
theorem dX8_factorial_10 : decode cX8_factorial 10 = .ok (.iload_n 2, 1) := by decide +kernel
theorem dX8_factorial_11 : decode cX8_factorial 11 = .ok (.imul, 1) := by decide +kernel
theorem dX8_factorial_12 : decode cX8_factorial 12 = .ok (.istore_n 1, 1) := by decide +kernel
theorem dX8_factorial_13 : decode cX8_factorial 13 = .ok (.iinc 2 1, 3) := by decide +kernel
theorem dX8_factorial_16 : decode cX8_factorial 16 = .ok (.goto (-12), 3) := by decide +kernel
theorem dX8_factorial_19 : decode cX8_factorial 19 = .ok (.iload_n 1, 1) := by decide +kernel
theorem dX8_factorial_20 : decode cX8_factorial 20 = .ok (.ireturn, 1) := by decide +kernel
theorem dX8_energyBy_0 : decode cX8_energyBy 0 = .ok (.aload_n 0, 1) := by decide +kernel
theorem dX8_energyBy_1 : decode cX8_energyBy 1 = .ok (.iload_n 1, 1) := by decide +kernel
theorem dX8_energyBy_2 : decode cX8_energyBy 2 = .ok (.iload_n 2, 1) := by decide +kernel
theorem dX8_energyBy_3 : decode cX8_energyBy 3 = .ok (.invokevirtual 167, 3) := by decide +kernel
theorem dX8_energyBy_6 : decode cX8_energyBy 6 = .ok (.aload_n 0, 1) := by decide +kernel
theorem dX8_energyBy_7 : decode cX8_energyBy 7 = .ok (.getfield 28, 3) := by decide +kernel
theorem dX8_energyBy_10 : decode cX8_energyBy 10 = .ok (.iconst 4, 1) := by decide +kernel
theorem dX8_energyBy_11 : decode cX8_energyBy 11 = .ok (.iaload, 1) := by decide +kernel
theorem dX8_energyBy_12 : decode cX8_energyBy 12 = .ok (.ireturn, 1) := by decide +kernel
theorem dX8_share_0 : decode cX8_share 0 = .ok (.aload_n 0, 1) := by decide +kernel
theorem dX8_share_1 : decode cX8_share 1 = .ok (.iconst 0, 1) := by decide +kernel
theorem dX8_share_2 : decode cX8_share 2 = .ok (.putfield 58, 3) := by decide +kernel
theorem dX8_share_5 : decode cX8_share 5 = .ok (.iload_n 1, 1) := by decide +kernel
theorem dX8_share_6 : decode cX8_share 6 = .ok (.i2l, 1) := by decide +kernel
theorem dX8_share_7 : decode cX8_share 7 = .ok (.lconst 0, 1) := by decide +kernel
theorem dX8_share_8 : decode cX8_share 8 = .ok (.ldc2_w 163, 3) := by decide +kernel
theorem dX8_share_11 : decode cX8_share 11 = .ok (.invokestatic 61, 3) := by decide +kernel
theorem dX8_share_14 : decode cX8_share 14 = .ok (.ifCond .ne 5, 3) := by decide +kernel
theorem dX8_share_17 : decode cX8_share 17 = .ok (.iconst (-1), 1) := by decide +kernel
theorem dX8_share_18 : decode cX8_share 18 = .ok (.ireturn, 1) := by decide +kernel
theorem dX8_share_19 : decode cX8_share 19 = .ok (.iconst 0, 1) := by decide +kernel
theorem dX8_share_20 : decode cX8_share 20 = .ok (.istore_n 3, 1) := by decide +kernel
theorem dX8_share_21 : decode cX8_share 21 = .ok (.iconst 0, 1) := by decide +kernel
theorem dX8_share_22 : decode cX8_share 22 = .ok (.istore 4, 2) := by decide +kernel
theorem dX8_share_24 : decode cX8_share 24 = .ok (.iload 4, 2) := by decide +kernel
theorem dX8_share_26 : decode cX8_share 26 = .ok (.bipush 8, 2) := by decide +kernel
theorem dX8_share_28 : decode cX8_share 28 = .ok (.if_icmp .ge 61, 3) := by decide +kernel
theorem dX8_share_31 : decode cX8_share 31 = .ok (.iload 4, 2) := by decide +kernel
theorem dX8_share_33 : decode cX8_share 33 = .ok (.iload_n 1, 1) := by decide +kernel
theorem dX8_share_34 : decode cX8_share 34 = .ok (.invokestatic 69, 3) := by decide +kernel
theorem dX8_share_37 : decode cX8_share 37 = .ok (.ifCond .ne 46, 3) := by decide +kernel
theorem dX8_share_40 : decode cX8_share 40 = .ok (.iload 4, 2) := by decide +kernel
theorem dX8_share_42 : decode cX8_share 42 = .ok (.invokestatic 200, 3) := by decide +kernel
theorem dX8_share_45 : decode cX8_share 45 = .ok (.istore 5, 2) := by decide +kernel
theorem dX8_share_47 : decode cX8_share 47 = .ok (.iload_n 3, 1) := by decide +kernel
theorem dX8_share_48 : decode cX8_share 48 = .ok (.iload 5, 2) := by decide +kernel
theorem dX8_share_50 : decode cX8_share 50 = .ok (.invokestatic 203, 3) := by decide +kernel
theorem dX8_share_53 : decode cX8_share 53 = .ok (.iconst 2, 1) := by decide +kernel
theorem dX8_share_54 : decode cX8_share 54 = .ok (.iload 5, 2) := by decide +kernel
theorem dX8_share_56 : decode cX8_share 56 = .ok (.isub, 1) := by decide +kernel
theorem dX8_share_57 : decode cX8_share 57 = .ok (.invokestatic 203, 3) := by decide +kernel
theorem dX8_share_60 : decode cX8_share 60 = .ok (.imul, 1) := by decide +kernel
theorem dX8_share_61 : decode cX8_share 61 = .ok (.aload_n 0, 1) := by decide +kernel
theorem dX8_share_62 : decode cX8_share 62 = .ok (.iload 4, 2) := by decide +kernel
theorem dX8_share_64 : decode cX8_share 64 = .ok (.iconst 0, 1) := by decide +kernel
theorem dX8_share_65 : decode cX8_share 65 = .ok (.invokevirtual 206, 3) := by decide +kernel
theorem dX8_share_68 : decode cX8_share 68 = .ok (.aload_n 0, 1) := by decide +kernel
theorem dX8_share_69 : decode cX8_share 69 = .ok (.iload 4, 2) := by decide +kernel
theorem dX8_share_71 : decode cX8_share 71 = .ok (.iconst 1, 1) := by decide +kernel
theorem dX8_share_72 : decode cX8_share 72 = .ok (.iload_n 1, 1) := by decide +kernel
theorem dX8_share_73 : decode cX8_share 73 = .ok (.ishl, 1) := by decide +kernel
theorem dX8_share_74 : decode cX8_share 74 = .ok (.ior, 1) := by decide +kernel
theorem dX8_share_75 : decode cX8_share 75 = .ok (.iconst 0, 1) := by decide +kernel
theorem dX8_share_76 : decode cX8_share 76 = .ok (.invokevirtual 206, 3) := by decide +kernel
theorem dX8_share_79 : decode cX8_share 79 = .ok (.isub, 1) := by decide +kernel
theorem dX8_share_80 : decode cX8_share 80 = .ok (.imul, 1) := by decide +kernel
theorem dX8_share_81 : decode cX8_share 81 = .ok (.iadd, 1) := by decide +kernel
theorem dX8_share_82 : decode cX8_share 82 = .ok (.istore_n 3, 1) := by decide +kernel
theorem dX8_share_83 : decode cX8_share 83 = .ok (.iinc 4 1, 3) := by decide +kernel
theorem dX8_share_86 : decode cX8_share 86 = .ok (.goto (-62), 3) := by decide +kernel
theorem dX8_share_89 : decode cX8_share 89 = .ok (.iload_n 3, 1) := by decide +kernel
theorem dX8_share_90 : decode cX8_share 90 = .ok (.bipush 6, 2) := by decide +kernel
theorem dX8_share_92 : decode cX8_share 92 = .ok (.iload_n 2, 1) := by decide +kernel
theorem dX8_share_93 : decode cX8_share 93 = .ok (.invokestatic 209, 3) := by decide +kernel
theorem dX8_share_96 : decode cX8_share 96 = .ok (.ireturn, 1) := by decide +kernel
theorem dX8_luck_0 : decode cX8_luck 0 = .ok (.aload_n 0, 1) := by decide +kernel
theorem dX8_luck_1 : decode cX8_luck 1 = .ok (.iconst 0, 1) := by decide +kernel
theorem dX8_luck_2 : decode cX8_luck 2 = .ok (.putfield 58, 3) := by decide +kernel
theorem dX8_luck_5 : decode cX8_luck 5 = .ok (.iload_n 1, 1) := by decide +kernel
theorem dX8_luck_6 : decode cX8_luck 6 = .ok (.i2l, 1) := by decide +kernel
theorem dX8_luck_7 : decode cX8_luck 7 = .ok (.lconst 0, 1) := by decide +kernel
theorem dX8_luck_8 : decode cX8_luck 8 = .ok (.ldc2_w 213, 3) := by decide +kernel
theorem dX8_luck_11 : decode cX8_luck 11 = .ok (.invokestatic 61, 3) := by decide +kernel
theorem dX8_luck_14 : decode cX8_luck 14 = .ok (.ifCond .eq 27, 3) := by decide +kernel
theorem dX8_luck_17 : decode cX8_luck 17 = .ok (.iload_n 2, 1) := by decide +kernel
theorem dX8_luck_18 : decode cX8_luck 18 = .ok (.i2l, 1) := by decide +kernel
theorem dX8_luck_19 : decode cX8_luck 19 = .ok (.lconst 0, 1) := by decide +kernel
theorem dX8_luck_20 : decode cX8_luck 20 = .ok (.ldc2_w 215, 3) := by decide +kernel
theorem dX8_luck_23 : decode cX8_luck 23 = .ok (.invokestatic 61, 3) := by decide +kernel
theorem dX8_luck_26 : decode cX8_luck 26 = .ok (.ifCond .eq 15, 3) := by decide +kernel
theorem dX8_luck_29 : decode cX8_luck 29 = .ok (.iload_n 3, 1) := by decide +kernel
theorem dX8_luck_30 : decode cX8_luck 30 = .ok (.i2l, 1) := by decide +kernel
theorem dX8_luck_31 : decode cX8_luck 31 = .ok (.lconst 0, 1) := by decide +kernel
theorem dX8_luck_32 : decode cX8_luck 32 = .ok (.ldc2_w 217, 3) := by decide +kernel
theorem dX8_luck_35 : decode cX8_luck 35 = .ok (.invokestatic 61, 3) := by decide +kernel
theorem dX8_luck_38 : decode cX8_luck 38 = .ok (.ifCond .ne 6, 3) := by decide +kernel
theorem dX8_luck_41 : decode cX8_luck 41 = .ok (.bipush (-2), 2) := by decide +kernel
theorem dX8_luck_43 : decode cX8_luck 43 = .ok (.ireturn, 1) := by decide +kernel
theorem dX8_luck_44 : decode cX8_luck 44 = .ok (.aload_n 0, 1) := by decide +kernel
theorem dX8_luck_45 : decode cX8_luck 45 = .ok (.invokevirtual 171, 3) := by decide +kernel
theorem dX8_luck_48 : decode cX8_luck 48 = .ok (.iload_n 1, 1) := by decide +kernel
theorem dX8_luck_49 : decode cX8_luck 49 = .ok (.if_icmp .ge 10, 3) := by decide +kernel
theorem dX8_luck_52 : decode cX8_luck 52 = .ok (.aload_n 0, 1) := by decide +kernel
theorem dX8_luck_53 : decode cX8_luck 53 = .ok (.invokevirtual 171, 3) := by decide +kernel
theorem dX8_luck_56 : decode cX8_luck 56 = .ok (.goto 4, 3) := by decide +kernel
theorem dX8_luck_59 : decode cX8_luck 59 = .ok (.iload_n 1, 1) := by decide +kernel
theorem dX8_luck_60 : decode cX8_luck 60 = .ok (.istore 5, 2) := by decide +kernel
theorem dX8_luck_62 : decode cX8_luck 62 = .ok (.iconst 0, 1) := by decide +kernel
theorem dX8_luck_63 : decode cX8_luck 63 = .ok (.istore 6, 2) := by decide +kernel
theorem dX8_luck_65 : decode cX8_luck 65 = .ok (.iconst 0, 1) := by decide +kernel
theorem dX8_luck_66 : decode cX8_luck 66 = .ok (.istore 7, 2) := by decide +kernel
theorem dX8_luck_68 : decode cX8_luck 68 = .ok (.iload 7, 2) := by decide +kernel
theorem dX8_luck_70 : decode cX8_luck 70 = .ok (.iconst 1, 1) := by decide +kernel
theorem dX8_luck_71 : decode cX8_luck 71 = .ok (.iload 5, 2) := by decide +kernel
theorem dX8_luck_73 : decode cX8_luck 73 = .ok (.ishl, 1) := by decide +kernel
theorem dX8_luck_74 : decode cX8_luck 74 = .ok (.if_icmp .ge 55, 3) := by decide +kernel
theorem dX8_luck_77 : decode cX8_luck 77 = .ok (.iload 6, 2) := by decide +kernel
theorem dX8_luck_79 : decode cX8_luck 79 = .ok (.aload_n 0, 1) := by decide +kernel
theorem dX8_luck_80 : decode cX8_luck 80 = .ok (.bipush 7, 2) := by decide +kernel
theorem dX8_luck_82 : decode cX8_luck 82 = .ok (.iload 7, 2) := by decide +kernel
theorem dX8_luck_84 : decode cX8_luck 84 = .ok (.invokevirtual 206, 3) := by decide +kernel
theorem dX8_luck_87 : decode cX8_luck 87 = .ok (.iload_n 2, 1) := by decide +kernel
theorem dX8_luck_88 : decode cX8_luck 88 = .ok (.if_icmp .gt 31, 3) := by decide +kernel
theorem dX8_luck_91 : decode cX8_luck 91 = .ok (.iload_n 3, 1) := by decide +kernel
theorem dX8_luck_92 : decode cX8_luck 92 = .ok (.iload 7, 2) := by decide +kernel
theorem dX8_luck_94 : decode cX8_luck 94 = .ok (.invokestatic 200, 3) := by decide +kernel
theorem dX8_luck_97 : decode cX8_luck 97 = .ok (.invokestatic 219, 3) := by decide +kernel
theorem dX8_luck_100 : decode cX8_luck 100 = .ok (.bipush 10, 2) := by decide +kernel
theorem dX8_luck_102 : decode cX8_luck 102 = .ok (.iload_n 3, 1) := by decide +kernel
theorem dX8_luck_103 : decode cX8_luck 103 = .ok (.isub, 1) := by decide +kernel
theorem dX8_luck_104 : decode cX8_luck 104 = .ok (.iload 5, 2) := by decide +kernel
theorem dX8_luck_106 : decode cX8_luck 106 = .ok (.iload 7, 2) := by decide +kernel
theorem dX8_luck_108 : decode cX8_luck 108 = .ok (.invokestatic 200, 3) := by decide +kernel
theorem dX8_luck_111 : decode cX8_luck 111 = .ok (.isub, 1) := by decide +kernel
theorem dX8_luck_112 : decode cX8_luck 112 = .ok (.invokestatic 219, 3) := by decide +kernel
theorem dX8_luck_115 : decode cX8_luck 115 = .ok (.imul, 1) := by decide +kernel
theorem dX8_luck_116 : decode cX8_luck 116 = .ok (.goto 4, 3) := by decide +kernel
theorem dX8_luck_119 : decode cX8_luck 119 = .ok (.iconst 0, 1) := by decide +kernel
theorem dX8_luck_120 : decode cX8_luck 120 = .ok (.iadd, 1) := by decide +kernel
theorem dX8_luck_121 : decode cX8_luck 121 = .ok (.istore 6, 2) := by decide +kernel
theorem dX8_luck_123 : decode cX8_luck 123 = .ok (.iinc 7 1, 3) := by decide +kernel
theorem dX8_luck_126 : decode cX8_luck 126 = .ok (.goto (-58), 3) := by decide +kernel
theorem dX8_luck_129 : decode cX8_luck 129 = .ok (.iload 6, 2) := by decide +kernel
theorem dX8_luck_131 : decode cX8_luck 131 = .ok (.bipush 10, 2) := by decide +kernel
theorem dX8_luck_133 : decode cX8_luck 133 = .ok (.iload 5, 2) := by decide +kernel
theorem dX8_luck_135 : decode cX8_luck 135 = .ok (.invokestatic 219, 3) := by decide +kernel
theorem dX8_luck_138 : decode cX8_luck 138 = .ok (.iload 4, 2) := by decide +kernel
theorem dX8_luck_140 : decode cX8_luck 140 = .ok (.invokestatic 209, 3) := by decide +kernel
theorem dX8_luck_143 : decode cX8_luck 143 = .ok (.ireturn, 1) := by decide +kernel
theorem dX8_seed_0 : decode cX8_seed 0 = .ok (.aload_n 0, 1) := by decide +kernel
theorem dX8_seed_1 : decode cX8_seed 1 = .ok (.iconst 0, 1) := by decide +kernel
theorem dX8_seed_2 : decode cX8_seed 2 = .ok (.putfield 58, 3) := by decide +kernel
theorem dX8_seed_5 : decode cX8_seed 5 = .ok (.aload_n 0, 1) := by decide +kernel
theorem dX8_seed_6 : decode cX8_seed 6 = .ok (.getfield 222, 3) := by decide +kernel
theorem dX8_seed_9 : decode cX8_seed 9 = .ok (.lstore_n 3, 1) := by decide +kernel
theorem dX8_seed_10 : decode cX8_seed 10 = .ok (.aload_n 0, 1) := by decide +kernel
theorem dX8_seed_11 : decode cX8_seed 11 = .ok (.lload_n 1, 1) := by decide +kernel
theorem dX8_seed_12 : decode cX8_seed 12 = .ok (.putfield 222, 3) := by decide +kernel
theorem dX8_seed_15 : decode cX8_seed 15 = .ok (.lload_n 3, 1) := by decide +kernel
theorem dX8_seed_16 : decode cX8_seed 16 = .ok (.lreturn, 1) := by decide +kernel
theorem dX8_drawn_0 : decode cX8_drawn 0 = .ok (.aload_n 0, 1) := by decide +kernel
theorem dX8_drawn_1 : decode cX8_drawn 1 = .ok (.iconst 0, 1) := by decide +kernel
theorem dX8_drawn_2 : decode cX8_drawn 2 = .ok (.putfield 58, 3) := by decide +kernel
theorem dX8_drawn_5 : decode cX8_drawn 5 = .ok (.iload_n 1, 1) := by decide +kernel
theorem dX8_drawn_6 : decode cX8_drawn 6 = .ok (.i2l, 1) := by decide +kernel
theorem dX8_drawn_7 : decode cX8_drawn 7 = .ok (.lconst 1, 1) := by decide +kernel
theorem dX8_drawn_8 : decode cX8_drawn 8 = .ok (.ldc2_w 226, 3) := by decide +kernel
theorem dX8_drawn_11 : decode cX8_drawn 11 = .ok (.invokestatic 61, 3) := by decide +kernel
theorem dX8_drawn_14 : decode cX8_drawn 14 = .ok (.ifCond .ne 6, 3) := by decide +kernel
theorem dX8_drawn_17 : decode cX8_drawn 17 = .ok (.bipush (-2), 2) := by decide +kernel
theorem dX8_drawn_19 : decode cX8_drawn 19 = .ok (.ireturn, 1) := by decide +kernel
theorem dX8_drawn_20 : decode cX8_drawn 20 = .ok (.aload_n 0, 1) := by decide +kernel
theorem dX8_drawn_21 : decode cX8_drawn 21 = .ok (.getfield 19, 3) := by decide +kernel
theorem dX8_drawn_24 : decode cX8_drawn 24 = .ok (.aload_n 0, 1) := by decide +kernel
theorem dX8_drawn_25 : decode cX8_drawn 25 = .ok (.getfield 28, 3) := by decide +kernel
theorem dX8_drawn_28 : decode cX8_drawn 28 = .ok (.invokestatic 89, 3) := by decide +kernel
theorem dX8_drawn_31 : decode cX8_drawn 31 = .ok (.iconst 0, 1) := by decide +kernel
theorem dX8_drawn_32 : decode cX8_drawn 32 = .ok (.istore_n 2, 1) := by decide +kernel
theorem dX8_drawn_33 : decode cX8_drawn 33 = .ok (.iload_n 2, 1) := by decide +kernel
theorem dX8_drawn_34 : decode cX8_drawn 34 = .ok (.iload_n 1, 1) := by decide +kernel
theorem dX8_drawn_35 : decode cX8_drawn 35 = .ok (.if_icmp .ge 74, 3) := by decide +kernel
theorem dX8_drawn_38 : decode cX8_drawn 38 = .ok (.aload_n 0, 1) := by decide +kernel
theorem dX8_drawn_39 : decode cX8_drawn 39 = .ok (.aload_n 0, 1) := by decide +kernel
theorem dX8_drawn_40 : decode cX8_drawn 40 = .ok (.getfield 222, 3) := by decide +kernel
theorem dX8_drawn_43 : decode cX8_drawn 43 = .ok (.ldc2_w 228, 3) := by decide +kernel
theorem dX8_drawn_46 : decode cX8_drawn 46 = .ok (.lmul, 1) := by decide +kernel
theorem dX8_drawn_47 : decode cX8_drawn 47 = .ok (.ldc2_w 230, 3) := by decide +kernel
theorem dX8_drawn_50 : decode cX8_drawn 50 = .ok (.ladd, 1) := by decide +kernel
theorem dX8_drawn_51 : decode cX8_drawn 51 = .ok (.putfield 222, 3) := by decide +kernel
theorem dX8_drawn_54 : decode cX8_drawn 54 = .ok (.aload_n 0, 1) := by decide +kernel
theorem dX8_drawn_55 : decode cX8_drawn 55 = .ok (.getfield 222, 3) := by decide +kernel
theorem dX8_drawn_58 : decode cX8_drawn 58 = .ok (.bipush 33, 2) := by decide +kernel
theorem dX8_drawn_60 : decode cX8_drawn 60 = .ok (.lushr, 1) := by decide +kernel
theorem dX8_drawn_61 : decode cX8_drawn 61 = .ok (.l2i, 1) := by decide +kernel
theorem dX8_drawn_62 : decode cX8_drawn 62 = .ok (.istore_n 3, 1) := by decide +kernel
theorem dX8_drawn_63 : decode cX8_drawn 63 = .ok (.iload_n 3, 1) := by decide +kernel
theorem dX8_drawn_64 : decode cX8_drawn 64 = .ok (.iconst 2, 1) := by decide +kernel
theorem dX8_drawn_65 : decode cX8_drawn 65 = .ok (.idiv, 1) := by decide +kernel
theorem dX8_drawn_66 : decode cX8_drawn 66 = .ok (.iconst 4, 1) := by decide +kernel
theorem dX8_drawn_67 : decode cX8_drawn 67 = .ok (.irem, 1) := by decide +kernel
theorem dX8_drawn_68 : decode cX8_drawn 68 = .ok (.ifCond .ne 27, 3) := by decide +kernel
theorem dX8_drawn_71 : decode cX8_drawn 71 = .ok (.aload_n 0, 1) := by decide +kernel
theorem dX8_drawn_72 : decode cX8_drawn 72 = .ok (.getfield 28, 3) := by decide +kernel
theorem dX8_drawn_75 : decode cX8_drawn 75 = .ok (.iload_n 3, 1) := by decide +kernel
theorem dX8_drawn_76 : decode cX8_drawn 76 = .ok (.iconst 2, 1) := by decide +kernel
theorem dX8_drawn_77 : decode cX8_drawn 77 = .ok (.irem, 1) := by decide +kernel
theorem dX8_drawn_78 : decode cX8_drawn 78 = .ok (.invokestatic 123, 3) := by decide +kernel
theorem dX8_drawn_81 : decode cX8_drawn 81 = .ok (.ifCond .ne 14, 3) := by decide +kernel
theorem dX8_drawn_84 : decode cX8_drawn 84 = .ok (.aload_n 0, 1) := by decide +kernel
theorem dX8_drawn_85 : decode cX8_drawn 85 = .ok (.getfield 28, 3) := by decide +kernel
theorem dX8_drawn_88 : decode cX8_drawn 88 = .ok (.iload_n 3, 1) := by decide +kernel
theorem dX8_drawn_89 : decode cX8_drawn 89 = .ok (.iconst 2, 1) := by decide +kernel
theorem dX8_drawn_90 : decode cX8_drawn 90 = .ok (.irem, 1) := by decide +kernel
theorem dX8_drawn_91 : decode cX8_drawn 91 = .ok (.iconst 0, 1) := by decide +kernel
theorem dX8_drawn_92 : decode cX8_drawn 92 = .ok (.invokestatic 126, 3) := by decide +kernel
theorem dX8_drawn_95 : decode cX8_drawn 95 = .ok (.aload_n 0, 1) := by decide +kernel
theorem dX8_drawn_96 : decode cX8_drawn 96 = .ok (.aload_n 0, 1) := by decide +kernel
theorem dX8_drawn_97 : decode cX8_drawn 97 = .ok (.getfield 28, 3) := by decide +kernel
theorem dX8_drawn_100 : decode cX8_drawn 100 = .ok (.invokevirtual 96, 3) := by decide +kernel
theorem dX8_drawn_103 : decode cX8_drawn 103 = .ok (.iinc 2 1, 3) := by decide +kernel
theorem dX8_drawn_106 : decode cX8_drawn 106 = .ok (.goto (-73), 3) := by decide +kernel
theorem dX8_drawn_109 : decode cX8_drawn 109 = .ok (.aload_n 0, 1) := by decide +kernel
theorem dX8_drawn_110 : decode cX8_drawn 110 = .ok (.getfield 28, 3) := by decide +kernel
theorem dX8_drawn_113 : decode cX8_drawn 113 = .ok (.bipush 6, 2) := by decide +kernel
theorem dX8_drawn_115 : decode cX8_drawn 115 = .ok (.iaload, 1) := by decide +kernel
theorem dX8_drawn_116 : decode cX8_drawn 116 = .ok (.aload_n 0, 1) := by decide +kernel
theorem dX8_drawn_117 : decode cX8_drawn 117 = .ok (.getfield 19, 3) := by decide +kernel
theorem dX8_drawn_120 : decode cX8_drawn 120 = .ok (.bipush 6, 2) := by decide +kernel
theorem dX8_drawn_122 : decode cX8_drawn 122 = .ok (.iaload, 1) := by decide +kernel
theorem dX8_drawn_123 : decode cX8_drawn 123 = .ok (.isub, 1) := by decide +kernel
theorem dX8_drawn_124 : decode cX8_drawn 124 = .ok (.ireturn, 1) := by decide +kernel
theorem dX8_keep_0 : decode cX8_keep 0 = .ok (.aload_n 0, 1) := by decide +kernel
theorem dX8_keep_1 : decode cX8_keep 1 = .ok (.iconst 0, 1) := by decide +kernel
theorem dX8_keep_2 : decode cX8_keep 2 = .ok (.putfield 58, 3) := by decide +kernel
theorem dX8_keep_5 : decode cX8_keep 5 = .ok (.iload_n 1, 1) := by decide +kernel
theorem dX8_keep_6 : decode cX8_keep 6 = .ok (.i2l, 1) := by decide +kernel
theorem dX8_keep_7 : decode cX8_keep 7 = .ok (.lconst 0, 1) := by decide +kernel
theorem dX8_keep_8 : decode cX8_keep 8 = .ok (.lconst 1, 1) := by decide +kernel
theorem dX8_keep_9 : decode cX8_keep 9 = .ok (.invokestatic 61, 3) := by decide +kernel
theorem dX8_keep_12 : decode cX8_keep 12 = .ok (.ifCond .ne 5, 3) := by decide +kernel
theorem dX8_keep_15 : decode cX8_keep 15 = .ok (.iconst (-1), 1) := by decide +kernel
theorem dX8_keep_16 : decode cX8_keep 16 = .ok (.ireturn, 1) := by decide +kernel
theorem dX8_keep_17 : decode cX8_keep 17 = .ok (.aload_n 0, 1) := by decide +kernel
theorem dX8_keep_18 : decode cX8_keep 18 = .ok (.getfield 37, 3) := by decide +kernel
theorem dX8_keep_21 : decode cX8_keep 21 = .ok (.iload_n 1, 1) := by decide +kernel
theorem dX8_keep_22 : decode cX8_keep 22 = .ok (.iconst 1, 1) := by decide +kernel
theorem dX8_keep_23 : decode cX8_keep 23 = .ok (.bastore, 1) := by decide +kernel
theorem dX8_keep_24 : decode cX8_keep 24 = .ok (.iconst 0, 1) := by decide +kernel
theorem dX8_keep_25 : decode cX8_keep 25 = .ok (.istore_n 2, 1) := by decide +kernel
theorem dX8_keep_26 : decode cX8_keep 26 = .ok (.iload_n 2, 1) := by decide +kernel
theorem dX8_keep_27 : decode cX8_keep 27 = .ok (.bipush 39, 2) := by decide +kernel
theorem dX8_keep_29 : decode cX8_keep 29 = .ok (.if_icmp .ge 26, 3) := by decide +kernel
theorem dX8_keep_32 : decode cX8_keep 32 = .ok (.aload_n 0, 1) := by decide +kernel
theorem dX8_keep_33 : decode cX8_keep 33 = .ok (.getfield 34, 3) := by decide +kernel
theorem dX8_keep_36 : decode cX8_keep 36 = .ok (.bipush 39, 2) := by decide +kernel
theorem dX8_keep_38 : decode cX8_keep 38 = .ok (.iload_n 1, 1) := by decide +kernel
theorem dX8_keep_39 : decode cX8_keep 39 = .ok (.imul, 1) := by decide +kernel
theorem dX8_keep_40 : decode cX8_keep 40 = .ok (.iload_n 2, 1) := by decide +kernel
theorem dX8_keep_41 : decode cX8_keep 41 = .ok (.iadd, 1) := by decide +kernel
theorem dX8_keep_42 : decode cX8_keep 42 = .ok (.aload_n 0, 1) := by decide +kernel
theorem dX8_keep_43 : decode cX8_keep 43 = .ok (.getfield 19, 3) := by decide +kernel
theorem dX8_keep_46 : decode cX8_keep 46 = .ok (.iload_n 2, 1) := by decide +kernel
theorem dX8_keep_47 : decode cX8_keep 47 = .ok (.iaload, 1) := by decide +kernel
theorem dX8_keep_48 : decode cX8_keep 48 = .ok (.iastore, 1) := by decide +kernel
theorem dX8_keep_49 : decode cX8_keep 49 = .ok (.iinc 2 1, 3) := by decide +kernel
theorem dX8_keep_52 : decode cX8_keep 52 = .ok (.goto (-26), 3) := by decide +kernel
theorem dX8_keep_55 : decode cX8_keep 55 = .ok (.aload_n 0, 1) := by decide +kernel
theorem dX8_keep_56 : decode cX8_keep 56 = .ok (.getfield 19, 3) := by decide +kernel
theorem dX8_keep_59 : decode cX8_keep 59 = .ok (.iconst 3, 1) := by decide +kernel
theorem dX8_keep_60 : decode cX8_keep 60 = .ok (.iaload, 1) := by decide +kernel
theorem dX8_keep_61 : decode cX8_keep 61 = .ok (.ireturn, 1) := by decide +kernel
theorem dX8_again_0 : decode cX8_again 0 = .ok (.aload_n 0, 1) := by decide +kernel
theorem dX8_again_1 : decode cX8_again 1 = .ok (.iconst 0, 1) := by decide +kernel
theorem dX8_again_2 : decode cX8_again 2 = .ok (.putfield 58, 3) := by decide +kernel
theorem dX8_again_5 : decode cX8_again 5 = .ok (.iload_n 1, 1) := by decide +kernel
theorem dX8_again_6 : decode cX8_again 6 = .ok (.i2l, 1) := by decide +kernel
theorem dX8_again_7 : decode cX8_again 7 = .ok (.lconst 0, 1) := by decide +kernel
theorem dX8_again_8 : decode cX8_again 8 = .ok (.lconst 1, 1) := by decide +kernel
theorem dX8_again_9 : decode cX8_again 9 = .ok (.invokestatic 61, 3) := by decide +kernel
theorem dX8_again_12 : decode cX8_again 12 = .ok (.ifCond .ne 5, 3) := by decide +kernel
theorem dX8_again_15 : decode cX8_again 15 = .ok (.iconst (-1), 1) := by decide +kernel
theorem dX8_again_16 : decode cX8_again 16 = .ok (.ireturn, 1) := by decide +kernel
theorem dX8_again_17 : decode cX8_again 17 = .ok (.aload_n 0, 1) := by decide +kernel
theorem dX8_again_18 : decode cX8_again 18 = .ok (.getfield 37, 3) := by decide +kernel
theorem dX8_again_21 : decode cX8_again 21 = .ok (.iload_n 1, 1) := by decide +kernel
theorem dX8_again_22 : decode cX8_again 22 = .ok (.baload, 1) := by decide +kernel
theorem dX8_again_23 : decode cX8_again 23 = .ok (.ifCond .ne 6, 3) := by decide +kernel
theorem dX8_again_26 : decode cX8_again 26 = .ok (.bipush (-3), 2) := by decide +kernel
theorem dX8_again_28 : decode cX8_again 28 = .ok (.ireturn, 1) := by decide +kernel
theorem dX8_again_29 : decode cX8_again 29 = .ok (.iconst 0, 1) := by decide +kernel
theorem dX8_again_30 : decode cX8_again 30 = .ok (.istore_n 2, 1) := by decide +kernel
theorem dX8_again_31 : decode cX8_again 31 = .ok (.iload_n 2, 1) := by decide +kernel
theorem dX8_again_32 : decode cX8_again 32 = .ok (.bipush 39, 2) := by decide +kernel
theorem dX8_again_34 : decode cX8_again 34 = .ok (.if_icmp .ge 26, 3) := by decide +kernel
theorem dX8_again_37 : decode cX8_again 37 = .ok (.aload_n 0, 1) := by decide +kernel
theorem dX8_again_38 : decode cX8_again 38 = .ok (.getfield 19, 3) := by decide +kernel
theorem dX8_again_41 : decode cX8_again 41 = .ok (.iload_n 2, 1) := by decide +kernel
theorem dX8_again_42 : decode cX8_again 42 = .ok (.aload_n 0, 1) := by decide +kernel
theorem dX8_again_43 : decode cX8_again 43 = .ok (.getfield 34, 3) := by decide +kernel
theorem dX8_again_46 : decode cX8_again 46 = .ok (.bipush 39, 2) := by decide +kernel
theorem dX8_again_48 : decode cX8_again 48 = .ok (.iload_n 1, 1) := by decide +kernel
theorem dX8_again_49 : decode cX8_again 49 = .ok (.imul, 1) := by decide +kernel
theorem dX8_again_50 : decode cX8_again 50 = .ok (.iload_n 2, 1) := by decide +kernel
theorem dX8_again_51 : decode cX8_again 51 = .ok (.iadd, 1) := by decide +kernel
theorem dX8_again_52 : decode cX8_again 52 = .ok (.iaload, 1) := by decide +kernel
theorem dX8_again_53 : decode cX8_again 53 = .ok (.iastore, 1) := by decide +kernel
theorem dX8_again_54 : decode cX8_again 54 = .ok (.iinc 2 1, 3) := by decide +kernel
theorem dX8_again_57 : decode cX8_again 57 = .ok (.goto (-26), 3) := by decide +kernel
theorem dX8_again_60 : decode cX8_again 60 = .ok (.aload_n 0, 1) := by decide +kernel
theorem dX8_again_61 : decode cX8_again 61 = .ok (.iconst 0, 1) := by decide +kernel
theorem dX8_again_62 : decode cX8_again 62 = .ok (.putfield 136, 3) := by decide +kernel
theorem dX8_again_65 : decode cX8_again 65 = .ok (.aload_n 0, 1) := by decide +kernel
theorem dX8_again_66 : decode cX8_again 66 = .ok (.getfield 19, 3) := by decide +kernel
theorem dX8_again_69 : decode cX8_again 69 = .ok (.iconst 3, 1) := by decide +kernel
theorem dX8_again_70 : decode cX8_again 70 = .ok (.iaload, 1) := by decide +kernel
theorem dX8_again_71 : decode cX8_again 71 = .ok (.ireturn, 1) := by decide +kernel
theorem dX8_count_0 : decode cX8_count 0 = .ok (.aload_n 0, 1) := by decide +kernel
theorem dX8_count_1 : decode cX8_count 1 = .ok (.iconst 0, 1) := by decide +kernel
theorem dX8_count_2 : decode cX8_count 2 = .ok (.putfield 58, 3) := by decide +kernel
theorem dX8_count_5 : decode cX8_count 5 = .ok (.iload_n 1, 1) := by decide +kernel
theorem dX8_count_6 : decode cX8_count 6 = .ok (.tableswitch 74 0 5 #[38, 43, 51, 59, 64, 69], 38) := by decide +kernel
theorem dX8_count_44 : decode cX8_count 44 = .ok (.aload_n 0, 1) := by decide +kernel
theorem dX8_count_45 : decode cX8_count 45 = .ok (.getfield 101, 3) := by decide +kernel
theorem dX8_count_48 : decode cX8_count 48 = .ok (.ireturn, 1) := by decide +kernel
theorem dX8_count_49 : decode cX8_count 49 = .ok (.aload_n 0, 1) := by decide +kernel
theorem dX8_count_50 : decode cX8_count 50 = .ok (.getfield 19, 3) := by decide +kernel
theorem dX8_count_53 : decode cX8_count 53 = .ok (.bipush 9, 2) := by decide +kernel
theorem dX8_count_55 : decode cX8_count 55 = .ok (.iaload, 1) := by decide +kernel
theorem dX8_count_56 : decode cX8_count 56 = .ok (.ireturn, 1) := by decide +kernel
theorem dX8_count_57 : decode cX8_count 57 = .ok (.aload_n 0, 1) := by decide +kernel
theorem dX8_count_58 : decode cX8_count 58 = .ok (.getfield 19, 3) := by decide +kernel
theorem dX8_count_61 : decode cX8_count 61 = .ok (.bipush 10, 2) := by decide +kernel
theorem dX8_count_63 : decode cX8_count 63 = .ok (.iaload, 1) := by decide +kernel
theorem dX8_count_64 : decode cX8_count 64 = .ok (.ireturn, 1) := by decide +kernel
theorem dX8_count_65 : decode cX8_count 65 = .ok (.aload_n 0, 1) := by decide +kernel
theorem dX8_count_66 : decode cX8_count 66 = .ok (.getfield 130, 3) := by decide +kernel
theorem dX8_count_69 : decode cX8_count 69 = .ok (.ireturn, 1) := by decide +kernel
theorem dX8_count_70 : decode cX8_count 70 = .ok (.aload_n 0, 1) := by decide +kernel
theorem dX8_count_71 : decode cX8_count 71 = .ok (.getfield 136, 3) := by decide +kernel
theorem dX8_count_74 : decode cX8_count 74 = .ok (.ireturn, 1) := by decide +kernel
theorem dX8_count_75 : decode cX8_count 75 = .ok (.aload_n 0, 1) := by decide +kernel
theorem dX8_count_76 : decode cX8_count 76 = .ok (.getfield 186, 3) := by decide +kernel
theorem dX8_count_79 : decode cX8_count 79 = .ok (.ireturn, 1) := by decide +kernel
theorem dX8_count_80 : decode cX8_count 80 = .ok (.bipush (-2), 2) := by decide +kernel
theorem dX8_count_82 : decode cX8_count 82 = .ok (.ireturn, 1) := by decide +kernel
