theorem dX0_init_0 : decode cX0_init 0 = .ok (.aload_n 0, 1) := by decide +kernel
theorem dX0_init_1 : decode cX0_init 1 = .ok (.invokespecial 3, 3) := by decide +kernel
theorem dX0_init_4 : decode cX0_init 4 = .ok (.aload_n 0, 1) := by decide +kernel
theorem dX0_init_5 : decode cX0_init 5 = .ok (.bipush 14, 2) := by decide +kernel
theorem dX0_init_7 : decode cX0_init 7 = .ok (.anewarray 9, 3) := by decide +kernel
theorem dX0_init_10 : decode cX0_init 10 = .ok (.putfield 11, 3) := by decide +kernel
theorem dX0_init_13 : decode cX0_init 13 = .ok (.iconst 0, 1) := by decide +kernel
theorem dX0_init_14 : decode cX0_init 14 = .ok (.istore_n 1, 1) := by decide +kernel
theorem dX0_init_15 : decode cX0_init 15 = .ok (.iload_n 1, 1) := by decide +kernel
theorem dX0_init_16 : decode cX0_init 16 = .ok (.aload_n 0, 1) := by decide +kernel
theorem dX0_init_17 : decode cX0_init 17 = .ok (.getfield 11, 3) := by decide +kernel
theorem dX0_init_20 : decode cX0_init 20 = .ok (.arraylength, 1) := by decide +kernel
theorem dX0_init_21 : decode cX0_init 21 = .ok (.if_icmp .ge 22, 3) := by decide +kernel
theorem dX0_init_24 : decode cX0_init 24 = .ok (.aload_n 0, 1) := by decide +kernel
theorem dX0_init_25 : decode cX0_init 25 = .ok (.getfield 11, 3) := by decide +kernel
theorem dX0_init_28 : decode cX0_init 28 = .ok (.iload_n 1, 1) := by decide +kernel
theorem dX0_init_29 : decode cX0_init 29 = .ok (.new 9, 3) := by decide +kernel
theorem dX0_init_32 : decode cX0_init 32 = .ok (.dup, 1) := by decide +kernel
theorem dX0_init_33 : decode cX0_init 33 = .ok (.invokespecial 17, 3) := by decide +kernel
theorem dX0_init_36 : decode cX0_init 36 = .ok (.aastore, 1) := by decide +kernel
theorem dX0_init_37 : decode cX0_init 37 = .ok (.iinc 1 1, 3) := by decide +kernel
theorem dX0_init_40 : decode cX0_init 40 = .ok (.goto (-25), 3) := by decide +kernel
theorem dX0_init_43 : decode cX0_init 43 = .ok (.aload_n 0, 1) := by decide +kernel
theorem dX0_init_44 : decode cX0_init 44 = .ok (.iconst 0, 1) := by decide +kernel
theorem dX0_init_45 : decode cX0_init 45 = .ok (.putfield 18, 3) := by decide +kernel
theorem dX0_init_48 : decode cX0_init 48 = .ok (.return_, 1) := by decide +kernel
theorem dX0_add_0 : decode cX0_add 0 = .ok (.aload_n 0, 1) := by decide +kernel
theorem dX0_add_1 : decode cX0_add 1 = .ok (.getfield 18, 3) := by decide +kernel
theorem dX0_add_4 : decode cX0_add 4 = .ok (.aload_n 0, 1) := by decide +kernel
theorem dX0_add_5 : decode cX0_add 5 = .ok (.getfield 11, 3) := by decide +kernel
theorem dX0_add_8 : decode cX0_add 8 = .ok (.arraylength, 1) := by decide +kernel
theorem dX0_add_9 : decode cX0_add 9 = .ok (.if_icmp .lt 7, 3) := by decide +kernel
theorem dX0_add_12 : decode cX0_add 12 = .ok (.aload_n 0, 1) := by decide +kernel
theorem dX0_add_13 : decode cX0_add 13 = .ok (.invokevirtual 22, 3) := by decide +kernel
theorem dX0_add_16 : decode cX0_add 16 = .ok (.aload_n 0, 1) := by decide +kernel
theorem dX0_add_17 : decode cX0_add 17 = .ok (.aload_n 0, 1) := by decide +kernel
theorem dX0_add_18 : decode cX0_add 18 = .ok (.getfield 18, 3) := by decide +kernel
theorem dX0_add_21 : decode cX0_add 21 = .ok (.invokevirtual 25, 3) := by decide +kernel
theorem dX0_add_24 : decode cX0_add 24 = .ok (.astore_n 2, 1) := by decide +kernel
theorem dX0_add_25 : decode cX0_add 25 = .ok (.aload_n 2, 1) := by decide +kernel
theorem dX0_add_26 : decode cX0_add 26 = .ok (.ifnull 18, 3) := by decide +kernel
theorem dX0_add_29 : decode cX0_add 29 = .ok (.aload_n 2, 1) := by decide +kernel
theorem dX0_add_30 : decode cX0_add 30 = .ok (.aload_n 1, 1) := by decide +kernel
theorem dX0_add_31 : decode cX0_add 31 = .ok (.invokevirtual 29, 3) := by decide +kernel
theorem dX0_add_34 : decode cX0_add 34 = .ok (.aload_n 0, 1) := by decide +kernel
theorem dX0_add_35 : decode cX0_add 35 = .ok (.dup, 1) := by decide +kernel
theorem dX0_add_36 : decode cX0_add 36 = .ok (.getfield 18, 3) := by decide +kernel
theorem dX0_add_39 : decode cX0_add 39 = .ok (.iconst 1, 1) := by decide +kernel
theorem dX0_add_40 : decode cX0_add 40 = .ok (.iadd, 1) := by decide +kernel
theorem dX0_add_41 : decode cX0_add 41 = .ok (.putfield 18, 3) := by decide +kernel
theorem dX0_add_44 : decode cX0_add 44 = .ok (.return_, 1) := by decide +kernel
theorem dX0_forgetFirst_0 : decode cX0_forgetFirst 0 = .ok (.aload_n 0, 1) := by decide +kernel
theorem dX0_forgetFirst_1 : decode cX0_forgetFirst 1 = .ok (.iconst 0, 1) := by decide +kernel
theorem dX0_forgetFirst_2 : decode cX0_forgetFirst 2 = .ok (.invokevirtual 25, 3) := by decide +kernel
theorem dX0_forgetFirst_5 : decode cX0_forgetFirst 5 = .ok (.astore_n 1, 1) := by decide +kernel
theorem dX0_forgetFirst_6 : decode cX0_forgetFirst 6 = .ok (.aload_n 0, 1) := by decide +kernel
theorem dX0_forgetFirst_7 : decode cX0_forgetFirst 7 = .ok (.getfield 11, 3) := by decide +kernel
theorem dX0_forgetFirst_10 : decode cX0_forgetFirst 10 = .ok (.arraylength, 1) := by decide +kernel
theorem dX0_forgetFirst_11 : decode cX0_forgetFirst 11 = .ok (.iconst 1, 1) := by decide +kernel
theorem dX0_forgetFirst_12 : decode cX0_forgetFirst 12 = .ok (.isub, 1) := by decide +kernel
theorem dX0_forgetFirst_13 : decode cX0_forgetFirst 13 = .ok (.istore_n 2, 1) := by decide +kernel
theorem dX0_forgetFirst_14 : decode cX0_forgetFirst 14 = .ok (.iconst 0, 1) := by decide +kernel
theorem dX0_forgetFirst_15 : decode cX0_forgetFirst 15 = .ok (.istore_n 3, 1) := by decide +kernel
theorem dX0_forgetFirst_16 : decode cX0_forgetFirst 16 = .ok (.iload_n 3, 1) := by decide +kernel
theorem dX0_forgetFirst_17 : decode cX0_forgetFirst 17 = .ok (.iload_n 2, 1) := by decide +kernel
theorem dX0_forgetFirst_18 : decode cX0_forgetFirst 18 = .ok (.if_icmp .ge 23, 3) := by decide +kernel
theorem dX0_forgetFirst_21 : decode cX0_forgetFirst 21 = .ok (.aload_n 0, 1) := by decide +kernel
theorem dX0_forgetFirst_22 : decode cX0_forgetFirst 22 = .ok (.getfield 11, 3) := by decide +kernel
theorem dX0_forgetFirst_25 : decode cX0_forgetFirst 25 = .ok (.iload_n 3, 1) := by decide +kernel
theorem dX0_forgetFirst_26 : decode cX0_forgetFirst 26 = .ok (.aload_n 0, 1) := by decide +kernel
theorem dX0_forgetFirst_27 : decode cX0_forgetFirst 27 = .ok (.getfield 11, 3) := by decide +kernel
theorem dX0_forgetFirst_30 : decode cX0_forgetFirst 30 = .ok (.iload_n 3, 1) := by decide +kernel
theorem dX0_forgetFirst_31 : decode cX0_forgetFirst 31 = .ok (.iconst 1, 1) := by decide +kernel
theorem dX0_forgetFirst_32 : decode cX0_forgetFirst 32 = .ok (.iadd, 1) := by decide +kernel
theorem dX0_forgetFirst_33 : decode cX0_forgetFirst 33 = .ok (.aaload, 1) := by decide +kernel
theorem dX0_forgetFirst_34 : decode cX0_forgetFirst 34 = .ok (.aastore, 1) := by decide +kernel
theorem dX0_forgetFirst_35 : decode cX0_forgetFirst 35 = .ok (.iinc 3 1, 3) := by decide +kernel
theorem dX0_forgetFirst_38 : decode cX0_forgetFirst 38 = .ok (.goto (-22), 3) := by decide +kernel
theorem dX0_forgetFirst_41 : decode cX0_forgetFirst 41 = .ok (.iload_n 2, 1) := by decide +kernel
theorem dX0_forgetFirst_42 : decode cX0_forgetFirst 42 = .ok (.ifCond .lt 15, 3) := by decide +kernel
theorem dX0_forgetFirst_45 : decode cX0_forgetFirst 45 = .ok (.aload_n 0, 1) := by decide +kernel
theorem dX0_forgetFirst_46 : decode cX0_forgetFirst 46 = .ok (.getfield 11, 3) := by decide +kernel
theorem dX0_forgetFirst_49 : decode cX0_forgetFirst 49 = .ok (.iload_n 2, 1) := by decide +kernel
theorem dX0_forgetFirst_50 : decode cX0_forgetFirst 50 = .ok (.aload_n 1, 1) := by decide +kernel
theorem dX0_forgetFirst_51 : decode cX0_forgetFirst 51 = .ok (.aastore, 1) := by decide +kernel
theorem dX0_forgetFirst_52 : decode cX0_forgetFirst 52 = .ok (.aload_n 0, 1) := by decide +kernel
theorem dX0_forgetFirst_53 : decode cX0_forgetFirst 53 = .ok (.iload_n 2, 1) := by decide +kernel
theorem dX0_forgetFirst_54 : decode cX0_forgetFirst 54 = .ok (.putfield 18, 3) := by decide +kernel
theorem dX0_forgetFirst_57 : decode cX0_forgetFirst 57 = .ok (.return_, 1) := by decide +kernel
theorem dX0_beforeAt_0 : decode cX0_beforeAt 0 = .ok (.iload_n 1, 1) := by decide +kernel
theorem dX0_beforeAt_1 : decode cX0_beforeAt 1 = .ok (.ifCond .lt 21, 3) := by decide +kernel
theorem dX0_beforeAt_4 : decode cX0_beforeAt 4 = .ok (.iload_n 1, 1) := by decide +kernel
theorem dX0_beforeAt_5 : decode cX0_beforeAt 5 = .ok (.aload_n 0, 1) := by decide +kernel
theorem dX0_beforeAt_6 : decode cX0_beforeAt 6 = .ok (.getfield 11, 3) := by decide +kernel
theorem dX0_beforeAt_9 : decode cX0_beforeAt 9 = .ok (.arraylength, 1) := by decide +kernel
theorem dX0_beforeAt_10 : decode cX0_beforeAt 10 = .ok (.if_icmp .ge 12, 3) := by decide +kernel
theorem dX0_beforeAt_13 : decode cX0_beforeAt 13 = .ok (.aload_n 0, 1) := by decide +kernel
theorem dX0_beforeAt_14 : decode cX0_beforeAt 14 = .ok (.getfield 11, 3) := by decide +kernel
theorem dX0_beforeAt_17 : decode cX0_beforeAt 17 = .ok (.iload_n 1, 1) := by decide +kernel
theorem dX0_beforeAt_18 : decode cX0_beforeAt 18 = .ok (.aaload, 1) := by decide +kernel
theorem dX0_beforeAt_19 : decode cX0_beforeAt 19 = .ok (.goto 4, 3) := by decide +kernel
theorem dX0_beforeAt_22 : decode cX0_beforeAt 22 = .ok (.aconst_null, 1) := by decide +kernel
theorem dX0_beforeAt_23 : decode cX0_beforeAt 23 = .ok (.areturn, 1) := by decide +kernel
theorem dX0_takeBack_0 : decode cX0_takeBack 0 = .ok (.aload_n 0, 1) := by decide +kernel
theorem dX0_takeBack_1 : decode cX0_takeBack 1 = .ok (.aload_n 0, 1) := by decide +kernel
theorem dX0_takeBack_2 : decode cX0_takeBack 2 = .ok (.getfield 18, 3) := by decide +kernel
theorem dX0_takeBack_5 : decode cX0_takeBack 5 = .ok (.iconst 1, 1) := by decide +kernel
theorem dX0_takeBack_6 : decode cX0_takeBack 6 = .ok (.isub, 1) := by decide +kernel
theorem dX0_takeBack_7 : decode cX0_takeBack 7 = .ok (.invokevirtual 25, 3) := by decide +kernel
theorem dX0_takeBack_10 : decode cX0_takeBack 10 = .ok (.astore_n 2, 1) := by decide +kernel
theorem dX0_takeBack_11 : decode cX0_takeBack 11 = .ok (.aload_n 2, 1) := by decide +kernel
theorem dX0_takeBack_12 : decode cX0_takeBack 12 = .ok (.ifnonnull 5, 3) := by decide +kernel
theorem dX0_takeBack_15 : decode cX0_takeBack 15 = .ok (.iconst 0, 1) := by decide +kernel
theorem dX0_takeBack_16 : decode cX0_takeBack 16 = .ok (.ireturn, 1) := by decide +kernel
theorem dX0_takeBack_17 : decode cX0_takeBack 17 = .ok (.aload_n 1, 1) := by decide +kernel
theorem dX0_takeBack_18 : decode cX0_takeBack 18 = .ok (.aload_n 2, 1) := by decide +kernel
theorem dX0_takeBack_19 : decode cX0_takeBack 19 = .ok (.invokevirtual 29, 3) := by decide +kernel
theorem dX0_takeBack_22 : decode cX0_takeBack 22 = .ok (.aload_n 0, 1) := by decide +kernel
theorem dX0_takeBack_23 : decode cX0_takeBack 23 = .ok (.dup, 1) := by decide +kernel
theorem dX0_takeBack_24 : decode cX0_takeBack 24 = .ok (.getfield 18, 3) := by decide +kernel
theorem dX0_takeBack_27 : decode cX0_takeBack 27 = .ok (.iconst 1, 1) := by decide +kernel
theorem dX0_takeBack_28 : decode cX0_takeBack 28 = .ok (.isub, 1) := by decide +kernel
theorem dX0_takeBack_29 : decode cX0_takeBack 29 = .ok (.putfield 18, 3) := by decide +kernel
theorem dX0_takeBack_32 : decode cX0_takeBack 32 = .ok (.iconst 1, 1) := by decide +kernel
theorem dX0_takeBack_33 : decode cX0_takeBack 33 = .ok (.ireturn, 1) := by decide +kernel
theorem dX1_init_0 : decode cX1_init 0 = .ok (.aload_n 0, 1) := by decide +kernel
theorem dX1_init_1 : decode cX1_init 1 = .ok (.invokespecial 3, 3) := by decide +kernel
theorem dX1_init_4 : decode cX1_init 4 = .ok (.aload_n 0, 1) := by decide +kernel
theorem dX1_init_5 : decode cX1_init 5 = .ok (.new 9, 3) := by decide +kernel
theorem dX1_init_8 : decode cX1_init 8 = .ok (.dup, 1) := by decide +kernel
theorem dX1_init_9 : decode cX1_init 9 = .ok (.invokespecial 11, 3) := by decide +kernel
theorem dX1_init_12 : decode cX1_init 12 = .ok (.putfield 12, 3) := by decide +kernel
theorem dX1_init_15 : decode cX1_init 15 = .ok (.aload_n 0, 1) := by decide +kernel
theorem dX1_init_16 : decode cX1_init 16 = .ok (.new 9, 3) := by decide +kernel
theorem dX1_init_19 : decode cX1_init 19 = .ok (.dup, 1) := by decide +kernel
theorem dX1_init_20 : decode cX1_init 20 = .ok (.invokespecial 11, 3) := by decide +kernel
theorem dX1_init_23 : decode cX1_init 23 = .ok (.putfield 18, 3) := by decide +kernel
theorem dX1_init_26 : decode cX1_init 26 = .ok (.aload_n 0, 1) := by decide +kernel
theorem dX1_init_27 : decode cX1_init 27 = .ok (.iconst 1, 1) := by decide +kernel
theorem dX1_init_28 : decode cX1_init 28 = .ok (.putfield 21, 3) := by decide +kernel
theorem dX1_init_31 : decode cX1_init 31 = .ok (.aload_n 0, 1) := by decide +kernel
theorem dX1_init_32 : decode cX1_init 32 = .ok (.iconst 1, 1) := by decide +kernel
theorem dX1_init_33 : decode cX1_init 33 = .ok (.putfield 25, 3) := by decide +kernel
theorem dX1_init_36 : decode cX1_init 36 = .ok (.aload_n 0, 1) := by decide +kernel
theorem dX1_init_37 : decode cX1_init 37 = .ok (.iconst 2, 1) := by decide +kernel
theorem dX1_init_38 : decode cX1_init 38 = .ok (.putfield 29, 3) := by decide +kernel
theorem dX1_init_41 : decode cX1_init 41 = .ok (.aload_n 0, 1) := by decide +kernel
theorem dX1_init_42 : decode cX1_init 42 = .ok (.iconst 0, 1) := by decide +kernel
theorem dX1_init_43 : decode cX1_init 43 = .ok (.putfield 32, 3) := by decide +kernel
theorem dX1_init_46 : decode cX1_init 46 = .ok (.aload_n 0, 1) := by decide +kernel
theorem dX1_init_47 : decode cX1_init 47 = .ok (.iconst 0, 1) := by decide +kernel
theorem dX1_init_48 : decode cX1_init 48 = .ok (.putfield 35, 3) := by decide +kernel
theorem dX1_init_51 : decode cX1_init 51 = .ok (.aload_n 0, 1) := by decide +kernel
theorem dX1_init_52 : decode cX1_init 52 = .ok (.iconst 0, 1) := by decide +kernel
theorem dX1_init_53 : decode cX1_init 53 = .ok (.putfield 38, 3) := by decide +kernel
theorem dX1_init_56 : decode cX1_init 56 = .ok (.aload_n 0, 1) := by decide +kernel
theorem dX1_init_57 : decode cX1_init 57 = .ok (.iconst 0, 1) := by decide +kernel
theorem dX1_init_58 : decode cX1_init 58 = .ok (.putfield 41, 3) := by decide +kernel
theorem dX1_init_61 : decode cX1_init 61 = .ok (.aload_n 0, 1) := by decide +kernel
theorem dX1_init_62 : decode cX1_init 62 = .ok (.iconst 0, 1) := by decide +kernel
theorem dX1_init_63 : decode cX1_init 63 = .ok (.putfield 44, 3) := by decide +kernel
theorem dX1_init_66 : decode cX1_init 66 = .ok (.aload_n 0, 1) := by decide +kernel
theorem dX1_init_67 : decode cX1_init 67 = .ok (.iconst 0, 1) := by decide +kernel
theorem dX1_init_68 : decode cX1_init 68 = .ok (.putfield 47, 3) := by decide +kernel
theorem dX1_init_71 : decode cX1_init 71 = .ok (.aload_n 0, 1) := by decide +kernel
theorem dX1_init_72 : decode cX1_init 72 = .ok (.iconst 0, 1) := by decide +kernel
theorem dX1_init_73 : decode cX1_init 73 = .ok (.putfield 50, 3) := by decide +kernel
theorem dX1_init_76 : decode cX1_init 76 = .ok (.aload_n 0, 1) := by decide +kernel
theorem dX1_init_77 : decode cX1_init 77 = .ok (.iconst 0, 1) := by decide +kernel
theorem dX1_init_78 : decode cX1_init 78 = .ok (.putfield 53, 3) := by decide +kernel
theorem dX1_init_81 : decode cX1_init 81 = .ok (.aload_n 0, 1) := by decide +kernel
theorem dX1_init_82 : decode cX1_init 82 = .ok (.iconst 0, 1) := by decide +kernel
theorem dX1_init_83 : decode cX1_init 83 = .ok (.putfield 56, 3) := by decide +kernel
theorem dX1_init_86 : decode cX1_init 86 = .ok (.return_, 1) := by decide +kernel
theorem dX1_become_0 : decode cX1_become 0 = .ok (.aload_n 0, 1) := by decide +kernel
theorem dX1_become_1 : decode cX1_become 1 = .ok (.getfield 12, 3) := by decide +kernel
theorem dX1_become_4 : decode cX1_become 4 = .ok (.aload_n 1, 1) := by decide +kernel
theorem dX1_become_5 : decode cX1_become 5 = .ok (.getfield 12, 3) := by decide +kernel
theorem dX1_become_8 : decode cX1_become 8 = .ok (.invokevirtual 59, 3) := by decide +kernel
theorem dX1_become_11 : decode cX1_become 11 = .ok (.aload_n 0, 1) := by decide +kernel
theorem dX1_become_12 : decode cX1_become 12 = .ok (.getfield 18, 3) := by decide +kernel
theorem dX1_become_15 : decode cX1_become 15 = .ok (.aload_n 1, 1) := by decide +kernel
theorem dX1_become_16 : decode cX1_become 16 = .ok (.getfield 18, 3) := by decide +kernel
theorem dX1_become_19 : decode cX1_become 19 = .ok (.invokevirtual 59, 3) := by decide +kernel
theorem dX1_become_22 : decode cX1_become 22 = .ok (.aload_n 0, 1) := by decide +kernel
theorem dX1_become_23 : decode cX1_become 23 = .ok (.aload_n 1, 1) := by decide +kernel
theorem dX1_become_24 : decode cX1_become 24 = .ok (.getfield 21, 3) := by decide +kernel
theorem dX1_become_27 : decode cX1_become 27 = .ok (.putfield 21, 3) := by decide +kernel
theorem dX1_become_30 : decode cX1_become 30 = .ok (.aload_n 0, 1) := by decide +kernel
theorem dX1_become_31 : decode cX1_become 31 = .ok (.aload_n 1, 1) := by decide +kernel
theorem dX1_become_32 : decode cX1_become 32 = .ok (.getfield 25, 3) := by decide +kernel
theorem dX1_become_35 : decode cX1_become 35 = .ok (.putfield 25, 3) := by decide +kernel
theorem dX1_become_38 : decode cX1_become 38 = .ok (.aload_n 0, 1) := by decide +kernel
theorem dX1_become_39 : decode cX1_become 39 = .ok (.aload_n 1, 1) := by decide +kernel
theorem dX1_become_40 : decode cX1_become 40 = .ok (.getfield 29, 3) := by decide +kernel
theorem dX1_become_43 : decode cX1_become 43 = .ok (.putfield 29, 3) := by decide +kernel
theorem dX1_become_46 : decode cX1_become 46 = .ok (.aload_n 0, 1) := by decide +kernel
theorem dX1_become_47 : decode cX1_become 47 = .ok (.aload_n 1, 1) := by decide +kernel
theorem dX1_become_48 : decode cX1_become 48 = .ok (.getfield 32, 3) := by decide +kernel
theorem dX1_become_51 : decode cX1_become 51 = .ok (.putfield 32, 3) := by decide +kernel
theorem dX1_become_54 : decode cX1_become 54 = .ok (.aload_n 0, 1) := by decide +kernel
theorem dX1_become_55 : decode cX1_become 55 = .ok (.aload_n 1, 1) := by decide +kernel
theorem dX1_become_56 : decode cX1_become 56 = .ok (.getfield 35, 3) := by decide +kernel
theorem dX1_become_59 : decode cX1_become 59 = .ok (.putfield 35, 3) := by decide +kernel
theorem dX1_become_62 : decode cX1_become 62 = .ok (.aload_n 0, 1) := by decide +kernel
theorem dX1_become_63 : decode cX1_become 63 = .ok (.aload_n 1, 1) := by decide +kernel
theorem dX1_become_64 : decode cX1_become 64 = .ok (.getfield 38, 3) := by decide +kernel
theorem dX1_become_67 : decode cX1_become 67 = .ok (.putfield 38, 3) := by decide +kernel
theorem dX1_become_70 : decode cX1_become 70 = .ok (.aload_n 0, 1) := by decide +kernel
theorem dX1_become_71 : decode cX1_become 71 = .ok (.aload_n 1, 1) := by decide +kernel
theorem dX1_become_72 : decode cX1_become 72 = .ok (.getfield 41, 3) := by decide +kernel
theorem dX1_become_75 : decode cX1_become 75 = .ok (.putfield 41, 3) := by decide +kernel
theorem dX1_become_78 : decode cX1_become 78 = .ok (.aload_n 0, 1) := by decide +kernel
theorem dX1_become_79 : decode cX1_become 79 = .ok (.aload_n 1, 1) := by decide +kernel
theorem dX1_become_80 : decode cX1_become 80 = .ok (.getfield 44, 3) := by decide +kernel
theorem dX1_become_83 : decode cX1_become 83 = .ok (.putfield 44, 3) := by decide +kernel
theorem dX1_become_86 : decode cX1_become 86 = .ok (.aload_n 0, 1) := by decide +kernel
theorem dX1_become_87 : decode cX1_become 87 = .ok (.aload_n 1, 1) := by decide +kernel
theorem dX1_become_88 : decode cX1_become 88 = .ok (.getfield 47, 3) := by decide +kernel
theorem dX1_become_91 : decode cX1_become 91 = .ok (.putfield 47, 3) := by decide +kernel
theorem dX1_become_94 : decode cX1_become 94 = .ok (.aload_n 0, 1) := by decide +kernel
theorem dX1_become_95 : decode cX1_become 95 = .ok (.aload_n 1, 1) := by decide +kernel
theorem dX1_become_96 : decode cX1_become 96 = .ok (.getfield 50, 3) := by decide +kernel
theorem dX1_become_99 : decode cX1_become 99 = .ok (.putfield 50, 3) := by decide +kernel
theorem dX1_become_102 : decode cX1_become 102 = .ok (.aload_n 0, 1) := by decide +kernel
theorem dX1_become_103 : decode cX1_become 103 = .ok (.aload_n 1, 1) := by decide +kernel
theorem dX1_become_104 : decode cX1_become 104 = .ok (.getfield 53, 3) := by decide +kernel
theorem dX1_become_107 : decode cX1_become 107 = .ok (.putfield 53, 3) := by decide +kernel
theorem dX1_become_110 : decode cX1_become 110 = .ok (.aload_n 0, 1) := by decide +kernel
theorem dX1_become_111 : decode cX1_become 111 = .ok (.aload_n 1, 1) := by decide +kernel
theorem dX1_become_112 : decode cX1_become 112 = .ok (.getfield 56, 3) := by decide +kernel
theorem dX1_become_115 : decode cX1_become 115 = .ok (.putfield 56, 3) := by decide +kernel
theorem dX1_become_118 : decode cX1_become 118 = .ok (.return_, 1) := by decide +kernel
theorem dX1_side_0 : decode cX1_side 0 = .ok (.iload_n 1, 1) := by decide +kernel
theorem dX1_side_1 : decode cX1_side 1 = .ok (.ifCond .ne 10, 3) := by decide +kernel
theorem dX1_side_4 : decode cX1_side 4 = .ok (.aload_n 0, 1) := by decide +kernel
theorem dX1_side_5 : decode cX1_side 5 = .ok (.getfield 12, 3) := by decide +kernel
theorem dX1_side_8 : decode cX1_side 8 = .ok (.goto 7, 3) := by decide +kernel
theorem dX1_side_11 : decode cX1_side 11 = .ok (.aload_n 0, 1) := by decide +kernel
theorem dX1_side_12 : decode cX1_side 12 = .ok (.getfield 18, 3) := by decide +kernel
theorem dX1_side_15 : decode cX1_side 15 = .ok (.areturn, 1) := by decide +kernel
theorem dX1_figure_0 : decode cX1_figure 0 = .ok (.iload_n 1, 1) := by decide +kernel
theorem dX1_figure_1 : decode cX1_figure 1 = .ok (.tableswitch 96 0 8 #[51, 56, 61, 66, 71, 76, 81, 86, 91], 51) := by decide +kernel
theorem dX1_figure_52 : decode cX1_figure 52 = .ok (.aload_n 0, 1) := by decide +kernel
theorem dX1_figure_53 : decode cX1_figure 53 = .ok (.getfield 32, 3) := by decide +kernel
theorem dX1_figure_56 : decode cX1_figure 56 = .ok (.ireturn, 1) := by decide +kernel
theorem dX1_figure_57 : decode cX1_figure 57 = .ok (.aload_n 0, 1) := by decide +kernel
theorem dX1_figure_58 : decode cX1_figure 58 = .ok (.getfield 35, 3) := by decide +kernel
theorem dX1_figure_61 : decode cX1_figure 61 = .ok (.ireturn, 1) := by decide +kernel
theorem dX1_figure_62 : decode cX1_figure 62 = .ok (.aload_n 0, 1) := by decide +kernel
theorem dX1_figure_63 : decode cX1_figure 63 = .ok (.getfield 38, 3) := by decide +kernel
theorem dX1_figure_66 : decode cX1_figure 66 = .ok (.ireturn, 1) := by decide +kernel
theorem dX1_figure_67 : decode cX1_figure 67 = .ok (.aload_n 0, 1) := by decide +kernel
theorem dX1_figure_68 : decode cX1_figure 68 = .ok (.invokevirtual 63, 3) := by decide +kernel
theorem dX1_figure_71 : decode cX1_figure 71 = .ok (.ireturn, 1) := by decide +kernel
theorem dX1_figure_72 : decode cX1_figure 72 = .ok (.aload_n 0, 1) := by decide +kernel
theorem dX1_figure_73 : decode cX1_figure 73 = .ok (.getfield 41, 3) := by decide +kernel
theorem dX1_figure_76 : decode cX1_figure 76 = .ok (.ireturn, 1) := by decide +kernel
theorem dX1_figure_77 : decode cX1_figure 77 = .ok (.aload_n 0, 1) := by decide +kernel
theorem dX1_figure_78 : decode cX1_figure 78 = .ok (.getfield 44, 3) := by decide +kernel
theorem dX1_figure_81 : decode cX1_figure 81 = .ok (.ireturn, 1) := by decide +kernel
theorem dX1_figure_82 : decode cX1_figure 82 = .ok (.aload_n 0, 1) := by decide +kernel
theorem dX1_figure_83 : decode cX1_figure 83 = .ok (.getfield 47, 3) := by decide +kernel
theorem dX1_figure_86 : decode cX1_figure 86 = .ok (.ireturn, 1) := by decide +kernel
theorem dX1_figure_87 : decode cX1_figure 87 = .ok (.aload_n 0, 1) := by decide +kernel
theorem dX1_figure_88 : decode cX1_figure 88 = .ok (.getfield 50, 3) := by decide +kernel
theorem dX1_figure_91 : decode cX1_figure 91 = .ok (.ireturn, 1) := by decide +kernel
theorem dX1_figure_92 : decode cX1_figure 92 = .ok (.aload_n 0, 1) := by decide +kernel
theorem dX1_figure_93 : decode cX1_figure 93 = .ok (.getfield 53, 3) := by decide +kernel
theorem dX1_figure_96 : decode cX1_figure 96 = .ok (.ireturn, 1) := by decide +kernel
theorem dX1_figure_97 : decode cX1_figure 97 = .ok (.aload_n 0, 1) := by decide +kernel
theorem dX1_figure_98 : decode cX1_figure 98 = .ok (.getfield 56, 3) := by decide +kernel
theorem dX1_figure_101 : decode cX1_figure 101 = .ok (.ireturn, 1) := by decide +kernel
theorem dX1_wakeTime_0 : decode cX1_wakeTime 0 = .ok (.aload_n 0, 1) := by decide +kernel
theorem dX1_wakeTime_1 : decode cX1_wakeTime 1 = .ok (.getfield 12, 3) := by decide +kernel
theorem dX1_wakeTime_4 : decode cX1_wakeTime 4 = .ok (.getfield 67, 3) := by decide +kernel
theorem dX1_wakeTime_7 : decode cX1_wakeTime 7 = .ok (.aload_n 0, 1) := by decide +kernel
theorem dX1_wakeTime_8 : decode cX1_wakeTime 8 = .ok (.getfield 18, 3) := by decide +kernel
theorem dX1_wakeTime_11 : decode cX1_wakeTime 11 = .ok (.getfield 67, 3) := by decide +kernel
theorem dX1_wakeTime_14 : decode cX1_wakeTime 14 = .ok (.invokestatic 70, 3) := by decide +kernel
theorem dX1_wakeTime_17 : decode cX1_wakeTime 17 = .ok (.aload_n 0, 1) := by decide +kernel
theorem dX1_wakeTime_18 : decode cX1_wakeTime 18 = .ok (.getfield 12, 3) := by decide +kernel
theorem dX1_wakeTime_21 : decode cX1_wakeTime 21 = .ok (.getfield 76, 3) := by decide +kernel
theorem dX1_wakeTime_24 : decode cX1_wakeTime 24 = .ok (.aload_n 0, 1) := by decide +kernel
theorem dX1_wakeTime_25 : decode cX1_wakeTime 25 = .ok (.getfield 18, 3) := by decide +kernel
theorem dX1_wakeTime_28 : decode cX1_wakeTime 28 = .ok (.getfield 76, 3) := by decide +kernel
theorem dX1_wakeTime_31 : decode cX1_wakeTime 31 = .ok (.invokestatic 70, 3) := by decide +kernel
theorem dX1_wakeTime_34 : decode cX1_wakeTime 34 = .ok (.invokestatic 70, 3) := by decide +kernel
theorem dX1_wakeTime_37 : decode cX1_wakeTime 37 = .ok (.ireturn, 1) := by decide +kernel
theorem dX1_price_0 : decode cX1_price 0 = .ok (.aload_n 0, 1) := by decide +kernel
theorem dX1_price_1 : decode cX1_price 1 = .ok (.getfield 44, 3) := by decide +kernel
theorem dX1_price_4 : decode cX1_price 4 = .ok (.aload_n 0, 1) := by decide +kernel
theorem dX1_price_5 : decode cX1_price 5 = .ok (.getfield 50, 3) := by decide +kernel
theorem dX1_price_8 : decode cX1_price 8 = .ok (.iadd, 1) := by decide +kernel
theorem dX1_price_9 : decode cX1_price 9 = .ok (.bipush 20, 2) := by decide +kernel
theorem dX1_price_11 : decode cX1_price 11 = .ok (.aload_n 0, 1) := by decide +kernel
theorem dX1_price_12 : decode cX1_price 12 = .ok (.getfield 56, 3) := by decide +kernel
theorem dX1_price_15 : decode cX1_price 15 = .ok (.imul, 1) := by decide +kernel
theorem dX1_price_16 : decode cX1_price 16 = .ok (.iadd, 1) := by decide +kernel
theorem dX1_price_17 : decode cX1_price 17 = .ok (.ireturn, 1) := by decide +kernel
theorem dX1_holdsNone_0 : decode cX1_holdsNone 0 = .ok (.aload_n 0, 1) := by decide +kernel
theorem dX1_holdsNone_1 : decode cX1_holdsNone 1 = .ok (.getfield 12, 3) := by decide +kernel
theorem dX1_holdsNone_4 : decode cX1_holdsNone 4 = .ok (.getfield 79, 3) := by decide +kernel
theorem dX1_holdsNone_7 : decode cX1_holdsNone 7 = .ok (.ifCond .ne 17, 3) := by decide +kernel
theorem dX1_holdsNone_10 : decode cX1_holdsNone 10 = .ok (.aload_n 0, 1) := by decide +kernel
theorem dX1_holdsNone_11 : decode cX1_holdsNone 11 = .ok (.getfield 18, 3) := by decide +kernel
theorem dX1_holdsNone_14 : decode cX1_holdsNone 14 = .ok (.getfield 79, 3) := by decide +kernel
theorem dX1_holdsNone_17 : decode cX1_holdsNone 17 = .ok (.ifCond .ne 7, 3) := by decide +kernel
theorem dX1_holdsNone_20 : decode cX1_holdsNone 20 = .ok (.iconst 1, 1) := by decide +kernel
theorem dX1_holdsNone_21 : decode cX1_holdsNone 21 = .ok (.goto 4, 3) := by decide +kernel
theorem dX1_holdsNone_24 : decode cX1_holdsNone 24 = .ok (.iconst 0, 1) := by decide +kernel
theorem dX1_holdsNone_25 : decode cX1_holdsNone 25 = .ok (.ireturn, 1) := by decide +kernel
theorem dX1_isAtRest_0 : decode cX1_isAtRest 0 = .ok (.aload_n 0, 1) := by decide +kernel
theorem dX1_isAtRest_1 : decode cX1_isAtRest 1 = .ok (.invokevirtual 82, 3) := by decide +kernel
theorem dX1_isAtRest_4 : decode cX1_isAtRest 4 = .ok (.ifCond .eq 22, 3) := by decide +kernel
theorem dX1_isAtRest_7 : decode cX1_isAtRest 7 = .ok (.aload_n 0, 1) := by decide +kernel
theorem dX1_isAtRest_8 : decode cX1_isAtRest 8 = .ok (.getfield 32, 3) := by decide +kernel
theorem dX1_isAtRest_11 : decode cX1_isAtRest 11 = .ok (.iconst 2, 1) := by decide +kernel
theorem dX1_isAtRest_12 : decode cX1_isAtRest 12 = .ok (.if_icmp .eq 10, 3) := by decide +kernel
theorem dX1_isAtRest_15 : decode cX1_isAtRest 15 = .ok (.aload_n 0, 1) := by decide +kernel
theorem dX1_isAtRest_16 : decode cX1_isAtRest 16 = .ok (.getfield 21, 3) := by decide +kernel
theorem dX1_isAtRest_19 : decode cX1_isAtRest 19 = .ok (.ifCond .ne 7, 3) := by decide +kernel
theorem dX1_isAtRest_22 : decode cX1_isAtRest 22 = .ok (.iconst 1, 1) := by decide +kernel
theorem dX1_isAtRest_23 : decode cX1_isAtRest 23 = .ok (.goto 4, 3) := by decide +kernel
theorem dX1_isAtRest_26 : decode cX1_isAtRest 26 = .ok (.iconst 0, 1) := by decide +kernel
theorem dX1_isAtRest_27 : decode cX1_isAtRest 27 = .ok (.ireturn, 1) := by decide +kernel
theorem dX1_receive_0 : decode cX1_receive 0 = .ok (.aload_n 0, 1) := by decide +kernel
theorem dX1_receive_1 : decode cX1_receive 1 = .ok (.iload_n 1, 1) := by decide +kernel
theorem dX1_receive_2 : decode cX1_receive 2 = .ok (.invokevirtual 86, 3) := by decide +kernel
theorem dX1_receive_5 : decode cX1_receive 5 = .ok (.bipush 10, 2) := by decide +kernel
theorem dX1_receive_7 : decode cX1_receive 7 = .ok (.aload_n 0, 1) := by decide +kernel
theorem dX1_receive_8 : decode cX1_receive 8 = .ok (.getfield 41, 3) := by decide +kernel
theorem dX1_receive_11 : decode cX1_receive 11 = .ok (.imul, 1) := by decide +kernel
theorem dX1_receive_12 : decode cX1_receive 12 = .ok (.iload_n 2, 1) := by decide +kernel
theorem dX1_receive_13 : decode cX1_receive 13 = .ok (.iadd, 1) := by decide +kernel
theorem dX1_receive_14 : decode cX1_receive 14 = .ok (.invokevirtual 90, 3) := by decide +kernel
theorem dX1_receive_17 : decode cX1_receive 17 = .ok (.ireturn, 1) := by decide +kernel
theorem dX1_retell_0 : decode cX1_retell 0 = .ok (.aload_n 0, 1) := by decide +kernel
theorem dX1_retell_1 : decode cX1_retell 1 = .ok (.iload_n 1, 1) := by decide +kernel
theorem dX1_retell_2 : decode cX1_retell 2 = .ok (.invokevirtual 86, 3) := by decide +kernel
theorem dX1_retell_5 : decode cX1_retell 5 = .ok (.astore 4, 2) := by decide +kernel
theorem dX1_retell_7 : decode cX1_retell 7 = .ok (.iload_n 2, 1) := by decide +kernel
theorem dX1_retell_8 : decode cX1_retell 8 = .ok (.ifCond .ne 26, 3) := by decide +kernel
theorem dX1_retell_11 : decode cX1_retell 11 = .ok (.aload 4, 2) := by decide +kernel
theorem dX1_retell_13 : decode cX1_retell 13 = .ok (.getfield 67, 3) := by decide +kernel
theorem dX1_retell_16 : decode cX1_retell 16 = .ok (.istore 5, 2) := by decide +kernel
theorem dX1_retell_18 : decode cX1_retell 18 = .ok (.aload 4, 2) := by decide +kernel
theorem dX1_retell_20 : decode cX1_retell 20 = .ok (.iload_n 3, 1) := by decide +kernel
theorem dX1_retell_21 : decode cX1_retell 21 = .ok (.putfield 67, 3) := by decide +kernel
theorem dX1_retell_24 : decode cX1_retell 24 = .ok (.aload_n 0, 1) := by decide +kernel
theorem dX1_retell_25 : decode cX1_retell 25 = .ok (.iload_n 1, 1) := by decide +kernel
theorem dX1_retell_26 : decode cX1_retell 26 = .ok (.iload_n 3, 1) := by decide +kernel
theorem dX1_retell_27 : decode cX1_retell 27 = .ok (.invokevirtual 94, 3) := by decide +kernel
theorem dX1_retell_30 : decode cX1_retell 30 = .ok (.pop, 1) := by decide +kernel
theorem dX1_retell_31 : decode cX1_retell 31 = .ok (.goto 37, 3) := by decide +kernel
theorem dX1_retell_34 : decode cX1_retell 34 = .ok (.iload_n 2, 1) := by decide +kernel
theorem dX1_retell_35 : decode cX1_retell 35 = .ok (.iconst 1, 1) := by decide +kernel
theorem dX1_retell_36 : decode cX1_retell 36 = .ok (.if_icmp .ne 19, 3) := by decide +kernel
theorem dX1_retell_39 : decode cX1_retell 39 = .ok (.aload 4, 2) := by decide +kernel
theorem dX1_retell_41 : decode cX1_retell 41 = .ok (.getfield 98, 3) := by decide +kernel
theorem dX1_retell_44 : decode cX1_retell 44 = .ok (.istore 5, 2) := by decide +kernel
theorem dX1_retell_46 : decode cX1_retell 46 = .ok (.aload 4, 2) := by decide +kernel
theorem dX1_retell_48 : decode cX1_retell 48 = .ok (.iload_n 3, 1) := by decide +kernel
theorem dX1_retell_49 : decode cX1_retell 49 = .ok (.putfield 98, 3) := by decide +kernel
theorem dX1_retell_52 : decode cX1_retell 52 = .ok (.goto 16, 3) := by decide +kernel
theorem dX1_retell_55 : decode cX1_retell 55 = .ok (.aload 4, 2) := by decide +kernel
theorem dX1_retell_57 : decode cX1_retell 57 = .ok (.getfield 101, 3) := by decide +kernel
theorem dX1_retell_60 : decode cX1_retell 60 = .ok (.istore 5, 2) := by decide +kernel
theorem dX1_retell_62 : decode cX1_retell 62 = .ok (.aload 4, 2) := by decide +kernel
theorem dX1_retell_64 : decode cX1_retell 64 = .ok (.iload_n 3, 1) := by decide +kernel
theorem dX1_retell_65 : decode cX1_retell 65 = .ok (.putfield 101, 3) := by decide +kernel
theorem dX1_retell_68 : decode cX1_retell 68 = .ok (.iload 5, 2) := by decide +kernel
theorem dX1_retell_70 : decode cX1_retell 70 = .ok (.ireturn, 1) := by decide +kernel
theorem dX1_elapse_0 : decode cX1_elapse 0 = .ok (.iconst 0, 1) := by decide +kernel
theorem dX1_elapse_1 : decode cX1_elapse 1 = .ok (.istore_n 2, 1) := by decide +kernel
theorem dX1_elapse_2 : decode cX1_elapse 2 = .ok (.iload_n 2, 1) := by decide +kernel
theorem dX1_elapse_3 : decode cX1_elapse 3 = .ok (.iload_n 1, 1) := by decide +kernel
theorem dX1_elapse_4 : decode cX1_elapse 4 = .ok (.if_icmp .ge 13, 3) := by decide +kernel
theorem dX1_elapse_7 : decode cX1_elapse 7 = .ok (.aload_n 0, 1) := by decide +kernel
theorem dX1_elapse_8 : decode cX1_elapse 8 = .ok (.invokevirtual 104, 3) := by decide +kernel
theorem dX1_elapse_11 : decode cX1_elapse 11 = .ok (.iinc 2 1, 3) := by decide +kernel
theorem dX1_elapse_14 : decode cX1_elapse 14 = .ok (.goto (-12), 3) := by decide +kernel
theorem dX1_elapse_17 : decode cX1_elapse 17 = .ok (.return_, 1) := by decide +kernel
theorem dX1_settle_0 : decode cX1_settle 0 = .ok (.iconst 0, 1) := by decide +kernel
theorem dX1_settle_1 : decode cX1_settle 1 = .ok (.istore_n 1, 1) := by decide +kernel
theorem dX1_settle_2 : decode cX1_settle 2 = .ok (.iload_n 1, 1) := by decide +kernel
theorem dX1_settle_3 : decode cX1_settle 3 = .ok (.bipush 99, 2) := by decide +kernel
theorem dX1_settle_5 : decode cX1_settle 5 = .ok (.if_icmp .ge 20, 3) := by decide +kernel
theorem dX1_settle_8 : decode cX1_settle 8 = .ok (.aload_n 0, 1) := by decide +kernel
theorem dX1_settle_9 : decode cX1_settle 9 = .ok (.invokevirtual 107, 3) := by decide +kernel
theorem dX1_settle_12 : decode cX1_settle 12 = .ok (.ifCond .ne 13, 3) := by decide +kernel
theorem dX1_settle_15 : decode cX1_settle 15 = .ok (.aload_n 0, 1) := by decide +kernel
theorem dX1_settle_16 : decode cX1_settle 16 = .ok (.invokevirtual 104, 3) := by decide +kernel
theorem dX1_settle_19 : decode cX1_settle 19 = .ok (.iinc 1 1, 3) := by decide +kernel
theorem dX1_settle_22 : decode cX1_settle 22 = .ok (.goto (-20), 3) := by decide +kernel
theorem dX1_settle_25 : decode cX1_settle 25 = .ok (.return_, 1) := by decide +kernel
theorem dX1_tick_0 : decode cX1_tick 0 = .ok (.aload_n 0, 1) := by decide +kernel
theorem dX1_tick_1 : decode cX1_tick 1 = .ok (.dup, 1) := by decide +kernel
theorem dX1_tick_2 : decode cX1_tick 2 = .ok (.getfield 44, 3) := by decide +kernel
theorem dX1_tick_5 : decode cX1_tick 5 = .ok (.aload_n 0, 1) := by decide +kernel
theorem dX1_tick_6 : decode cX1_tick 6 = .ok (.invokevirtual 110, 3) := by decide +kernel
theorem dX1_tick_9 : decode cX1_tick 9 = .ok (.iadd, 1) := by decide +kernel
theorem dX1_tick_10 : decode cX1_tick 10 = .ok (.putfield 44, 3) := by decide +kernel
theorem dX1_tick_13 : decode cX1_tick 13 = .ok (.aload_n 0, 1) := by decide +kernel
theorem dX1_tick_14 : decode cX1_tick 14 = .ok (.dup, 1) := by decide +kernel
theorem dX1_tick_15 : decode cX1_tick 15 = .ok (.getfield 41, 3) := by decide +kernel
theorem dX1_tick_18 : decode cX1_tick 18 = .ok (.iconst 1, 1) := by decide +kernel
theorem dX1_tick_19 : decode cX1_tick 19 = .ok (.iadd, 1) := by decide +kernel
theorem dX1_tick_20 : decode cX1_tick 20 = .ok (.putfield 41, 3) := by decide +kernel
theorem dX1_tick_23 : decode cX1_tick 23 = .ok (.aload_n 0, 1) := by decide +kernel
theorem dX1_tick_24 : decode cX1_tick 24 = .ok (.getfield 32, 3) := by decide +kernel
theorem dX1_tick_27 : decode cX1_tick 27 = .ok (.tableswitch 168 0 2 #[25, 79, 109], 25) := by decide +kernel
theorem dX1_tick_52 : decode cX1_tick 52 = .ok (.aload_n 0, 1) := by decide +kernel
theorem dX1_tick_53 : decode cX1_tick 53 = .ok (.aload_n 0, 1) := by decide +kernel
theorem dX1_tick_54 : decode cX1_tick 54 = .ok (.getfield 12, 3) := by decide +kernel
theorem dX1_tick_57 : decode cX1_tick 57 = .ok (.aload_n 0, 1) := by decide +kernel
theorem dX1_tick_58 : decode cX1_tick 58 = .ok (.getfield 18, 3) := by decide +kernel
theorem dX1_tick_61 : decode cX1_tick 61 = .ok (.invokevirtual 113, 3) := by decide +kernel
theorem dX1_tick_64 : decode cX1_tick 64 = .ok (.aload_n 0, 1) := by decide +kernel
theorem dX1_tick_65 : decode cX1_tick 65 = .ok (.aload_n 0, 1) := by decide +kernel
theorem dX1_tick_66 : decode cX1_tick 66 = .ok (.getfield 18, 3) := by decide +kernel
theorem dX1_tick_69 : decode cX1_tick 69 = .ok (.aload_n 0, 1) := by decide +kernel
theorem dX1_tick_70 : decode cX1_tick 70 = .ok (.getfield 12, 3) := by decide +kernel
theorem dX1_tick_73 : decode cX1_tick 73 = .ok (.invokevirtual 113, 3) := by decide +kernel
theorem dX1_tick_76 : decode cX1_tick 76 = .ok (.aload_n 0, 1) := by decide +kernel
theorem dX1_tick_77 : decode cX1_tick 77 = .ok (.getfield 21, 3) := by decide +kernel
theorem dX1_tick_80 : decode cX1_tick 80 = .ok (.ifCond .eq 137, 3) := by decide +kernel
theorem dX1_tick_83 : decode cX1_tick 83 = .ok (.aload_n 0, 1) := by decide +kernel
theorem dX1_tick_84 : decode cX1_tick 84 = .ok (.invokevirtual 82, 3) := by decide +kernel
theorem dX1_tick_87 : decode cX1_tick 87 = .ok (.ifCond .eq 130, 3) := by decide +kernel
theorem dX1_tick_90 : decode cX1_tick 90 = .ok (.aload_n 0, 1) := by decide +kernel
theorem dX1_tick_91 : decode cX1_tick 91 = .ok (.iconst 1, 1) := by decide +kernel
theorem dX1_tick_92 : decode cX1_tick 92 = .ok (.putfield 32, 3) := by decide +kernel
theorem dX1_tick_95 : decode cX1_tick 95 = .ok (.aload_n 0, 1) := by decide +kernel
theorem dX1_tick_96 : decode cX1_tick 96 = .ok (.aload_n 0, 1) := by decide +kernel
theorem dX1_tick_97 : decode cX1_tick 97 = .ok (.getfield 25, 3) := by decide +kernel
theorem dX1_tick_100 : decode cX1_tick 100 = .ok (.putfield 35, 3) := by decide +kernel
theorem dX1_tick_103 : decode cX1_tick 103 = .ok (.goto 114, 3) := by decide +kernel
theorem dX1_tick_106 : decode cX1_tick 106 = .ok (.aload_n 0, 1) := by decide +kernel
theorem dX1_tick_107 : decode cX1_tick 107 = .ok (.dup, 1) := by decide +kernel
theorem dX1_tick_108 : decode cX1_tick 108 = .ok (.getfield 35, 3) := by decide +kernel
theorem dX1_tick_111 : decode cX1_tick 111 = .ok (.iconst 1, 1) := by decide +kernel
theorem dX1_tick_112 : decode cX1_tick 112 = .ok (.isub, 1) := by decide +kernel
theorem dX1_tick_113 : decode cX1_tick 113 = .ok (.putfield 35, 3) := by decide +kernel
theorem dX1_tick_116 : decode cX1_tick 116 = .ok (.aload_n 0, 1) := by decide +kernel
theorem dX1_tick_117 : decode cX1_tick 117 = .ok (.getfield 35, 3) := by decide +kernel
theorem dX1_tick_120 : decode cX1_tick 120 = .ok (.ifCond .ne 97, 3) := by decide +kernel
theorem dX1_tick_123 : decode cX1_tick 123 = .ok (.aload_n 0, 1) := by decide +kernel
theorem dX1_tick_124 : decode cX1_tick 124 = .ok (.iconst 2, 1) := by decide +kernel
theorem dX1_tick_125 : decode cX1_tick 125 = .ok (.putfield 32, 3) := by decide +kernel
theorem dX1_tick_128 : decode cX1_tick 128 = .ok (.aload_n 0, 1) := by decide +kernel
theorem dX1_tick_129 : decode cX1_tick 129 = .ok (.iconst 0, 1) := by decide +kernel
theorem dX1_tick_130 : decode cX1_tick 130 = .ok (.putfield 38, 3) := by decide +kernel
theorem dX1_tick_133 : decode cX1_tick 133 = .ok (.goto 84, 3) := by decide +kernel
theorem dX1_tick_136 : decode cX1_tick 136 = .ok (.aload_n 0, 1) := by decide +kernel
theorem dX1_tick_137 : decode cX1_tick 137 = .ok (.dup, 1) := by decide +kernel
theorem dX1_tick_138 : decode cX1_tick 138 = .ok (.getfield 38, 3) := by decide +kernel
theorem dX1_tick_141 : decode cX1_tick 141 = .ok (.iconst 1, 1) := by decide +kernel
theorem dX1_tick_142 : decode cX1_tick 142 = .ok (.iadd, 1) := by decide +kernel
theorem dX1_tick_143 : decode cX1_tick 143 = .ok (.putfield 38, 3) := by decide +kernel
theorem dX1_tick_146 : decode cX1_tick 146 = .ok (.aload_n 0, 1) := by decide +kernel
theorem dX1_tick_147 : decode cX1_tick 147 = .ok (.getfield 12, 3) := by decide +kernel
theorem dX1_tick_150 : decode cX1_tick 150 = .ok (.aload_n 0, 1) := by decide +kernel
theorem dX1_tick_151 : decode cX1_tick 151 = .ok (.getfield 41, 3) := by decide +kernel
theorem dX1_tick_154 : decode cX1_tick 154 = .ok (.invokevirtual 117, 3) := by decide +kernel
theorem dX1_tick_157 : decode cX1_tick 157 = .ok (.ifCond .ne 17, 3) := by decide +kernel
theorem dX1_tick_160 : decode cX1_tick 160 = .ok (.aload_n 0, 1) := by decide +kernel
theorem dX1_tick_161 : decode cX1_tick 161 = .ok (.getfield 18, 3) := by decide +kernel
theorem dX1_tick_164 : decode cX1_tick 164 = .ok (.aload_n 0, 1) := by decide +kernel
theorem dX1_tick_165 : decode cX1_tick 165 = .ok (.getfield 41, 3) := by decide +kernel
theorem dX1_tick_168 : decode cX1_tick 168 = .ok (.invokevirtual 117, 3) := by decide +kernel
theorem dX1_tick_171 : decode cX1_tick 171 = .ok (.ifCond .eq 46, 3) := by decide +kernel
theorem dX1_tick_174 : decode cX1_tick 174 = .ok (.aload_n 0, 1) := by decide +kernel
theorem dX1_tick_175 : decode cX1_tick 175 = .ok (.iconst 3, 1) := by decide +kernel
theorem dX1_tick_176 : decode cX1_tick 176 = .ok (.putfield 32, 3) := by decide +kernel
theorem dX1_tick_179 : decode cX1_tick 179 = .ok (.aload_n 0, 1) := by decide +kernel
theorem dX1_tick_180 : decode cX1_tick 180 = .ok (.iconst 0, 1) := by decide +kernel
theorem dX1_tick_181 : decode cX1_tick 181 = .ok (.putfield 38, 3) := by decide +kernel
theorem dX1_tick_184 : decode cX1_tick 184 = .ok (.aload_n 0, 1) := by decide +kernel
theorem dX1_tick_185 : decode cX1_tick 185 = .ok (.aload_n 0, 1) := by decide +kernel
theorem dX1_tick_186 : decode cX1_tick 186 = .ok (.invokevirtual 63, 3) := by decide +kernel
theorem dX1_tick_189 : decode cX1_tick 189 = .ok (.putfield 35, 3) := by decide +kernel
theorem dX1_tick_192 : decode cX1_tick 192 = .ok (.goto 25, 3) := by decide +kernel
theorem dX1_tick_195 : decode cX1_tick 195 = .ok (.aload_n 0, 1) := by decide +kernel
theorem dX1_tick_196 : decode cX1_tick 196 = .ok (.dup, 1) := by decide +kernel
theorem dX1_tick_197 : decode cX1_tick 197 = .ok (.getfield 35, 3) := by decide +kernel
theorem dX1_tick_200 : decode cX1_tick 200 = .ok (.iconst 1, 1) := by decide +kernel
theorem dX1_tick_201 : decode cX1_tick 201 = .ok (.isub, 1) := by decide +kernel
theorem dX1_tick_202 : decode cX1_tick 202 = .ok (.putfield 35, 3) := by decide +kernel
theorem dX1_tick_205 : decode cX1_tick 205 = .ok (.aload_n 0, 1) := by decide +kernel
theorem dX1_tick_206 : decode cX1_tick 206 = .ok (.getfield 35, 3) := by decide +kernel
theorem dX1_tick_209 : decode cX1_tick 209 = .ok (.ifCond .ne 8, 3) := by decide +kernel
theorem dX1_tick_212 : decode cX1_tick 212 = .ok (.aload_n 0, 1) := by decide +kernel
theorem dX1_tick_213 : decode cX1_tick 213 = .ok (.iconst 0, 1) := by decide +kernel
theorem dX1_tick_214 : decode cX1_tick 214 = .ok (.putfield 32, 3) := by decide +kernel
theorem dX1_tick_217 : decode cX1_tick 217 = .ok (.return_, 1) := by decide +kernel
theorem dX1_power_0 : decode cX1_power 0 = .ok (.aload_n 0, 1) := by decide +kernel
theorem dX1_power_1 : decode cX1_power 1 = .ok (.getfield 32, 3) := by decide +kernel
theorem dX1_power_4 : decode cX1_power 4 = .ok (.iconst 2, 1) := by decide +kernel
theorem dX1_power_5 : decode cX1_power 5 = .ok (.if_icmp .eq 6, 3) := by decide +kernel
theorem dX1_power_8 : decode cX1_power 8 = .ok (.bipush 9, 2) := by decide +kernel
theorem dX1_power_10 : decode cX1_power 10 = .ok (.ireturn, 1) := by decide +kernel
theorem dX1_power_11 : decode cX1_power 11 = .ok (.aload_n 0, 1) := by decide +kernel
theorem dX1_power_12 : decode cX1_power 12 = .ok (.getfield 29, 3) := by decide +kernel
theorem dX1_power_15 : decode cX1_power 15 = .ok (.ifCond .le 21, 3) := by decide +kernel
theorem dX1_power_18 : decode cX1_power 18 = .ok (.aload_n 0, 1) := by decide +kernel
theorem dX1_power_19 : decode cX1_power 19 = .ok (.getfield 38, 3) := by decide +kernel
theorem dX1_power_22 : decode cX1_power 22 = .ok (.iconst 1, 1) := by decide +kernel
theorem dX1_power_23 : decode cX1_power 23 = .ok (.iadd, 1) := by decide +kernel
theorem dX1_power_24 : decode cX1_power 24 = .ok (.aload_n 0, 1) := by decide +kernel
theorem dX1_power_25 : decode cX1_power 25 = .ok (.getfield 29, 3) := by decide +kernel
theorem dX1_power_28 : decode cX1_power 28 = .ok (.irem, 1) := by decide +kernel
theorem dX1_power_29 : decode cX1_power 29 = .ok (.ifCond .ne 7, 3) := by decide +kernel
theorem dX1_power_32 : decode cX1_power 32 = .ok (.iconst 5, 1) := by decide +kernel
theorem dX1_power_33 : decode cX1_power 33 = .ok (.goto 4, 3) := by decide +kernel
theorem dX1_power_36 : decode cX1_power 36 = .ok (.iconst 1, 1) := by decide +kernel
theorem dX1_power_37 : decode cX1_power 37 = .ok (.ireturn, 1) := by decide +kernel
theorem dX1_send_0 : decode cX1_send 0 = .ok (.aload_n 1, 1) := by decide +kernel
theorem dX1_send_1 : decode cX1_send 1 = .ok (.iconst 0, 1) := by decide +kernel
theorem dX1_send_2 : decode cX1_send 2 = .ok (.invokevirtual 120, 3) := by decide +kernel
theorem dX1_send_5 : decode cX1_send 5 = .ok (.istore_n 3, 1) := by decide +kernel
theorem dX1_send_6 : decode cX1_send 6 = .ok (.iload_n 3, 1) := by decide +kernel
theorem dX1_send_7 : decode cX1_send 7 = .ok (.bipush (-9), 2) := by decide +kernel
theorem dX1_send_9 : decode cX1_send 9 = .ok (.if_icmp .ne 4, 3) := by decide +kernel
theorem dX1_send_12 : decode cX1_send 12 = .ok (.return_, 1) := by decide +kernel
theorem dX1_send_13 : decode cX1_send 13 = .ok (.aload_n 1, 1) := by decide +kernel
theorem dX1_send_14 : decode cX1_send 14 = .ok (.invokevirtual 124, 3) := by decide +kernel
theorem dX1_send_17 : decode cX1_send 17 = .ok (.aload_n 0, 1) := by decide +kernel
theorem dX1_send_18 : decode cX1_send 18 = .ok (.getfield 41, 3) := by decide +kernel
theorem dX1_send_21 : decode cX1_send 21 = .ok (.iload_n 3, 1) := by decide +kernel
theorem dX1_send_22 : decode cX1_send 22 = .ok (.bipush 10, 2) := by decide +kernel
theorem dX1_send_24 : decode cX1_send 24 = .ok (.idiv, 1) := by decide +kernel
theorem dX1_send_25 : decode cX1_send 25 = .ok (.isub, 1) := by decide +kernel
theorem dX1_send_26 : decode cX1_send 26 = .ok (.istore 4, 2) := by decide +kernel
theorem dX1_send_28 : decode cX1_send 28 = .ok (.aload_n 0, 1) := by decide +kernel
theorem dX1_send_29 : decode cX1_send 29 = .ok (.dup, 1) := by decide +kernel
theorem dX1_send_30 : decode cX1_send 30 = .ok (.getfield 47, 3) := by decide +kernel
theorem dX1_send_33 : decode cX1_send 33 = .ok (.iconst 1, 1) := by decide +kernel
theorem dX1_send_34 : decode cX1_send 34 = .ok (.iadd, 1) := by decide +kernel
theorem dX1_send_35 : decode cX1_send 35 = .ok (.putfield 47, 3) := by decide +kernel
theorem dX1_send_38 : decode cX1_send 38 = .ok (.aload_n 0, 1) := by decide +kernel
theorem dX1_send_39 : decode cX1_send 39 = .ok (.dup, 1) := by decide +kernel
theorem dX1_send_40 : decode cX1_send 40 = .ok (.getfield 50, 3) := by decide +kernel
theorem dX1_send_43 : decode cX1_send 43 = .ok (.iload 4, 2) := by decide +kernel
theorem dX1_send_45 : decode cX1_send 45 = .ok (.iadd, 1) := by decide +kernel
theorem dX1_send_46 : decode cX1_send 46 = .ok (.putfield 50, 3) := by decide +kernel
theorem dX1_send_49 : decode cX1_send 49 = .ok (.aload_n 0, 1) := by decide +kernel
theorem dX1_send_50 : decode cX1_send 50 = .ok (.aload_n 0, 1) := by decide +kernel
theorem dX1_send_51 : decode cX1_send 51 = .ok (.getfield 53, 3) := by decide +kernel
theorem dX1_send_54 : decode cX1_send 54 = .ok (.iload 4, 2) := by decide +kernel
theorem dX1_send_56 : decode cX1_send 56 = .ok (.invokestatic 70, 3) := by decide +kernel
theorem dX1_send_59 : decode cX1_send 59 = .ok (.putfield 53, 3) := by decide +kernel
theorem dX1_send_62 : decode cX1_send 62 = .ok (.iload_n 3, 1) := by decide +kernel
theorem dX1_send_63 : decode cX1_send 63 = .ok (.bipush 10, 2) := by decide +kernel
theorem dX1_send_65 : decode cX1_send 65 = .ok (.irem, 1) := by decide +kernel
theorem dX1_send_66 : decode cX1_send 66 = .ok (.ifCond .eq 11, 3) := by decide +kernel
theorem dX1_send_69 : decode cX1_send 69 = .ok (.aload_n 2, 1) := by decide +kernel
theorem dX1_send_70 : decode cX1_send 70 = .ok (.iload_n 3, 1) := by decide +kernel
theorem dX1_send_71 : decode cX1_send 71 = .ok (.bipush 10, 2) := by decide +kernel
theorem dX1_send_73 : decode cX1_send 73 = .ok (.irem, 1) := by decide +kernel
theorem dX1_send_74 : decode cX1_send 74 = .ok (.putfield 76, 3) := by decide +kernel
theorem dX1_send_77 : decode cX1_send 77 = .ok (.return_, 1) := by decide +kernel
theorem dX1_admits_0 : decode cX1_admits 0 = .ok (.iload_n 1, 1) := by decide +kernel
theorem dX1_admits_1 : decode cX1_admits 1 = .ok (.bipush 10, 2) := by decide +kernel
theorem dX1_admits_3 : decode cX1_admits 3 = .ok (.idiv, 1) := by decide +kernel
theorem dX1_admits_4 : decode cX1_admits 4 = .ok (.bipush 10, 2) := by decide +kernel
theorem dX1_admits_6 : decode cX1_admits 6 = .ok (.irem, 1) := by decide +kernel
theorem dX1_admits_7 : decode cX1_admits 7 = .ok (.istore_n 2, 1) := by decide +kernel
theorem dX1_admits_8 : decode cX1_admits 8 = .ok (.iload_n 1, 1) := by decide +kernel
theorem dX1_admits_9 : decode cX1_admits 9 = .ok (.bipush 10, 2) := by decide +kernel
theorem dX1_admits_11 : decode cX1_admits 11 = .ok (.irem, 1) := by decide +kernel
theorem dX1_admits_12 : decode cX1_admits 12 = .ok (.istore_n 3, 1) := by decide +kernel
theorem dX1_admits_13 : decode cX1_admits 13 = .ok (.iload_n 1, 1) := by decide +kernel
theorem dX1_admits_14 : decode cX1_admits 14 = .ok (.bipush 100, 2) := by decide +kernel
theorem dX1_admits_16 : decode cX1_admits 16 = .ok (.irem, 1) := by decide +kernel
theorem dX1_admits_17 : decode cX1_admits 17 = .ok (.istore 4, 2) := by decide +kernel
theorem dX1_admits_19 : decode cX1_admits 19 = .ok (.iload_n 1, 1) := by decide +kernel
theorem dX1_admits_20 : decode cX1_admits 20 = .ok (.bipush 100, 2) := by decide +kernel
theorem dX1_admits_22 : decode cX1_admits 22 = .ok (.idiv, 1) := by decide +kernel
theorem dX1_admits_23 : decode cX1_admits 23 = .ok (.tableswitch 191 1 7 #[41, 67, 74, 92, 117, 154, 169], 41) := by decide +kernel
theorem dX1_admits_64 : decode cX1_admits 64 = .ok (.iload_n 2, 1) := by decide +kernel
theorem dX1_admits_65 : decode cX1_admits 65 = .ok (.invokestatic 127, 3) := by decide +kernel
theorem dX1_admits_68 : decode cX1_admits 68 = .ok (.ifCond .eq 20, 3) := by decide +kernel
theorem dX1_admits_71 : decode cX1_admits 71 = .ok (.iload_n 3, 1) := by decide +kernel
theorem dX1_admits_72 : decode cX1_admits 72 = .ok (.ifCond .ne 16, 3) := by decide +kernel
theorem dX1_admits_75 : decode cX1_admits 75 = .ok (.aload_n 0, 1) := by decide +kernel
theorem dX1_admits_76 : decode cX1_admits 76 = .ok (.iload_n 2, 1) := by decide +kernel
theorem dX1_admits_77 : decode cX1_admits 77 = .ok (.iconst 0, 1) := by decide +kernel
theorem dX1_admits_78 : decode cX1_admits 78 = .ok (.invokevirtual 94, 3) := by decide +kernel
theorem dX1_admits_81 : decode cX1_admits 81 = .ok (.ifCond .eq 7, 3) := by decide +kernel
theorem dX1_admits_84 : decode cX1_admits 84 = .ok (.iconst 1, 1) := by decide +kernel
theorem dX1_admits_85 : decode cX1_admits 85 = .ok (.goto 4, 3) := by decide +kernel
theorem dX1_admits_88 : decode cX1_admits 88 = .ok (.iconst 0, 1) := by decide +kernel
theorem dX1_admits_89 : decode cX1_admits 89 = .ok (.ireturn, 1) := by decide +kernel
theorem dX1_admits_90 : decode cX1_admits 90 = .ok (.aload_n 0, 1) := by decide +kernel
theorem dX1_admits_91 : decode cX1_admits 91 = .ok (.iload 4, 2) := by decide +kernel
theorem dX1_admits_93 : decode cX1_admits 93 = .ok (.invokevirtual 130, 3) := by decide +kernel
theorem dX1_admits_96 : decode cX1_admits 96 = .ok (.ireturn, 1) := by decide +kernel
theorem dX1_admits_97 : decode cX1_admits 97 = .ok (.iload_n 2, 1) := by decide +kernel
theorem dX1_admits_98 : decode cX1_admits 98 = .ok (.ifCond .ne 15, 3) := by decide +kernel
theorem dX1_admits_101 : decode cX1_admits 101 = .ok (.aload_n 0, 1) := by decide +kernel
theorem dX1_admits_102 : decode cX1_admits 102 = .ok (.getfield 32, 3) := by decide +kernel
theorem dX1_admits_105 : decode cX1_admits 105 = .ok (.iload_n 3, 1) := by decide +kernel
theorem dX1_admits_106 : decode cX1_admits 106 = .ok (.if_icmp .ne 7, 3) := by decide +kernel
theorem dX1_admits_109 : decode cX1_admits 109 = .ok (.iconst 1, 1) := by decide +kernel
theorem dX1_admits_110 : decode cX1_admits 110 = .ok (.goto 4, 3) := by decide +kernel
theorem dX1_admits_113 : decode cX1_admits 113 = .ok (.iconst 0, 1) := by decide +kernel
theorem dX1_admits_114 : decode cX1_admits 114 = .ok (.ireturn, 1) := by decide +kernel
theorem dX1_admits_115 : decode cX1_admits 115 = .ok (.iload_n 2, 1) := by decide +kernel
theorem dX1_admits_116 : decode cX1_admits 116 = .ok (.invokestatic 127, 3) := by decide +kernel
theorem dX1_admits_119 : decode cX1_admits 119 = .ok (.ifCond .eq 19, 3) := by decide +kernel
theorem dX1_admits_122 : decode cX1_admits 122 = .ok (.aload_n 0, 1) := by decide +kernel
theorem dX1_admits_123 : decode cX1_admits 123 = .ok (.iload_n 2, 1) := by decide +kernel
theorem dX1_admits_124 : decode cX1_admits 124 = .ok (.invokevirtual 86, 3) := by decide +kernel
theorem dX1_admits_127 : decode cX1_admits 127 = .ok (.getfield 79, 3) := by decide +kernel
theorem dX1_admits_130 : decode cX1_admits 130 = .ok (.iload_n 3, 1) := by decide +kernel
theorem dX1_admits_131 : decode cX1_admits 131 = .ok (.if_icmp .ne 7, 3) := by decide +kernel
theorem dX1_admits_134 : decode cX1_admits 134 = .ok (.iconst 1, 1) := by decide +kernel
theorem dX1_admits_135 : decode cX1_admits 135 = .ok (.goto 4, 3) := by decide +kernel
theorem dX1_admits_138 : decode cX1_admits 138 = .ok (.iconst 0, 1) := by decide +kernel
theorem dX1_admits_139 : decode cX1_admits 139 = .ok (.ireturn, 1) := by decide +kernel
theorem dX1_admits_140 : decode cX1_admits 140 = .ok (.iload_n 2, 1) := by decide +kernel
theorem dX1_admits_141 : decode cX1_admits 141 = .ok (.invokestatic 127, 3) := by decide +kernel
theorem dX1_admits_144 : decode cX1_admits 144 = .ok (.ifCond .eq 31, 3) := by decide +kernel
theorem dX1_admits_147 : decode cX1_admits 147 = .ok (.iload_n 3, 1) := by decide +kernel
theorem dX1_admits_148 : decode cX1_admits 148 = .ok (.aload_n 0, 1) := by decide +kernel
theorem dX1_admits_149 : decode cX1_admits 149 = .ok (.iload_n 2, 1) := by decide +kernel
theorem dX1_admits_150 : decode cX1_admits 150 = .ok (.invokevirtual 86, 3) := by decide +kernel
theorem dX1_admits_153 : decode cX1_admits 153 = .ok (.aload_n 0, 1) := by decide +kernel
theorem dX1_admits_154 : decode cX1_admits 154 = .ok (.getfield 41, 3) := by decide +kernel
theorem dX1_admits_157 : decode cX1_admits 157 = .ok (.invokevirtual 117, 3) := by decide +kernel
theorem dX1_admits_160 : decode cX1_admits 160 = .ok (.ifCond .eq 7, 3) := by decide +kernel
theorem dX1_admits_163 : decode cX1_admits 163 = .ok (.iconst 1, 1) := by decide +kernel
theorem dX1_admits_164 : decode cX1_admits 164 = .ok (.goto 4, 3) := by decide +kernel
theorem dX1_admits_167 : decode cX1_admits 167 = .ok (.iconst 0, 1) := by decide +kernel
theorem dX1_admits_168 : decode cX1_admits 168 = .ok (.if_icmp .ne 7, 3) := by decide +kernel
theorem dX1_admits_171 : decode cX1_admits 171 = .ok (.iconst 1, 1) := by decide +kernel
theorem dX1_admits_172 : decode cX1_admits 172 = .ok (.goto 4, 3) := by decide +kernel
theorem dX1_admits_175 : decode cX1_admits 175 = .ok (.iconst 0, 1) := by decide +kernel
theorem dX1_admits_176 : decode cX1_admits 176 = .ok (.ireturn, 1) := by decide +kernel
theorem dX1_admits_177 : decode cX1_admits 177 = .ok (.aload_n 0, 1) := by decide +kernel
theorem dX1_admits_178 : decode cX1_admits 178 = .ok (.getfield 47, 3) := by decide +kernel
theorem dX1_admits_181 : decode cX1_admits 181 = .ok (.iload 4, 2) := by decide +kernel
theorem dX1_admits_183 : decode cX1_admits 183 = .ok (.if_icmp .ne 7, 3) := by decide +kernel
theorem dX1_admits_186 : decode cX1_admits 186 = .ok (.iconst 1, 1) := by decide +kernel
theorem dX1_admits_187 : decode cX1_admits 187 = .ok (.goto 4, 3) := by decide +kernel
theorem dX1_admits_190 : decode cX1_admits 190 = .ok (.iconst 0, 1) := by decide +kernel
theorem dX1_admits_191 : decode cX1_admits 191 = .ok (.ireturn, 1) := by decide +kernel
theorem dX1_admits_192 : decode cX1_admits 192 = .ok (.iload_n 2, 1) := by decide +kernel
theorem dX1_admits_193 : decode cX1_admits 193 = .ok (.invokestatic 127, 3) := by decide +kernel
theorem dX1_admits_196 : decode cX1_admits 196 = .ok (.ifCond .eq 16, 3) := by decide +kernel
theorem dX1_admits_199 : decode cX1_admits 199 = .ok (.aload_n 0, 1) := by decide +kernel
theorem dX1_admits_200 : decode cX1_admits 200 = .ok (.iload_n 2, 1) := by decide +kernel
theorem dX1_admits_201 : decode cX1_admits 201 = .ok (.iload_n 3, 1) := by decide +kernel
theorem dX1_admits_202 : decode cX1_admits 202 = .ok (.invokevirtual 133, 3) := by decide +kernel
theorem dX1_admits_205 : decode cX1_admits 205 = .ok (.ifCond .eq 7, 3) := by decide +kernel
theorem dX1_admits_208 : decode cX1_admits 208 = .ok (.iconst 1, 1) := by decide +kernel
theorem dX1_admits_209 : decode cX1_admits 209 = .ok (.goto 4, 3) := by decide +kernel
theorem dX1_admits_212 : decode cX1_admits 212 = .ok (.iconst 0, 1) := by decide +kernel
theorem dX1_admits_213 : decode cX1_admits 213 = .ok (.ireturn, 1) := by decide +kernel
theorem dX1_admits_214 : decode cX1_admits 214 = .ok (.iconst 0, 1) := by decide +kernel
theorem dX1_admits_215 : decode cX1_admits 215 = .ok (.ireturn, 1) := by decide +kernel
theorem dX1_admitsTicks_0 : decode cX1_admitsTicks 0 = .ok (.iload_n 1, 1) := by decide +kernel
theorem dX1_admitsTicks_1 : decode cX1_admitsTicks 1 = .ok (.iconst 1, 1) := by decide +kernel
theorem dX1_admitsTicks_2 : decode cX1_admitsTicks 2 = .ok (.bipush 20, 2) := by decide +kernel
theorem dX1_admitsTicks_4 : decode cX1_admitsTicks 4 = .ok (.invokestatic 136, 3) := by decide +kernel
theorem dX1_admitsTicks_7 : decode cX1_admitsTicks 7 = .ok (.ifCond .ne 5, 3) := by decide +kernel
theorem dX1_admitsTicks_10 : decode cX1_admitsTicks 10 = .ok (.iconst 0, 1) := by decide +kernel
theorem dX1_admitsTicks_11 : decode cX1_admitsTicks 11 = .ok (.ireturn, 1) := by decide +kernel
theorem dX1_admitsTicks_12 : decode cX1_admitsTicks 12 = .ok (.aload_n 0, 1) := by decide +kernel
theorem dX1_admitsTicks_13 : decode cX1_admitsTicks 13 = .ok (.iload_n 1, 1) := by decide +kernel
theorem dX1_admitsTicks_14 : decode cX1_admitsTicks 14 = .ok (.invokevirtual 140, 3) := by decide +kernel
theorem dX1_admitsTicks_17 : decode cX1_admitsTicks 17 = .ok (.iconst 1, 1) := by decide +kernel
theorem dX1_admitsTicks_18 : decode cX1_admitsTicks 18 = .ok (.ireturn, 1) := by decide +kernel
theorem dX1_admitsCount_0 : decode cX1_admitsCount 0 = .ok (.iload_n 2, 1) := by decide +kernel
theorem dX1_admitsCount_1 : decode cX1_admitsCount 1 = .ok (.invokestatic 144, 3) := by decide +kernel
theorem dX1_admitsCount_4 : decode cX1_admitsCount 4 = .ok (.ifCond .ne 5, 3) := by decide +kernel
theorem dX1_admitsCount_7 : decode cX1_admitsCount 7 = .ok (.iconst 0, 1) := by decide +kernel
theorem dX1_admitsCount_8 : decode cX1_admitsCount 8 = .ok (.ireturn, 1) := by decide +kernel
theorem dX1_admitsCount_9 : decode cX1_admitsCount 9 = .ok (.aload_n 0, 1) := by decide +kernel
theorem dX1_admitsCount_10 : decode cX1_admitsCount 10 = .ok (.iload_n 1, 1) := by decide +kernel
theorem dX1_admitsCount_11 : decode cX1_admitsCount 11 = .ok (.invokevirtual 86, 3) := by decide +kernel
theorem dX1_admitsCount_14 : decode cX1_admitsCount 14 = .ok (.iload_n 2, 1) := by decide +kernel
theorem dX1_admitsCount_15 : decode cX1_admitsCount 15 = .ok (.putfield 98, 3) := by decide +kernel
theorem dX1_admitsCount_18 : decode cX1_admitsCount 18 = .ok (.iconst 1, 1) := by decide +kernel
theorem dX1_admitsCount_19 : decode cX1_admitsCount 19 = .ok (.ireturn, 1) := by decide +kernel
theorem dX2_init_0 : decode cX2_init 0 = .ok (.aload_n 0, 1) := by decide +kernel
theorem dX2_init_1 : decode cX2_init 1 = .ok (.invokespecial 3, 3) := by decide +kernel
theorem dX2_init_4 : decode cX2_init 4 = .ok (.aload_n 0, 1) := by decide +kernel
theorem dX2_init_5 : decode cX2_init 5 = .ok (.new 9, 3) := by decide +kernel
theorem dX2_init_8 : decode cX2_init 8 = .ok (.dup, 1) := by decide +kernel
theorem dX2_init_9 : decode cX2_init 9 = .ok (.invokespecial 11, 3) := by decide +kernel
theorem dX2_init_12 : decode cX2_init 12 = .ok (.putfield 12, 3) := by decide +kernel
theorem dX2_init_15 : decode cX2_init 15 = .ok (.aload_n 0, 1) := by decide +kernel
theorem dX2_init_16 : decode cX2_init 16 = .ok (.bipush 71, 2) := by decide +kernel
theorem dX2_init_18 : decode cX2_init 18 = .ok (.newarray .int, 2) := by decide +kernel
theorem dX2_init_20 : decode cX2_init 20 = .ok (.putfield 18, 3) := by decide +kernel
theorem dX2_init_23 : decode cX2_init 23 = .ok (.aload_n 0, 1) := by decide +kernel
theorem dX2_init_24 : decode cX2_init 24 = .ok (.iconst 0, 1) := by decide +kernel
theorem dX2_init_25 : decode cX2_init 25 = .ok (.putfield 22, 3) := by decide +kernel
theorem dX2_init_28 : decode cX2_init 28 = .ok (.return_, 1) := by decide +kernel
theorem dX2_become_0 : decode cX2_become 0 = .ok (.aload_n 0, 1) := by decide +kernel
theorem dX2_become_1 : decode cX2_become 1 = .ok (.getfield 12, 3) := by decide +kernel
theorem dX2_become_4 : decode cX2_become 4 = .ok (.aload_n 1, 1) := by decide +kernel
theorem dX2_become_5 : decode cX2_become 5 = .ok (.iconst 1, 1) := by decide +kernel
theorem dX2_become_6 : decode cX2_become 6 = .ok (.invokevirtual 26, 3) := by decide +kernel
theorem dX2_become_9 : decode cX2_become 9 = .ok (.putfield 32, 3) := by decide +kernel
theorem dX2_become_12 : decode cX2_become 12 = .ok (.aload_n 0, 1) := by decide +kernel
theorem dX2_become_13 : decode cX2_become 13 = .ok (.getfield 12, 3) := by decide +kernel
theorem dX2_become_16 : decode cX2_become 16 = .ok (.aload_n 1, 1) := by decide +kernel
theorem dX2_become_17 : decode cX2_become 17 = .ok (.iconst 2, 1) := by decide +kernel
theorem dX2_become_18 : decode cX2_become 18 = .ok (.invokevirtual 26, 3) := by decide +kernel
theorem dX2_become_21 : decode cX2_become 21 = .ok (.putfield 35, 3) := by decide +kernel
theorem dX2_become_24 : decode cX2_become 24 = .ok (.aload_n 0, 1) := by decide +kernel
theorem dX2_become_25 : decode cX2_become 25 = .ok (.getfield 12, 3) := by decide +kernel
theorem dX2_become_28 : decode cX2_become 28 = .ok (.getfield 38, 3) := by decide +kernel
theorem dX2_become_31 : decode cX2_become 31 = .ok (.aload_n 1, 1) := by decide +kernel
theorem dX2_become_32 : decode cX2_become 32 = .ok (.iconst 3, 1) := by decide +kernel
theorem dX2_become_33 : decode cX2_become 33 = .ok (.invokestatic 42, 3) := by decide +kernel
theorem dX2_become_36 : decode cX2_become 36 = .ok (.aload_n 0, 1) := by decide +kernel
theorem dX2_become_37 : decode cX2_become 37 = .ok (.getfield 12, 3) := by decide +kernel
theorem dX2_become_40 : decode cX2_become 40 = .ok (.getfield 46, 3) := by decide +kernel
theorem dX2_become_43 : decode cX2_become 43 = .ok (.aload_n 1, 1) := by decide +kernel
theorem dX2_become_44 : decode cX2_become 44 = .ok (.bipush 6, 2) := by decide +kernel
theorem dX2_become_46 : decode cX2_become 46 = .ok (.invokestatic 42, 3) := by decide +kernel
theorem dX2_become_49 : decode cX2_become 49 = .ok (.aload_n 0, 1) := by decide +kernel
theorem dX2_become_50 : decode cX2_become 50 = .ok (.getfield 12, 3) := by decide +kernel
theorem dX2_become_53 : decode cX2_become 53 = .ok (.getfield 38, 3) := by decide +kernel
theorem dX2_become_56 : decode cX2_become 56 = .ok (.aload_n 0, 1) := by decide +kernel
theorem dX2_become_57 : decode cX2_become 57 = .ok (.getfield 12, 3) := by decide +kernel
theorem dX2_become_60 : decode cX2_become 60 = .ok (.getfield 46, 3) := by decide +kernel
theorem dX2_become_63 : decode cX2_become 63 = .ok (.getfield 49, 3) := by decide +kernel
theorem dX2_become_66 : decode cX2_become 66 = .ok (.putfield 54, 3) := by decide +kernel
theorem dX2_become_69 : decode cX2_become 69 = .ok (.aload_n 0, 1) := by decide +kernel
theorem dX2_become_70 : decode cX2_become 70 = .ok (.getfield 12, 3) := by decide +kernel
theorem dX2_become_73 : decode cX2_become 73 = .ok (.getfield 46, 3) := by decide +kernel
theorem dX2_become_76 : decode cX2_become 76 = .ok (.aload_n 0, 1) := by decide +kernel
theorem dX2_become_77 : decode cX2_become 77 = .ok (.getfield 12, 3) := by decide +kernel
theorem dX2_become_80 : decode cX2_become 80 = .ok (.getfield 38, 3) := by decide +kernel
theorem dX2_become_83 : decode cX2_become 83 = .ok (.getfield 49, 3) := by decide +kernel
theorem dX2_become_86 : decode cX2_become 86 = .ok (.putfield 54, 3) := by decide +kernel
theorem dX2_become_89 : decode cX2_become 89 = .ok (.aload_n 0, 1) := by decide +kernel
theorem dX2_become_90 : decode cX2_become 90 = .ok (.iconst 0, 1) := by decide +kernel
theorem dX2_become_91 : decode cX2_become 91 = .ok (.putfield 22, 3) := by decide +kernel
theorem dX2_become_94 : decode cX2_become 94 = .ok (.iconst 0, 1) := by decide +kernel
theorem dX2_become_95 : decode cX2_become 95 = .ok (.istore_n 2, 1) := by decide +kernel
theorem dX2_become_96 : decode cX2_become 96 = .ok (.iload_n 2, 1) := by decide +kernel
theorem dX2_become_97 : decode cX2_become 97 = .ok (.aload_n 0, 1) := by decide +kernel
theorem dX2_become_98 : decode cX2_become 98 = .ok (.getfield 18, 3) := by decide +kernel
theorem dX2_become_101 : decode cX2_become 101 = .ok (.arraylength, 1) := by decide +kernel
theorem dX2_become_102 : decode cX2_become 102 = .ok (.if_icmp .ge 44, 3) := by decide +kernel
theorem dX2_become_105 : decode cX2_become 105 = .ok (.bipush 9, 2) := by decide +kernel
theorem dX2_become_107 : decode cX2_become 107 = .ok (.iload_n 2, 1) := by decide +kernel
theorem dX2_become_108 : decode cX2_become 108 = .ok (.iadd, 1) := by decide +kernel
theorem dX2_become_109 : decode cX2_become 109 = .ok (.aload_n 1, 1) := by decide +kernel
theorem dX2_become_110 : decode cX2_become 110 = .ok (.getfield 57, 3) := by decide +kernel
theorem dX2_become_113 : decode cX2_become 113 = .ok (.if_icmp .ge 33, 3) := by decide +kernel
theorem dX2_become_116 : decode cX2_become 116 = .ok (.aload_n 0, 1) := by decide +kernel
theorem dX2_become_117 : decode cX2_become 117 = .ok (.getfield 18, 3) := by decide +kernel
theorem dX2_become_120 : decode cX2_become 120 = .ok (.iload_n 2, 1) := by decide +kernel
theorem dX2_become_121 : decode cX2_become 121 = .ok (.aload_n 1, 1) := by decide +kernel
theorem dX2_become_122 : decode cX2_become 122 = .ok (.bipush 9, 2) := by decide +kernel
theorem dX2_become_124 : decode cX2_become 124 = .ok (.iload_n 2, 1) := by decide +kernel
theorem dX2_become_125 : decode cX2_become 125 = .ok (.iadd, 1) := by decide +kernel
theorem dX2_become_126 : decode cX2_become 126 = .ok (.invokevirtual 58, 3) := by decide +kernel
theorem dX2_become_129 : decode cX2_become 129 = .ok (.iastore, 1) := by decide +kernel
theorem dX2_become_130 : decode cX2_become 130 = .ok (.aload_n 0, 1) := by decide +kernel
theorem dX2_become_131 : decode cX2_become 131 = .ok (.dup, 1) := by decide +kernel
theorem dX2_become_132 : decode cX2_become 132 = .ok (.getfield 22, 3) := by decide +kernel
theorem dX2_become_135 : decode cX2_become 135 = .ok (.iconst 1, 1) := by decide +kernel
theorem dX2_become_136 : decode cX2_become 136 = .ok (.iadd, 1) := by decide +kernel
theorem dX2_become_137 : decode cX2_become 137 = .ok (.putfield 22, 3) := by decide +kernel
theorem dX2_become_140 : decode cX2_become 140 = .ok (.iinc 2 1, 3) := by decide +kernel
theorem dX2_become_143 : decode cX2_become 143 = .ok (.goto (-47), 3) := by decide +kernel
theorem dX2_become_146 : decode cX2_become 146 = .ok (.return_, 1) := by decide +kernel
theorem dX2_readSide_0 : decode cX2_readSide 0 = .ok (.aload_n 0, 1) := by decide +kernel
theorem dX2_readSide_1 : decode cX2_readSide 1 = .ok (.aload_n 1, 1) := by decide +kernel
theorem dX2_readSide_2 : decode cX2_readSide 2 = .ok (.iload_n 2, 1) := by decide +kernel
theorem dX2_readSide_3 : decode cX2_readSide 3 = .ok (.invokevirtual 26, 3) := by decide +kernel
theorem dX2_readSide_6 : decode cX2_readSide 6 = .ok (.putfield 49, 3) := by decide +kernel
theorem dX2_readSide_9 : decode cX2_readSide 9 = .ok (.aload_n 0, 1) := by decide +kernel
theorem dX2_readSide_10 : decode cX2_readSide 10 = .ok (.aload_n 1, 1) := by decide +kernel
theorem dX2_readSide_11 : decode cX2_readSide 11 = .ok (.iload_n 2, 1) := by decide +kernel
theorem dX2_readSide_12 : decode cX2_readSide 12 = .ok (.iconst 1, 1) := by decide +kernel
theorem dX2_readSide_13 : decode cX2_readSide 13 = .ok (.iadd, 1) := by decide +kernel
theorem dX2_readSide_14 : decode cX2_readSide 14 = .ok (.invokevirtual 26, 3) := by decide +kernel
theorem dX2_readSide_17 : decode cX2_readSide 17 = .ok (.putfield 61, 3) := by decide +kernel
theorem dX2_readSide_20 : decode cX2_readSide 20 = .ok (.aload_n 0, 1) := by decide +kernel
theorem dX2_readSide_21 : decode cX2_readSide 21 = .ok (.aload_n 1, 1) := by decide +kernel
theorem dX2_readSide_22 : decode cX2_readSide 22 = .ok (.iload_n 2, 1) := by decide +kernel
theorem dX2_readSide_23 : decode cX2_readSide 23 = .ok (.iconst 2, 1) := by decide +kernel
theorem dX2_readSide_24 : decode cX2_readSide 24 = .ok (.iadd, 1) := by decide +kernel
theorem dX2_readSide_25 : decode cX2_readSide 25 = .ok (.invokevirtual 26, 3) := by decide +kernel
theorem dX2_readSide_28 : decode cX2_readSide 28 = .ok (.putfield 64, 3) := by decide +kernel
theorem dX2_readSide_31 : decode cX2_readSide 31 = .ok (.return_, 1) := by decide +kernel
theorem dX2_isLetter_0 : decode cX2_isLetter 0 = .ok (.iload_n 0, 1) := by decide +kernel
theorem dX2_isLetter_1 : decode cX2_isLetter 1 = .ok (.bipush 97, 2) := by decide +kernel
theorem dX2_isLetter_3 : decode cX2_isLetter 3 = .ok (.if_icmp .eq 9, 3) := by decide +kernel
theorem dX2_isLetter_6 : decode cX2_isLetter 6 = .ok (.iload_n 0, 1) := by decide +kernel
theorem dX2_isLetter_7 : decode cX2_isLetter 7 = .ok (.bipush 98, 2) := by decide +kernel
theorem dX2_isLetter_9 : decode cX2_isLetter 9 = .ok (.if_icmp .ne 7, 3) := by decide +kernel
theorem dX2_isLetter_12 : decode cX2_isLetter 12 = .ok (.iconst 1, 1) := by decide +kernel
theorem dX2_isLetter_13 : decode cX2_isLetter 13 = .ok (.goto 4, 3) := by decide +kernel
theorem dX2_isLetter_16 : decode cX2_isLetter 16 = .ok (.iconst 0, 1) := by decide +kernel
theorem dX2_isLetter_17 : decode cX2_isLetter 17 = .ok (.ireturn, 1) := by decide +kernel
theorem dX2_letters_0 : decode cX2_letters 0 = .ok (.iconst 0, 1) := by decide +kernel
theorem dX2_letters_1 : decode cX2_letters 1 = .ok (.istore_n 1, 1) := by decide +kernel
theorem dX2_letters_2 : decode cX2_letters 2 = .ok (.iconst 0, 1) := by decide +kernel
theorem dX2_letters_3 : decode cX2_letters 3 = .ok (.istore_n 2, 1) := by decide +kernel
theorem dX2_letters_4 : decode cX2_letters 4 = .ok (.iload_n 2, 1) := by decide +kernel
theorem dX2_letters_5 : decode cX2_letters 5 = .ok (.aload_n 0, 1) := by decide +kernel
theorem dX2_letters_6 : decode cX2_letters 6 = .ok (.getfield 22, 3) := by decide +kernel
theorem dX2_letters_9 : decode cX2_letters 9 = .ok (.if_icmp .ge 33, 3) := by decide +kernel
theorem dX2_letters_12 : decode cX2_letters 12 = .ok (.iload_n 2, 1) := by decide +kernel
theorem dX2_letters_13 : decode cX2_letters 13 = .ok (.aload_n 0, 1) := by decide +kernel
theorem dX2_letters_14 : decode cX2_letters 14 = .ok (.getfield 18, 3) := by decide +kernel
theorem dX2_letters_17 : decode cX2_letters 17 = .ok (.arraylength, 1) := by decide +kernel
theorem dX2_letters_18 : decode cX2_letters 18 = .ok (.if_icmp .ge 24, 3) := by decide +kernel
theorem dX2_letters_21 : decode cX2_letters 21 = .ok (.aload_n 0, 1) := by decide +kernel
theorem dX2_letters_22 : decode cX2_letters 22 = .ok (.getfield 18, 3) := by decide +kernel
theorem dX2_letters_25 : decode cX2_letters 25 = .ok (.iload_n 2, 1) := by decide +kernel
theorem dX2_letters_26 : decode cX2_letters 26 = .ok (.iaload, 1) := by decide +kernel
theorem dX2_letters_27 : decode cX2_letters 27 = .ok (.invokestatic 67, 3) := by decide +kernel
theorem dX2_letters_30 : decode cX2_letters 30 = .ok (.ifCond .eq 6, 3) := by decide +kernel
theorem dX2_letters_33 : decode cX2_letters 33 = .ok (.iinc 1 1, 3) := by decide +kernel
theorem dX2_letters_36 : decode cX2_letters 36 = .ok (.iinc 2 1, 3) := by decide +kernel
theorem dX2_letters_39 : decode cX2_letters 39 = .ok (.goto (-35), 3) := by decide +kernel
theorem dX2_letters_42 : decode cX2_letters 42 = .ok (.iload_n 1, 1) := by decide +kernel
theorem dX2_letters_43 : decode cX2_letters 43 = .ok (.ireturn, 1) := by decide +kernel
theorem dX2_perform_0 : decode cX2_perform 0 = .ok (.iconst 0, 1) := by decide +kernel
theorem dX2_perform_1 : decode cX2_perform 1 = .ok (.istore_n 3, 1) := by decide +kernel
theorem dX2_perform_2 : decode cX2_perform 2 = .ok (.iconst 0, 1) := by decide +kernel
theorem dX2_perform_3 : decode cX2_perform 3 = .ok (.istore 4, 2) := by decide +kernel
theorem dX2_perform_5 : decode cX2_perform 5 = .ok (.iload 4, 2) := by decide +kernel
theorem dX2_perform_7 : decode cX2_perform 7 = .ok (.aload_n 0, 1) := by decide +kernel
theorem dX2_perform_8 : decode cX2_perform 8 = .ok (.getfield 22, 3) := by decide +kernel
theorem dX2_perform_11 : decode cX2_perform 11 = .ok (.if_icmp .ge 83, 3) := by decide +kernel
theorem dX2_perform_14 : decode cX2_perform 14 = .ok (.iload 4, 2) := by decide +kernel
theorem dX2_perform_16 : decode cX2_perform 16 = .ok (.aload_n 0, 1) := by decide +kernel
theorem dX2_perform_17 : decode cX2_perform 17 = .ok (.getfield 18, 3) := by decide +kernel
theorem dX2_perform_20 : decode cX2_perform 20 = .ok (.arraylength, 1) := by decide +kernel
theorem dX2_perform_21 : decode cX2_perform 21 = .ok (.if_icmp .ge 73, 3) := by decide +kernel
theorem dX2_perform_24 : decode cX2_perform 24 = .ok (.aload_n 0, 1) := by decide +kernel
theorem dX2_perform_25 : decode cX2_perform 25 = .ok (.getfield 18, 3) := by decide +kernel
theorem dX2_perform_28 : decode cX2_perform 28 = .ok (.iload 4, 2) := by decide +kernel
theorem dX2_perform_30 : decode cX2_perform 30 = .ok (.iaload, 1) := by decide +kernel
theorem dX2_perform_31 : decode cX2_perform 31 = .ok (.istore 5, 2) := by decide +kernel
theorem dX2_perform_33 : decode cX2_perform 33 = .ok (.iload 5, 2) := by decide +kernel
theorem dX2_perform_35 : decode cX2_perform 35 = .ok (.invokestatic 67, 3) := by decide +kernel
theorem dX2_perform_38 : decode cX2_perform 38 = .ok (.ifCond .ne 15, 3) := by decide +kernel
theorem dX2_perform_41 : decode cX2_perform 41 = .ok (.aload_n 1, 1) := by decide +kernel
theorem dX2_perform_42 : decode cX2_perform 42 = .ok (.iload 5, 2) := by decide +kernel
theorem dX2_perform_44 : decode cX2_perform 44 = .ok (.bipush 48, 2) := by decide +kernel
theorem dX2_perform_46 : decode cX2_perform 46 = .ok (.isub, 1) := by decide +kernel
theorem dX2_perform_47 : decode cX2_perform 47 = .ok (.invokevirtual 71, 3) := by decide +kernel
theorem dX2_perform_50 : decode cX2_perform 50 = .ok (.goto 38, 3) := by decide +kernel
theorem dX2_perform_53 : decode cX2_perform 53 = .ok (.iload_n 3, 1) := by decide +kernel
theorem dX2_perform_54 : decode cX2_perform 54 = .ok (.bipush 6, 2) := by decide +kernel
theorem dX2_perform_56 : decode cX2_perform 56 = .ok (.if_icmp .ge 11, 3) := by decide +kernel
theorem dX2_perform_59 : decode cX2_perform 59 = .ok (.iload_n 2, 1) := by decide +kernel
theorem dX2_perform_60 : decode cX2_perform 60 = .ok (.iload_n 3, 1) := by decide +kernel
theorem dX2_perform_61 : decode cX2_perform 61 = .ok (.ishr, 1) := by decide +kernel
theorem dX2_perform_62 : decode cX2_perform 62 = .ok (.iconst 1, 1) := by decide +kernel
theorem dX2_perform_63 : decode cX2_perform 63 = .ok (.iand, 1) := by decide +kernel
theorem dX2_perform_64 : decode cX2_perform 64 = .ok (.ifCond .ne 7, 3) := by decide +kernel
theorem dX2_perform_67 : decode cX2_perform 67 = .ok (.iconst 1, 1) := by decide +kernel
theorem dX2_perform_68 : decode cX2_perform 68 = .ok (.goto 4, 3) := by decide +kernel
theorem dX2_perform_71 : decode cX2_perform 71 = .ok (.iconst 0, 1) := by decide +kernel
theorem dX2_perform_72 : decode cX2_perform 72 = .ok (.istore 6, 2) := by decide +kernel
theorem dX2_perform_74 : decode cX2_perform 74 = .ok (.iinc 3 1, 3) := by decide +kernel
theorem dX2_perform_77 : decode cX2_perform 77 = .ok (.iload 6, 2) := by decide +kernel
theorem dX2_perform_79 : decode cX2_perform 79 = .ok (.ifCond .eq 9, 3) := by decide +kernel
theorem dX2_perform_82 : decode cX2_perform 82 = .ok (.aload_n 1, 1) := by decide +kernel
theorem dX2_perform_83 : decode cX2_perform 83 = .ok (.iload 5, 2) := by decide +kernel
theorem dX2_perform_85 : decode cX2_perform 85 = .ok (.invokestatic 75, 3) := by decide +kernel
theorem dX2_perform_88 : decode cX2_perform 88 = .ok (.iinc 4 1, 3) := by decide +kernel
theorem dX2_perform_91 : decode cX2_perform 91 = .ok (.goto (-86), 3) := by decide +kernel
theorem dX2_perform_94 : decode cX2_perform 94 = .ok (.return_, 1) := by decide +kernel
theorem dX2_bring_0 : decode cX2_bring 0 = .ok (.aload_n 0, 1) := by decide +kernel
theorem dX2_bring_1 : decode cX2_bring 1 = .ok (.iload_n 1, 1) := by decide +kernel
theorem dX2_bring_2 : decode cX2_bring 2 = .ok (.bipush 97, 2) := by decide +kernel
theorem dX2_bring_4 : decode cX2_bring 4 = .ok (.isub, 1) := by decide +kernel
theorem dX2_bring_5 : decode cX2_bring 5 = .ok (.iconst 0, 1) := by decide +kernel
theorem dX2_bring_6 : decode cX2_bring 6 = .ok (.invokevirtual 79, 3) := by decide +kernel
theorem dX2_bring_9 : decode cX2_bring 9 = .ok (.ifCond .ne 13, 3) := by decide +kernel
theorem dX2_bring_12 : decode cX2_bring 12 = .ok (.aload_n 0, 1) := by decide +kernel
theorem dX2_bring_13 : decode cX2_bring 13 = .ok (.dup, 1) := by decide +kernel
theorem dX2_bring_14 : decode cX2_bring 14 = .ok (.getfield 83, 3) := by decide +kernel
theorem dX2_bring_17 : decode cX2_bring 17 = .ok (.iconst 1, 1) := by decide +kernel
theorem dX2_bring_18 : decode cX2_bring 18 = .ok (.iadd, 1) := by decide +kernel
theorem dX2_bring_19 : decode cX2_bring 19 = .ok (.putfield 83, 3) := by decide +kernel
theorem dX2_bring_22 : decode cX2_bring 22 = .ok (.return_, 1) := by decide +kernel
theorem dX2_performTill_0 : decode cX2_performTill 0 = .ok (.iconst 0, 1) := by decide +kernel
theorem dX2_performTill_1 : decode cX2_performTill 1 = .ok (.istore_n 3, 1) := by decide +kernel
theorem dX2_performTill_2 : decode cX2_performTill 2 = .ok (.iload_n 3, 1) := by decide +kernel
theorem dX2_performTill_3 : decode cX2_performTill 3 = .ok (.aload_n 0, 1) := by decide +kernel
theorem dX2_performTill_4 : decode cX2_performTill 4 = .ok (.getfield 22, 3) := by decide +kernel
theorem dX2_performTill_7 : decode cX2_performTill 7 = .ok (.if_icmp .ge 69, 3) := by decide +kernel
theorem dX2_performTill_10 : decode cX2_performTill 10 = .ok (.iload_n 3, 1) := by decide +kernel
theorem dX2_performTill_11 : decode cX2_performTill 11 = .ok (.aload_n 0, 1) := by decide +kernel
theorem dX2_performTill_12 : decode cX2_performTill 12 = .ok (.getfield 18, 3) := by decide +kernel
theorem dX2_performTill_15 : decode cX2_performTill 15 = .ok (.arraylength, 1) := by decide +kernel
theorem dX2_performTill_16 : decode cX2_performTill 16 = .ok (.if_icmp .ge 60, 3) := by decide +kernel
theorem dX2_performTill_19 : decode cX2_performTill 19 = .ok (.aload_n 1, 1) := by decide +kernel
theorem dX2_performTill_20 : decode cX2_performTill 20 = .ok (.getfield 86, 3) := by decide +kernel
theorem dX2_performTill_23 : decode cX2_performTill 23 = .ok (.iload_n 2, 1) := by decide +kernel
theorem dX2_performTill_24 : decode cX2_performTill 24 = .ok (.if_icmp .ge 52, 3) := by decide +kernel
theorem dX2_performTill_27 : decode cX2_performTill 27 = .ok (.aload_n 0, 1) := by decide +kernel
theorem dX2_performTill_28 : decode cX2_performTill 28 = .ok (.getfield 18, 3) := by decide +kernel
theorem dX2_performTill_31 : decode cX2_performTill 31 = .ok (.iload_n 3, 1) := by decide +kernel
theorem dX2_performTill_32 : decode cX2_performTill 32 = .ok (.iaload, 1) := by decide +kernel
theorem dX2_performTill_33 : decode cX2_performTill 33 = .ok (.istore 4, 2) := by decide +kernel
theorem dX2_performTill_35 : decode cX2_performTill 35 = .ok (.iload 4, 2) := by decide +kernel
theorem dX2_performTill_37 : decode cX2_performTill 37 = .ok (.invokestatic 67, 3) := by decide +kernel
theorem dX2_performTill_40 : decode cX2_performTill 40 = .ok (.ifCond .eq 12, 3) := by decide +kernel
theorem dX2_performTill_43 : decode cX2_performTill 43 = .ok (.aload_n 1, 1) := by decide +kernel
theorem dX2_performTill_44 : decode cX2_performTill 44 = .ok (.iload 4, 2) := by decide +kernel
theorem dX2_performTill_46 : decode cX2_performTill 46 = .ok (.invokestatic 75, 3) := by decide +kernel
theorem dX2_performTill_49 : decode cX2_performTill 49 = .ok (.goto 21, 3) := by decide +kernel
theorem dX2_performTill_52 : decode cX2_performTill 52 = .ok (.aload_n 1, 1) := by decide +kernel
theorem dX2_performTill_53 : decode cX2_performTill 53 = .ok (.iload 4, 2) := by decide +kernel
theorem dX2_performTill_55 : decode cX2_performTill 55 = .ok (.bipush 48, 2) := by decide +kernel
theorem dX2_performTill_57 : decode cX2_performTill 57 = .ok (.isub, 1) := by decide +kernel
theorem dX2_performTill_58 : decode cX2_performTill 58 = .ok (.iload_n 2, 1) := by decide +kernel
theorem dX2_performTill_59 : decode cX2_performTill 59 = .ok (.aload_n 1, 1) := by decide +kernel
theorem dX2_performTill_60 : decode cX2_performTill 60 = .ok (.getfield 86, 3) := by decide +kernel
theorem dX2_performTill_63 : decode cX2_performTill 63 = .ok (.isub, 1) := by decide +kernel
theorem dX2_performTill_64 : decode cX2_performTill 64 = .ok (.invokestatic 89, 3) := by decide +kernel
theorem dX2_performTill_67 : decode cX2_performTill 67 = .ok (.invokevirtual 71, 3) := by decide +kernel
theorem dX2_performTill_70 : decode cX2_performTill 70 = .ok (.iinc 3 1, 3) := by decide +kernel
theorem dX2_performTill_73 : decode cX2_performTill 73 = .ok (.goto (-71), 3) := by decide +kernel
theorem dX2_performTill_76 : decode cX2_performTill 76 = .ok (.aload_n 1, 1) := by decide +kernel
theorem dX2_performTill_77 : decode cX2_performTill 77 = .ok (.iload_n 2, 1) := by decide +kernel
theorem dX2_performTill_78 : decode cX2_performTill 78 = .ok (.aload_n 1, 1) := by decide +kernel
theorem dX2_performTill_79 : decode cX2_performTill 79 = .ok (.getfield 86, 3) := by decide +kernel
theorem dX2_performTill_82 : decode cX2_performTill 82 = .ok (.isub, 1) := by decide +kernel
theorem dX2_performTill_83 : decode cX2_performTill 83 = .ok (.invokevirtual 71, 3) := by decide +kernel
theorem dX2_performTill_86 : decode cX2_performTill 86 = .ok (.return_, 1) := by decide +kernel
theorem dX3_init_0 : decode cX3_init 0 = .ok (.aload_n 0, 1) := by decide +kernel
theorem dX3_init_1 : decode cX3_init 1 = .ok (.invokespecial 3, 3) := by decide +kernel
theorem dX3_init_4 : decode cX3_init 4 = .ok (.aload_n 0, 1) := by decide +kernel
theorem dX3_init_5 : decode cX3_init 5 = .ok (.iconst 1, 1) := by decide +kernel
theorem dX3_init_6 : decode cX3_init 6 = .ok (.putfield 9, 3) := by decide +kernel
theorem dX3_init_9 : decode cX3_init 9 = .ok (.aload_n 0, 1) := by decide +kernel
theorem dX3_init_10 : decode cX3_init 10 = .ok (.iconst 1, 1) := by decide +kernel
theorem dX3_init_11 : decode cX3_init 11 = .ok (.putfield 15, 3) := by decide +kernel
theorem dX3_init_14 : decode cX3_init 14 = .ok (.aload_n 0, 1) := by decide +kernel
theorem dX3_init_15 : decode cX3_init 15 = .ok (.iconst 1, 1) := by decide +kernel
theorem dX3_init_16 : decode cX3_init 16 = .ok (.putfield 18, 3) := by decide +kernel
theorem dX3_init_19 : decode cX3_init 19 = .ok (.aload_n 0, 1) := by decide +kernel
theorem dX3_init_20 : decode cX3_init 20 = .ok (.iconst 1, 1) := by decide +kernel
theorem dX3_init_21 : decode cX3_init 21 = .ok (.putfield 21, 3) := by decide +kernel
theorem dX3_init_24 : decode cX3_init 24 = .ok (.aload_n 0, 1) := by decide +kernel
theorem dX3_init_25 : decode cX3_init 25 = .ok (.iconst 0, 1) := by decide +kernel
theorem dX3_init_26 : decode cX3_init 26 = .ok (.putfield 24, 3) := by decide +kernel
theorem dX3_init_29 : decode cX3_init 29 = .ok (.aload_n 0, 1) := by decide +kernel
theorem dX3_init_30 : decode cX3_init 30 = .ok (.bipush 9, 2) := by decide +kernel
theorem dX3_init_32 : decode cX3_init 32 = .ok (.newarray .int, 2) := by decide +kernel
theorem dX3_init_34 : decode cX3_init 34 = .ok (.putfield 27, 3) := by decide +kernel
theorem dX3_init_37 : decode cX3_init 37 = .ok (.return_, 1) := by decide +kernel
theorem dX3_become_0 : decode cX3_become 0 = .ok (.aload_n 0, 1) := by decide +kernel
theorem dX3_become_1 : decode cX3_become 1 = .ok (.aload_n 1, 1) := by decide +kernel
theorem dX3_become_2 : decode cX3_become 2 = .ok (.getfield 9, 3) := by decide +kernel
theorem dX3_become_5 : decode cX3_become 5 = .ok (.putfield 9, 3) := by decide +kernel
theorem dX3_become_8 : decode cX3_become 8 = .ok (.aload_n 0, 1) := by decide +kernel
theorem dX3_become_9 : decode cX3_become 9 = .ok (.aload_n 1, 1) := by decide +kernel
theorem dX3_become_10 : decode cX3_become 10 = .ok (.getfield 15, 3) := by decide +kernel
theorem dX3_become_13 : decode cX3_become 13 = .ok (.putfield 15, 3) := by decide +kernel
theorem dX3_become_16 : decode cX3_become 16 = .ok (.aload_n 0, 1) := by decide +kernel
theorem dX3_become_17 : decode cX3_become 17 = .ok (.aload_n 1, 1) := by decide +kernel
theorem dX3_become_18 : decode cX3_become 18 = .ok (.getfield 18, 3) := by decide +kernel
theorem dX3_become_21 : decode cX3_become 21 = .ok (.putfield 18, 3) := by decide +kernel
theorem dX3_become_24 : decode cX3_become 24 = .ok (.aload_n 0, 1) := by decide +kernel
theorem dX3_become_25 : decode cX3_become 25 = .ok (.aload_n 1, 1) := by decide +kernel
theorem dX3_become_26 : decode cX3_become 26 = .ok (.getfield 21, 3) := by decide +kernel
theorem dX3_become_29 : decode cX3_become 29 = .ok (.putfield 21, 3) := by decide +kernel
theorem dX3_become_32 : decode cX3_become 32 = .ok (.aload_n 0, 1) := by decide +kernel
theorem dX3_become_33 : decode cX3_become 33 = .ok (.aload_n 1, 1) := by decide +kernel
theorem dX3_become_34 : decode cX3_become 34 = .ok (.getfield 24, 3) := by decide +kernel
theorem dX3_become_37 : decode cX3_become 37 = .ok (.putfield 24, 3) := by decide +kernel
theorem dX3_become_40 : decode cX3_become 40 = .ok (.iconst 0, 1) := by decide +kernel
theorem dX3_become_41 : decode cX3_become 41 = .ok (.istore_n 2, 1) := by decide +kernel
theorem dX3_become_42 : decode cX3_become 42 = .ok (.iload_n 2, 1) := by decide +kernel
theorem dX3_become_43 : decode cX3_become 43 = .ok (.aload_n 0, 1) := by decide +kernel
theorem dX3_become_44 : decode cX3_become 44 = .ok (.getfield 24, 3) := by decide +kernel
theorem dX3_become_47 : decode cX3_become 47 = .ok (.if_icmp .ge 39, 3) := by decide +kernel
theorem dX3_become_50 : decode cX3_become 50 = .ok (.iload_n 2, 1) := by decide +kernel
theorem dX3_become_51 : decode cX3_become 51 = .ok (.aload_n 0, 1) := by decide +kernel
theorem dX3_become_52 : decode cX3_become 52 = .ok (.getfield 27, 3) := by decide +kernel
theorem dX3_become_55 : decode cX3_become 55 = .ok (.arraylength, 1) := by decide +kernel
theorem dX3_become_56 : decode cX3_become 56 = .ok (.if_icmp .ge 30, 3) := by decide +kernel
theorem dX3_become_59 : decode cX3_become 59 = .ok (.iload_n 2, 1) := by decide +kernel
theorem dX3_become_60 : decode cX3_become 60 = .ok (.aload_n 1, 1) := by decide +kernel
theorem dX3_become_61 : decode cX3_become 61 = .ok (.getfield 27, 3) := by decide +kernel
theorem dX3_become_64 : decode cX3_become 64 = .ok (.arraylength, 1) := by decide +kernel
theorem dX3_become_65 : decode cX3_become 65 = .ok (.if_icmp .ge 21, 3) := by decide +kernel
theorem dX3_become_68 : decode cX3_become 68 = .ok (.aload_n 0, 1) := by decide +kernel
theorem dX3_become_69 : decode cX3_become 69 = .ok (.getfield 27, 3) := by decide +kernel
theorem dX3_become_72 : decode cX3_become 72 = .ok (.iload_n 2, 1) := by decide +kernel
theorem dX3_become_73 : decode cX3_become 73 = .ok (.aload_n 1, 1) := by decide +kernel
theorem dX3_become_74 : decode cX3_become 74 = .ok (.getfield 27, 3) := by decide +kernel
theorem dX3_become_77 : decode cX3_become 77 = .ok (.iload_n 2, 1) := by decide +kernel
theorem dX3_become_78 : decode cX3_become 78 = .ok (.iaload, 1) := by decide +kernel
theorem dX3_become_79 : decode cX3_become 79 = .ok (.iastore, 1) := by decide +kernel
theorem dX3_become_80 : decode cX3_become 80 = .ok (.iinc 2 1, 3) := by decide +kernel
theorem dX3_become_83 : decode cX3_become 83 = .ok (.goto (-41), 3) := by decide +kernel
theorem dX3_become_86 : decode cX3_become 86 = .ok (.return_, 1) := by decide +kernel
theorem dX3_isFull_0 : decode cX3_isFull 0 = .ok (.aload_n 0, 1) := by decide +kernel
theorem dX3_isFull_1 : decode cX3_isFull 1 = .ok (.getfield 24, 3) := by decide +kernel
theorem dX3_isFull_4 : decode cX3_isFull 4 = .ok (.bipush 9, 2) := by decide +kernel
theorem dX3_isFull_6 : decode cX3_isFull 6 = .ok (.if_icmp .lt 7, 3) := by decide +kernel
theorem dX3_isFull_9 : decode cX3_isFull 9 = .ok (.iconst 1, 1) := by decide +kernel
theorem dX3_isFull_10 : decode cX3_isFull 10 = .ok (.goto 4, 3) := by decide +kernel
theorem dX3_isFull_13 : decode cX3_isFull 13 = .ok (.iconst 0, 1) := by decide +kernel
theorem dX3_isFull_14 : decode cX3_isFull 14 = .ok (.ireturn, 1) := by decide +kernel
theorem dX3_append_0 : decode cX3_append 0 = .ok (.aload_n 0, 1) := by decide +kernel
theorem dX3_append_1 : decode cX3_append 1 = .ok (.getfield 24, 3) := by decide +kernel
theorem dX3_append_4 : decode cX3_append 4 = .ok (.ifCond .lt 15, 3) := by decide +kernel
theorem dX3_append_7 : decode cX3_append 7 = .ok (.aload_n 0, 1) := by decide +kernel
theorem dX3_append_8 : decode cX3_append 8 = .ok (.getfield 24, 3) := by decide +kernel
theorem dX3_append_11 : decode cX3_append 11 = .ok (.aload_n 0, 1) := by decide +kernel
theorem dX3_append_12 : decode cX3_append 12 = .ok (.getfield 27, 3) := by decide +kernel
theorem dX3_append_15 : decode cX3_append 15 = .ok (.arraylength, 1) := by decide +kernel
theorem dX3_append_16 : decode cX3_append 16 = .ok (.if_icmp .lt 5, 3) := by decide +kernel
theorem dX3_append_19 : decode cX3_append 19 = .ok (.iconst 0, 1) := by decide +kernel
theorem dX3_append_20 : decode cX3_append 20 = .ok (.ireturn, 1) := by decide +kernel
theorem dX3_append_21 : decode cX3_append 21 = .ok (.aload_n 0, 1) := by decide +kernel
theorem dX3_append_22 : decode cX3_append 22 = .ok (.getfield 27, 3) := by decide +kernel
theorem dX3_append_25 : decode cX3_append 25 = .ok (.aload_n 0, 1) := by decide +kernel
theorem dX3_append_26 : decode cX3_append 26 = .ok (.getfield 24, 3) := by decide +kernel
theorem dX3_append_29 : decode cX3_append 29 = .ok (.iload_n 1, 1) := by decide +kernel
theorem dX3_append_30 : decode cX3_append 30 = .ok (.iastore, 1) := by decide +kernel
theorem dX3_append_31 : decode cX3_append 31 = .ok (.aload_n 0, 1) := by decide +kernel
theorem dX3_append_32 : decode cX3_append 32 = .ok (.dup, 1) := by decide +kernel
theorem dX3_append_33 : decode cX3_append 33 = .ok (.getfield 24, 3) := by decide +kernel
theorem dX3_append_36 : decode cX3_append 36 = .ok (.iconst 1, 1) := by decide +kernel
theorem dX3_append_37 : decode cX3_append 37 = .ok (.iadd, 1) := by decide +kernel
theorem dX3_append_38 : decode cX3_append 38 = .ok (.putfield 24, 3) := by decide +kernel
theorem dX3_append_41 : decode cX3_append 41 = .ok (.iconst 1, 1) := by decide +kernel
theorem dX3_append_42 : decode cX3_append 42 = .ok (.ireturn, 1) := by decide +kernel
theorem dX3_letterAt_0 : decode cX3_letterAt 0 = .ok (.iload_n 1, 1) := by decide +kernel
theorem dX3_letterAt_1 : decode cX3_letterAt 1 = .ok (.ifCond .lt 29, 3) := by decide +kernel
theorem dX3_letterAt_4 : decode cX3_letterAt 4 = .ok (.iload_n 1, 1) := by decide +kernel
theorem dX3_letterAt_5 : decode cX3_letterAt 5 = .ok (.aload_n 0, 1) := by decide +kernel
theorem dX3_letterAt_6 : decode cX3_letterAt 6 = .ok (.getfield 24, 3) := by decide +kernel
theorem dX3_letterAt_9 : decode cX3_letterAt 9 = .ok (.if_icmp .ge 21, 3) := by decide +kernel
theorem dX3_letterAt_12 : decode cX3_letterAt 12 = .ok (.iload_n 1, 1) := by decide +kernel
theorem dX3_letterAt_13 : decode cX3_letterAt 13 = .ok (.aload_n 0, 1) := by decide +kernel
theorem dX3_letterAt_14 : decode cX3_letterAt 14 = .ok (.getfield 27, 3) := by decide +kernel
theorem dX3_letterAt_17 : decode cX3_letterAt 17 = .ok (.arraylength, 1) := by decide +kernel
theorem dX3_letterAt_18 : decode cX3_letterAt 18 = .ok (.if_icmp .ge 12, 3) := by decide +kernel
theorem dX3_letterAt_21 : decode cX3_letterAt 21 = .ok (.aload_n 0, 1) := by decide +kernel
theorem dX3_letterAt_22 : decode cX3_letterAt 22 = .ok (.getfield 27, 3) := by decide +kernel
theorem dX3_letterAt_25 : decode cX3_letterAt 25 = .ok (.iload_n 1, 1) := by decide +kernel
theorem dX3_letterAt_26 : decode cX3_letterAt 26 = .ok (.iaload, 1) := by decide +kernel
theorem dX3_letterAt_27 : decode cX3_letterAt 27 = .ok (.goto 5, 3) := by decide +kernel
theorem dX3_letterAt_30 : decode cX3_letterAt 30 = .ok (.bipush (-9), 2) := by decide +kernel
theorem dX3_letterAt_32 : decode cX3_letterAt 32 = .ok (.ireturn, 1) := by decide +kernel
theorem dX3_dropFirst_0 : decode cX3_dropFirst 0 = .ok (.iconst 1, 1) := by decide +kernel
theorem dX3_dropFirst_1 : decode cX3_dropFirst 1 = .ok (.istore_n 1, 1) := by decide +kernel
theorem dX3_dropFirst_2 : decode cX3_dropFirst 2 = .ok (.iload_n 1, 1) := by decide +kernel
theorem dX3_dropFirst_3 : decode cX3_dropFirst 3 = .ok (.aload_n 0, 1) := by decide +kernel
theorem dX3_dropFirst_4 : decode cX3_dropFirst 4 = .ok (.getfield 24, 3) := by decide +kernel
theorem dX3_dropFirst_7 : decode cX3_dropFirst 7 = .ok (.if_icmp .ge 32, 3) := by decide +kernel
theorem dX3_dropFirst_10 : decode cX3_dropFirst 10 = .ok (.iload_n 1, 1) := by decide +kernel
theorem dX3_dropFirst_11 : decode cX3_dropFirst 11 = .ok (.aload_n 0, 1) := by decide +kernel
theorem dX3_dropFirst_12 : decode cX3_dropFirst 12 = .ok (.getfield 27, 3) := by decide +kernel
theorem dX3_dropFirst_15 : decode cX3_dropFirst 15 = .ok (.arraylength, 1) := by decide +kernel
theorem dX3_dropFirst_16 : decode cX3_dropFirst 16 = .ok (.if_icmp .ge 23, 3) := by decide +kernel
theorem dX3_dropFirst_19 : decode cX3_dropFirst 19 = .ok (.aload_n 0, 1) := by decide +kernel
theorem dX3_dropFirst_20 : decode cX3_dropFirst 20 = .ok (.getfield 27, 3) := by decide +kernel
theorem dX3_dropFirst_23 : decode cX3_dropFirst 23 = .ok (.iload_n 1, 1) := by decide +kernel
theorem dX3_dropFirst_24 : decode cX3_dropFirst 24 = .ok (.iconst 1, 1) := by decide +kernel
theorem dX3_dropFirst_25 : decode cX3_dropFirst 25 = .ok (.isub, 1) := by decide +kernel
theorem dX3_dropFirst_26 : decode cX3_dropFirst 26 = .ok (.aload_n 0, 1) := by decide +kernel
theorem dX3_dropFirst_27 : decode cX3_dropFirst 27 = .ok (.getfield 27, 3) := by decide +kernel
theorem dX3_dropFirst_30 : decode cX3_dropFirst 30 = .ok (.iload_n 1, 1) := by decide +kernel
theorem dX3_dropFirst_31 : decode cX3_dropFirst 31 = .ok (.iaload, 1) := by decide +kernel
theorem dX3_dropFirst_32 : decode cX3_dropFirst 32 = .ok (.iastore, 1) := by decide +kernel
theorem dX3_dropFirst_33 : decode cX3_dropFirst 33 = .ok (.iinc 1 1, 3) := by decide +kernel
theorem dX3_dropFirst_36 : decode cX3_dropFirst 36 = .ok (.goto (-34), 3) := by decide +kernel
theorem dX3_dropFirst_39 : decode cX3_dropFirst 39 = .ok (.aload_n 0, 1) := by decide +kernel
theorem dX3_dropFirst_40 : decode cX3_dropFirst 40 = .ok (.getfield 24, 3) := by decide +kernel
theorem dX3_dropFirst_43 : decode cX3_dropFirst 43 = .ok (.ifCond .le 13, 3) := by decide +kernel
theorem dX3_dropFirst_46 : decode cX3_dropFirst 46 = .ok (.aload_n 0, 1) := by decide +kernel
theorem dX3_dropFirst_47 : decode cX3_dropFirst 47 = .ok (.dup, 1) := by decide +kernel
theorem dX3_dropFirst_48 : decode cX3_dropFirst 48 = .ok (.getfield 24, 3) := by decide +kernel
theorem dX3_dropFirst_51 : decode cX3_dropFirst 51 = .ok (.iconst 1, 1) := by decide +kernel
theorem dX3_dropFirst_52 : decode cX3_dropFirst 52 = .ok (.isub, 1) := by decide +kernel
theorem dX3_dropFirst_53 : decode cX3_dropFirst 53 = .ok (.putfield 24, 3) := by decide +kernel
theorem dX3_dropFirst_56 : decode cX3_dropFirst 56 = .ok (.return_, 1) := by decide +kernel
theorem dX3_isDue_0 : decode cX3_isDue 0 = .ok (.aload_n 0, 1) := by decide +kernel
theorem dX3_isDue_1 : decode cX3_isDue 1 = .ok (.getfield 24, 3) := by decide +kernel
theorem dX3_isDue_4 : decode cX3_isDue 4 = .ok (.aload_n 0, 1) := by decide +kernel
theorem dX3_isDue_5 : decode cX3_isDue 5 = .ok (.getfield 15, 3) := by decide +kernel
theorem dX3_isDue_8 : decode cX3_isDue 8 = .ok (.if_icmp .lt 5, 3) := by decide +kernel
theorem dX3_isDue_11 : decode cX3_isDue 11 = .ok (.iconst 1, 1) := by decide +kernel
theorem dX3_isDue_12 : decode cX3_isDue 12 = .ok (.ireturn, 1) := by decide +kernel
theorem dX3_isDue_13 : decode cX3_isDue 13 = .ok (.iconst 0, 1) := by decide +kernel
theorem dX3_isDue_14 : decode cX3_isDue 14 = .ok (.istore_n 2, 1) := by decide +kernel
theorem dX3_isDue_15 : decode cX3_isDue 15 = .ok (.iload_n 2, 1) := by decide +kernel
theorem dX3_isDue_16 : decode cX3_isDue 16 = .ok (.aload_n 0, 1) := by decide +kernel
theorem dX3_isDue_17 : decode cX3_isDue 17 = .ok (.getfield 24, 3) := by decide +kernel
theorem dX3_isDue_20 : decode cX3_isDue 20 = .ok (.if_icmp .ge 47, 3) := by decide +kernel
theorem dX3_isDue_23 : decode cX3_isDue 23 = .ok (.iload_n 2, 1) := by decide +kernel
theorem dX3_isDue_24 : decode cX3_isDue 24 = .ok (.aload_n 0, 1) := by decide +kernel
theorem dX3_isDue_25 : decode cX3_isDue 25 = .ok (.getfield 27, 3) := by decide +kernel
theorem dX3_isDue_28 : decode cX3_isDue 28 = .ok (.arraylength, 1) := by decide +kernel
theorem dX3_isDue_29 : decode cX3_isDue 29 = .ok (.if_icmp .ge 38, 3) := by decide +kernel
theorem dX3_isDue_32 : decode cX3_isDue 32 = .ok (.aload_n 0, 1) := by decide +kernel
theorem dX3_isDue_33 : decode cX3_isDue 33 = .ok (.getfield 27, 3) := by decide +kernel
theorem dX3_isDue_36 : decode cX3_isDue 36 = .ok (.iload_n 2, 1) := by decide +kernel
theorem dX3_isDue_37 : decode cX3_isDue 37 = .ok (.iaload, 1) := by decide +kernel
theorem dX3_isDue_38 : decode cX3_isDue 38 = .ok (.istore_n 3, 1) := by decide +kernel
theorem dX3_isDue_39 : decode cX3_isDue 39 = .ok (.iload_n 3, 1) := by decide +kernel
theorem dX3_isDue_40 : decode cX3_isDue 40 = .ok (.bipush 10, 2) := by decide +kernel
theorem dX3_isDue_42 : decode cX3_isDue 42 = .ok (.irem, 1) := by decide +kernel
theorem dX3_isDue_43 : decode cX3_isDue 43 = .ok (.ifCond .ne 16, 3) := by decide +kernel
theorem dX3_isDue_46 : decode cX3_isDue 46 = .ok (.iload_n 1, 1) := by decide +kernel
theorem dX3_isDue_47 : decode cX3_isDue 47 = .ok (.iload_n 3, 1) := by decide +kernel
theorem dX3_isDue_48 : decode cX3_isDue 48 = .ok (.bipush 10, 2) := by decide +kernel
theorem dX3_isDue_50 : decode cX3_isDue 50 = .ok (.idiv, 1) := by decide +kernel
theorem dX3_isDue_51 : decode cX3_isDue 51 = .ok (.isub, 1) := by decide +kernel
theorem dX3_isDue_52 : decode cX3_isDue 52 = .ok (.aload_n 0, 1) := by decide +kernel
theorem dX3_isDue_53 : decode cX3_isDue 53 = .ok (.getfield 18, 3) := by decide +kernel
theorem dX3_isDue_56 : decode cX3_isDue 56 = .ok (.if_icmp .lt 5, 3) := by decide +kernel
theorem dX3_isDue_59 : decode cX3_isDue 59 = .ok (.iconst 1, 1) := by decide +kernel
theorem dX3_isDue_60 : decode cX3_isDue 60 = .ok (.ireturn, 1) := by decide +kernel
theorem dX3_isDue_61 : decode cX3_isDue 61 = .ok (.iinc 2 1, 3) := by decide +kernel
theorem dX3_isDue_64 : decode cX3_isDue 64 = .ok (.goto (-49), 3) := by decide +kernel
theorem dX3_isDue_67 : decode cX3_isDue 67 = .ok (.iconst 0, 1) := by decide +kernel
theorem dX3_isDue_68 : decode cX3_isDue 68 = .ok (.ireturn, 1) := by decide +kernel
theorem dX4_init_0 : decode cX4_init 0 = .ok (.aload_n 0, 1) := by decide +kernel
theorem dX4_init_1 : decode cX4_init 1 = .ok (.invokespecial 3, 3) := by decide +kernel
theorem dX4_init_4 : decode cX4_init 4 = .ok (.aload_n 0, 1) := by decide +kernel
theorem dX4_init_5 : decode cX4_init 5 = .ok (.bipush 6, 2) := by decide +kernel
theorem dX4_init_7 : decode cX4_init 7 = .ok (.newarray .int, 2) := by decide +kernel
theorem dX4_init_9 : decode cX4_init 9 = .ok (.putfield 9, 3) := by decide +kernel
theorem dX4_init_12 : decode cX4_init 12 = .ok (.aload_n 0, 1) := by decide +kernel
theorem dX4_init_13 : decode cX4_init 13 = .ok (.bipush 6, 2) := by decide +kernel
theorem dX4_init_15 : decode cX4_init 15 = .ok (.newarray .int, 2) := by decide +kernel
theorem dX4_init_17 : decode cX4_init 17 = .ok (.putfield 15, 3) := by decide +kernel
theorem dX4_init_20 : decode cX4_init 20 = .ok (.aload_n 0, 1) := by decide +kernel
theorem dX4_init_21 : decode cX4_init 21 = .ok (.iconst 0, 1) := by decide +kernel
theorem dX4_init_22 : decode cX4_init 22 = .ok (.putfield 18, 3) := by decide +kernel
theorem dX4_init_25 : decode cX4_init 25 = .ok (.return_, 1) := by decide +kernel
theorem dX4_add_0 : decode cX4_add 0 = .ok (.aload_n 0, 1) := by decide +kernel
theorem dX4_add_1 : decode cX4_add 1 = .ok (.getfield 18, 3) := by decide +kernel
theorem dX4_add_4 : decode cX4_add 4 = .ok (.ifCond .lt 27, 3) := by decide +kernel
theorem dX4_add_7 : decode cX4_add 7 = .ok (.aload_n 0, 1) := by decide +kernel
theorem dX4_add_8 : decode cX4_add 8 = .ok (.getfield 18, 3) := by decide +kernel
theorem dX4_add_11 : decode cX4_add 11 = .ok (.aload_n 0, 1) := by decide +kernel
theorem dX4_add_12 : decode cX4_add 12 = .ok (.getfield 9, 3) := by decide +kernel
theorem dX4_add_15 : decode cX4_add 15 = .ok (.arraylength, 1) := by decide +kernel
theorem dX4_add_16 : decode cX4_add 16 = .ok (.if_icmp .ge 15, 3) := by decide +kernel
theorem dX4_add_19 : decode cX4_add 19 = .ok (.aload_n 0, 1) := by decide +kernel
theorem dX4_add_20 : decode cX4_add 20 = .ok (.getfield 18, 3) := by decide +kernel
theorem dX4_add_23 : decode cX4_add 23 = .ok (.aload_n 0, 1) := by decide +kernel
theorem dX4_add_24 : decode cX4_add 24 = .ok (.getfield 15, 3) := by decide +kernel
theorem dX4_add_27 : decode cX4_add 27 = .ok (.arraylength, 1) := by decide +kernel
theorem dX4_add_28 : decode cX4_add 28 = .ok (.if_icmp .lt 5, 3) := by decide +kernel
theorem dX4_add_31 : decode cX4_add 31 = .ok (.iconst 0, 1) := by decide +kernel
theorem dX4_add_32 : decode cX4_add 32 = .ok (.ireturn, 1) := by decide +kernel
theorem dX4_add_33 : decode cX4_add 33 = .ok (.aload_n 0, 1) := by decide +kernel
theorem dX4_add_34 : decode cX4_add 34 = .ok (.getfield 9, 3) := by decide +kernel
theorem dX4_add_37 : decode cX4_add 37 = .ok (.aload_n 0, 1) := by decide +kernel
theorem dX4_add_38 : decode cX4_add 38 = .ok (.getfield 18, 3) := by decide +kernel
theorem dX4_add_41 : decode cX4_add 41 = .ok (.iload_n 1, 1) := by decide +kernel
theorem dX4_add_42 : decode cX4_add 42 = .ok (.iastore, 1) := by decide +kernel
theorem dX4_add_43 : decode cX4_add 43 = .ok (.aload_n 0, 1) := by decide +kernel
theorem dX4_add_44 : decode cX4_add 44 = .ok (.getfield 15, 3) := by decide +kernel
theorem dX4_add_47 : decode cX4_add 47 = .ok (.aload_n 0, 1) := by decide +kernel
theorem dX4_add_48 : decode cX4_add 48 = .ok (.getfield 18, 3) := by decide +kernel
theorem dX4_add_51 : decode cX4_add 51 = .ok (.iload_n 2, 1) := by decide +kernel
theorem dX4_add_52 : decode cX4_add 52 = .ok (.iastore, 1) := by decide +kernel
theorem dX4_add_53 : decode cX4_add 53 = .ok (.aload_n 0, 1) := by decide +kernel
theorem dX4_add_54 : decode cX4_add 54 = .ok (.dup, 1) := by decide +kernel
theorem dX4_add_55 : decode cX4_add 55 = .ok (.getfield 18, 3) := by decide +kernel
theorem dX4_add_58 : decode cX4_add 58 = .ok (.iconst 1, 1) := by decide +kernel
theorem dX4_add_59 : decode cX4_add 59 = .ok (.iadd, 1) := by decide +kernel
theorem dX4_add_60 : decode cX4_add 60 = .ok (.putfield 18, 3) := by decide +kernel
theorem dX4_add_63 : decode cX4_add 63 = .ok (.iconst 1, 1) := by decide +kernel
theorem dX4_add_64 : decode cX4_add 64 = .ok (.ireturn, 1) := by decide +kernel
theorem dX4_timeAt_0 : decode cX4_timeAt 0 = .ok (.iload_n 1, 1) := by decide +kernel
theorem dX4_timeAt_1 : decode cX4_timeAt 1 = .ok (.ifCond .lt 21, 3) := by decide +kernel
theorem dX4_timeAt_4 : decode cX4_timeAt 4 = .ok (.iload_n 1, 1) := by decide +kernel
theorem dX4_timeAt_5 : decode cX4_timeAt 5 = .ok (.aload_n 0, 1) := by decide +kernel
theorem dX4_timeAt_6 : decode cX4_timeAt 6 = .ok (.getfield 9, 3) := by decide +kernel
theorem dX4_timeAt_9 : decode cX4_timeAt 9 = .ok (.arraylength, 1) := by decide +kernel
theorem dX4_timeAt_10 : decode cX4_timeAt 10 = .ok (.if_icmp .ge 12, 3) := by decide +kernel
theorem dX4_timeAt_13 : decode cX4_timeAt 13 = .ok (.aload_n 0, 1) := by decide +kernel
theorem dX4_timeAt_14 : decode cX4_timeAt 14 = .ok (.getfield 9, 3) := by decide +kernel
theorem dX4_timeAt_17 : decode cX4_timeAt 17 = .ok (.iload_n 1, 1) := by decide +kernel
theorem dX4_timeAt_18 : decode cX4_timeAt 18 = .ok (.iaload, 1) := by decide +kernel
theorem dX4_timeAt_19 : decode cX4_timeAt 19 = .ok (.goto 4, 3) := by decide +kernel
theorem dX4_timeAt_22 : decode cX4_timeAt 22 = .ok (.iconst 0, 1) := by decide +kernel
theorem dX4_timeAt_23 : decode cX4_timeAt 23 = .ok (.ireturn, 1) := by decide +kernel
theorem dX4_phaseAt_0 : decode cX4_phaseAt 0 = .ok (.iload_n 1, 1) := by decide +kernel
theorem dX4_phaseAt_1 : decode cX4_phaseAt 1 = .ok (.ifCond .lt 21, 3) := by decide +kernel
theorem dX4_phaseAt_4 : decode cX4_phaseAt 4 = .ok (.iload_n 1, 1) := by decide +kernel
theorem dX4_phaseAt_5 : decode cX4_phaseAt 5 = .ok (.aload_n 0, 1) := by decide +kernel
theorem dX4_phaseAt_6 : decode cX4_phaseAt 6 = .ok (.getfield 15, 3) := by decide +kernel
theorem dX4_phaseAt_9 : decode cX4_phaseAt 9 = .ok (.arraylength, 1) := by decide +kernel
theorem dX4_phaseAt_10 : decode cX4_phaseAt 10 = .ok (.if_icmp .ge 12, 3) := by decide +kernel
theorem dX4_phaseAt_13 : decode cX4_phaseAt 13 = .ok (.aload_n 0, 1) := by decide +kernel
theorem dX4_phaseAt_14 : decode cX4_phaseAt 14 = .ok (.getfield 15, 3) := by decide +kernel
theorem dX4_phaseAt_17 : decode cX4_phaseAt 17 = .ok (.iload_n 1, 1) := by decide +kernel
theorem dX4_phaseAt_18 : decode cX4_phaseAt 18 = .ok (.iaload, 1) := by decide +kernel
theorem dX4_phaseAt_19 : decode cX4_phaseAt 19 = .ok (.goto 5, 3) := by decide +kernel
theorem dX4_phaseAt_22 : decode cX4_phaseAt 22 = .ok (.bipush (-9), 2) := by decide +kernel
theorem dX4_phaseAt_24 : decode cX4_phaseAt 24 = .ok (.ireturn, 1) := by decide +kernel
theorem dX5_init_0 : decode cX5_init 0 = .ok (.aload_n 0, 1) := by decide +kernel
theorem dX5_init_1 : decode cX5_init 1 = .ok (.invokespecial 1, 3) := by decide +kernel
theorem dX5_init_4 : decode cX5_init 4 = .ok (.aload_n 0, 1) := by decide +kernel
theorem dX5_init_5 : decode cX5_init 5 = .ok (.new 7, 3) := by decide +kernel
theorem dX5_init_8 : decode cX5_init 8 = .ok (.dup, 1) := by decide +kernel
theorem dX5_init_9 : decode cX5_init 9 = .ok (.invokespecial 9, 3) := by decide +kernel
theorem dX5_init_12 : decode cX5_init 12 = .ok (.putfield 10, 3) := by decide +kernel
theorem dX5_init_15 : decode cX5_init 15 = .ok (.aload_n 0, 1) := by decide +kernel
theorem dX5_init_16 : decode cX5_init 16 = .ok (.iconst 0, 1) := by decide +kernel
theorem dX5_init_17 : decode cX5_init 17 = .ok (.putfield 16, 3) := by decide +kernel
theorem dX5_init_20 : decode cX5_init 20 = .ok (.return_, 1) := by decide +kernel
theorem dX6_init_0 : decode cX6_init 0 = .ok (.aload_n 0, 1) := by decide +kernel
theorem dX6_init_1 : decode cX6_init 1 = .ok (.invokespecial 3, 3) := by decide +kernel
theorem dX6_init_4 : decode cX6_init 4 = .ok (.aload_n 0, 1) := by decide +kernel
theorem dX6_init_5 : decode cX6_init 5 = .ok (.bipush 80, 2) := by decide +kernel
theorem dX6_init_7 : decode cX6_init 7 = .ok (.newarray .int, 2) := by decide +kernel
theorem dX6_init_9 : decode cX6_init 9 = .ok (.putfield 9, 3) := by decide +kernel
theorem dX6_init_12 : decode cX6_init 12 = .ok (.aload_n 0, 1) := by decide +kernel
theorem dX6_init_13 : decode cX6_init 13 = .ok (.iconst 0, 1) := by decide +kernel
theorem dX6_init_14 : decode cX6_init 14 = .ok (.putfield 15, 3) := by decide +kernel
theorem dX6_init_17 : decode cX6_init 17 = .ok (.return_, 1) := by decide +kernel
theorem dX6_append_0 : decode cX6_append 0 = .ok (.aload_n 0, 1) := by decide +kernel
theorem dX6_append_1 : decode cX6_append 1 = .ok (.getfield 15, 3) := by decide +kernel
theorem dX6_append_4 : decode cX6_append 4 = .ok (.ifCond .lt 15, 3) := by decide +kernel
theorem dX6_append_7 : decode cX6_append 7 = .ok (.aload_n 0, 1) := by decide +kernel
theorem dX6_append_8 : decode cX6_append 8 = .ok (.getfield 15, 3) := by decide +kernel
theorem dX6_append_11 : decode cX6_append 11 = .ok (.aload_n 0, 1) := by decide +kernel
theorem dX6_append_12 : decode cX6_append 12 = .ok (.getfield 9, 3) := by decide +kernel
theorem dX6_append_15 : decode cX6_append 15 = .ok (.arraylength, 1) := by decide +kernel
theorem dX6_append_16 : decode cX6_append 16 = .ok (.if_icmp .lt 5, 3) := by decide +kernel
theorem dX6_append_19 : decode cX6_append 19 = .ok (.iconst 0, 1) := by decide +kernel
theorem dX6_append_20 : decode cX6_append 20 = .ok (.ireturn, 1) := by decide +kernel
theorem dX6_append_21 : decode cX6_append 21 = .ok (.aload_n 0, 1) := by decide +kernel
theorem dX6_append_22 : decode cX6_append 22 = .ok (.getfield 9, 3) := by decide +kernel
theorem dX6_append_25 : decode cX6_append 25 = .ok (.aload_n 0, 1) := by decide +kernel
theorem dX6_append_26 : decode cX6_append 26 = .ok (.getfield 15, 3) := by decide +kernel
theorem dX6_append_29 : decode cX6_append 29 = .ok (.iload_n 1, 1) := by decide +kernel
theorem dX6_append_30 : decode cX6_append 30 = .ok (.iastore, 1) := by decide +kernel
theorem dX6_append_31 : decode cX6_append 31 = .ok (.aload_n 0, 1) := by decide +kernel
theorem dX6_append_32 : decode cX6_append 32 = .ok (.dup, 1) := by decide +kernel
theorem dX6_append_33 : decode cX6_append 33 = .ok (.getfield 15, 3) := by decide +kernel
theorem dX6_append_36 : decode cX6_append 36 = .ok (.iconst 1, 1) := by decide +kernel
theorem dX6_append_37 : decode cX6_append 37 = .ok (.iadd, 1) := by decide +kernel
theorem dX6_append_38 : decode cX6_append 38 = .ok (.putfield 15, 3) := by decide +kernel
theorem dX6_append_41 : decode cX6_append 41 = .ok (.iconst 1, 1) := by decide +kernel
theorem dX6_append_42 : decode cX6_append 42 = .ok (.ireturn, 1) := by decide +kernel
theorem dX6_signAt_0 : decode cX6_signAt 0 = .ok (.iload_n 1, 1) := by decide +kernel
theorem dX6_signAt_1 : decode cX6_signAt 1 = .ok (.ifCond .lt 29, 3) := by decide +kernel
theorem dX6_signAt_4 : decode cX6_signAt 4 = .ok (.iload_n 1, 1) := by decide +kernel
theorem dX6_signAt_5 : decode cX6_signAt 5 = .ok (.aload_n 0, 1) := by decide +kernel
theorem dX6_signAt_6 : decode cX6_signAt 6 = .ok (.getfield 15, 3) := by decide +kernel
theorem dX6_signAt_9 : decode cX6_signAt 9 = .ok (.if_icmp .ge 21, 3) := by decide +kernel
theorem dX6_signAt_12 : decode cX6_signAt 12 = .ok (.iload_n 1, 1) := by decide +kernel
theorem dX6_signAt_13 : decode cX6_signAt 13 = .ok (.aload_n 0, 1) := by decide +kernel
theorem dX6_signAt_14 : decode cX6_signAt 14 = .ok (.getfield 9, 3) := by decide +kernel
theorem dX6_signAt_17 : decode cX6_signAt 17 = .ok (.arraylength, 1) := by decide +kernel
theorem dX6_signAt_18 : decode cX6_signAt 18 = .ok (.if_icmp .ge 12, 3) := by decide +kernel
theorem dX6_signAt_21 : decode cX6_signAt 21 = .ok (.aload_n 0, 1) := by decide +kernel
theorem dX6_signAt_22 : decode cX6_signAt 22 = .ok (.getfield 9, 3) := by decide +kernel
theorem dX6_signAt_25 : decode cX6_signAt 25 = .ok (.iload_n 1, 1) := by decide +kernel
theorem dX6_signAt_26 : decode cX6_signAt 26 = .ok (.iaload, 1) := by decide +kernel
theorem dX6_signAt_27 : decode cX6_signAt 27 = .ok (.goto 4, 3) := by decide +kernel
theorem dX6_signAt_30 : decode cX6_signAt 30 = .ok (.iconst 0, 1) := by decide +kernel
theorem dX6_signAt_31 : decode cX6_signAt 31 = .ok (.ireturn, 1) := by decide +kernel
theorem dX6_figureAt_0 : decode cX6_figureAt 0 = .ok (.aload_n 0, 1) := by decide +kernel
theorem dX6_figureAt_1 : decode cX6_figureAt 1 = .ok (.iload_n 1, 1) := by decide +kernel
theorem dX6_figureAt_2 : decode cX6_figureAt 2 = .ok (.invokevirtual 19, 3) := by decide +kernel
theorem dX6_figureAt_5 : decode cX6_figureAt 5 = .ok (.bipush 48, 2) := by decide +kernel
theorem dX6_figureAt_7 : decode cX6_figureAt 7 = .ok (.isub, 1) := by decide +kernel
theorem dX6_figureAt_8 : decode cX6_figureAt 8 = .ok (.ireturn, 1) := by decide +kernel
theorem dX6_faultPlace_0 : decode cX6_faultPlace 0 = .ok (.iconst 0, 1) := by decide +kernel
theorem dX6_faultPlace_1 : decode cX6_faultPlace 1 = .ok (.istore_n 1, 1) := by decide +kernel
theorem dX6_faultPlace_2 : decode cX6_faultPlace 2 = .ok (.iload_n 1, 1) := by decide +kernel
theorem dX6_faultPlace_3 : decode cX6_faultPlace 3 = .ok (.aload_n 0, 1) := by decide +kernel
theorem dX6_faultPlace_4 : decode cX6_faultPlace 4 = .ok (.getfield 15, 3) := by decide +kernel
theorem dX6_faultPlace_7 : decode cX6_faultPlace 7 = .ok (.if_icmp .ge 23, 3) := by decide +kernel
theorem dX6_faultPlace_10 : decode cX6_faultPlace 10 = .ok (.iload_n 1, 1) := by decide +kernel
theorem dX6_faultPlace_11 : decode cX6_faultPlace 11 = .ok (.aload_n 0, 1) := by decide +kernel
theorem dX6_faultPlace_12 : decode cX6_faultPlace 12 = .ok (.iload_n 1, 1) := by decide +kernel
theorem dX6_faultPlace_13 : decode cX6_faultPlace 13 = .ok (.invokevirtual 19, 3) := by decide +kernel
theorem dX6_faultPlace_16 : decode cX6_faultPlace 16 = .ok (.invokestatic 23, 3) := by decide +kernel
theorem dX6_faultPlace_19 : decode cX6_faultPlace 19 = .ok (.ifCond .ne 5, 3) := by decide +kernel
theorem dX6_faultPlace_22 : decode cX6_faultPlace 22 = .ok (.iload_n 1, 1) := by decide +kernel
theorem dX6_faultPlace_23 : decode cX6_faultPlace 23 = .ok (.ireturn, 1) := by decide +kernel
theorem dX6_faultPlace_24 : decode cX6_faultPlace 24 = .ok (.iinc 1 1, 3) := by decide +kernel
theorem dX6_faultPlace_27 : decode cX6_faultPlace 27 = .ok (.goto (-25), 3) := by decide +kernel
theorem dX6_faultPlace_30 : decode cX6_faultPlace 30 = .ok (.aload_n 0, 1) := by decide +kernel
theorem dX6_faultPlace_31 : decode cX6_faultPlace 31 = .ok (.getfield 15, 3) := by decide +kernel
theorem dX6_faultPlace_34 : decode cX6_faultPlace 34 = .ok (.bipush 9, 2) := by decide +kernel
theorem dX6_faultPlace_36 : decode cX6_faultPlace 36 = .ok (.if_icmp .ge 10, 3) := by decide +kernel
theorem dX6_faultPlace_39 : decode cX6_faultPlace 39 = .ok (.aload_n 0, 1) := by decide +kernel
theorem dX6_faultPlace_40 : decode cX6_faultPlace 40 = .ok (.getfield 15, 3) := by decide +kernel
theorem dX6_faultPlace_43 : decode cX6_faultPlace 43 = .ok (.goto 5, 3) := by decide +kernel
theorem dX6_faultPlace_46 : decode cX6_faultPlace 46 = .ok (.bipush (-9), 2) := by decide +kernel
theorem dX6_faultPlace_48 : decode cX6_faultPlace 48 = .ok (.ireturn, 1) := by decide +kernel
theorem dX6_mayStand_0 : decode cX6_mayStand 0 = .ok (.iload_n 0, 1) := by decide +kernel
theorem dX6_mayStand_1 : decode cX6_mayStand 1 = .ok (.ifCond .ne 15, 3) := by decide +kernel
theorem dX6_mayStand_4 : decode cX6_mayStand 4 = .ok (.iload_n 1, 1) := by decide +kernel
theorem dX6_mayStand_5 : decode cX6_mayStand 5 = .ok (.bipush 76, 2) := by decide +kernel
theorem dX6_mayStand_7 : decode cX6_mayStand 7 = .ok (.if_icmp .ne 7, 3) := by decide +kernel
theorem dX6_mayStand_10 : decode cX6_mayStand 10 = .ok (.iconst 1, 1) := by decide +kernel
theorem dX6_mayStand_11 : decode cX6_mayStand 11 = .ok (.goto 4, 3) := by decide +kernel
theorem dX6_mayStand_14 : decode cX6_mayStand 14 = .ok (.iconst 0, 1) := by decide +kernel
theorem dX6_mayStand_15 : decode cX6_mayStand 15 = .ok (.ireturn, 1) := by decide +kernel
theorem dX6_mayStand_16 : decode cX6_mayStand 16 = .ok (.iload_n 0, 1) := by decide +kernel
theorem dX6_mayStand_17 : decode cX6_mayStand 17 = .ok (.iconst 2, 1) := by decide +kernel
theorem dX6_mayStand_18 : decode cX6_mayStand 18 = .ok (.if_icmp .ne 11, 3) := by decide +kernel
theorem dX6_mayStand_21 : decode cX6_mayStand 21 = .ok (.iload_n 1, 1) := by decide +kernel
theorem dX6_mayStand_22 : decode cX6_mayStand 22 = .ok (.bipush 49, 2) := by decide +kernel
theorem dX6_mayStand_24 : decode cX6_mayStand 24 = .ok (.if_icmp .ne 5, 3) := by decide +kernel
theorem dX6_mayStand_27 : decode cX6_mayStand 27 = .ok (.iconst 0, 1) := by decide +kernel
theorem dX6_mayStand_28 : decode cX6_mayStand 28 = .ok (.ireturn, 1) := by decide +kernel
theorem dX6_mayStand_29 : decode cX6_mayStand 29 = .ok (.iload_n 1, 1) := by decide +kernel
theorem dX6_mayStand_30 : decode cX6_mayStand 30 = .ok (.bipush 48, 2) := by decide +kernel
theorem dX6_mayStand_32 : decode cX6_mayStand 32 = .ok (.isub, 1) := by decide +kernel
theorem dX6_mayStand_33 : decode cX6_mayStand 33 = .ok (.invokestatic 27, 3) := by decide +kernel
theorem dX6_mayStand_36 : decode cX6_mayStand 36 = .ok (.ifCond .ne 21, 3) := by decide +kernel
theorem dX6_mayStand_39 : decode cX6_mayStand 39 = .ok (.iload_n 0, 1) := by decide +kernel
theorem dX6_mayStand_40 : decode cX6_mayStand 40 = .ok (.bipush 9, 2) := by decide +kernel
theorem dX6_mayStand_42 : decode cX6_mayStand 42 = .ok (.if_icmp .lt 19, 3) := by decide +kernel
theorem dX6_mayStand_45 : decode cX6_mayStand 45 = .ok (.iload_n 1, 1) := by decide +kernel
theorem dX6_mayStand_46 : decode cX6_mayStand 46 = .ok (.bipush 97, 2) := by decide +kernel
theorem dX6_mayStand_48 : decode cX6_mayStand 48 = .ok (.if_icmp .eq 9, 3) := by decide +kernel
theorem dX6_mayStand_51 : decode cX6_mayStand 51 = .ok (.iload_n 1, 1) := by decide +kernel
theorem dX6_mayStand_52 : decode cX6_mayStand 52 = .ok (.bipush 98, 2) := by decide +kernel
theorem dX6_mayStand_54 : decode cX6_mayStand 54 = .ok (.if_icmp .ne 7, 3) := by decide +kernel
theorem dX6_mayStand_57 : decode cX6_mayStand 57 = .ok (.iconst 1, 1) := by decide +kernel
theorem dX6_mayStand_58 : decode cX6_mayStand 58 = .ok (.goto 4, 3) := by decide +kernel
theorem dX6_mayStand_61 : decode cX6_mayStand 61 = .ok (.iconst 0, 1) := by decide +kernel
theorem dX6_mayStand_62 : decode cX6_mayStand 62 = .ok (.ireturn, 1) := by decide +kernel
theorem dX7_init_0 : decode cX7_init 0 = .ok (.aload_n 0, 1) := by decide +kernel
theorem dX7_init_1 : decode cX7_init 1 = .ok (.invokespecial 1, 3) := by decide +kernel
theorem dX7_init_4 : decode cX7_init 4 = .ok (.aload_n 0, 1) := by decide +kernel
theorem dX7_init_5 : decode cX7_init 5 = .ok (.new 7, 3) := by decide +kernel
theorem dX7_init_8 : decode cX7_init 8 = .ok (.dup, 1) := by decide +kernel
theorem dX7_init_9 : decode cX7_init 9 = .ok (.invokespecial 9, 3) := by decide +kernel
theorem dX7_init_12 : decode cX7_init 12 = .ok (.putfield 10, 3) := by decide +kernel
theorem dX7_init_15 : decode cX7_init 15 = .ok (.aload_n 0, 1) := by decide +kernel
theorem dX7_init_16 : decode cX7_init 16 = .ok (.new 16, 3) := by decide +kernel
theorem dX7_init_19 : decode cX7_init 19 = .ok (.dup, 1) := by decide +kernel
theorem dX7_init_20 : decode cX7_init 20 = .ok (.invokespecial 18, 3) := by decide +kernel
theorem dX7_init_23 : decode cX7_init 23 = .ok (.putfield 19, 3) := by decide +kernel
theorem dX7_init_26 : decode cX7_init 26 = .ok (.aload_n 0, 1) := by decide +kernel
theorem dX7_init_27 : decode cX7_init 27 = .ok (.new 23, 3) := by decide +kernel
theorem dX7_init_30 : decode cX7_init 30 = .ok (.dup, 1) := by decide +kernel
theorem dX7_init_31 : decode cX7_init 31 = .ok (.invokespecial 25, 3) := by decide +kernel
theorem dX7_init_34 : decode cX7_init 34 = .ok (.putfield 26, 3) := by decide +kernel
theorem dX7_init_37 : decode cX7_init 37 = .ok (.aload_n 0, 1) := by decide +kernel
theorem dX7_init_38 : decode cX7_init 38 = .ok (.new 23, 3) := by decide +kernel
theorem dX7_init_41 : decode cX7_init 41 = .ok (.dup, 1) := by decide +kernel
theorem dX7_init_42 : decode cX7_init 42 = .ok (.invokespecial 25, 3) := by decide +kernel
theorem dX7_init_45 : decode cX7_init 45 = .ok (.putfield 30, 3) := by decide +kernel
theorem dX7_init_48 : decode cX7_init 48 = .ok (.aload_n 0, 1) := by decide +kernel
theorem dX7_init_49 : decode cX7_init 49 = .ok (.new 33, 3) := by decide +kernel
theorem dX7_init_52 : decode cX7_init 52 = .ok (.dup, 1) := by decide +kernel
theorem dX7_init_53 : decode cX7_init 53 = .ok (.invokespecial 35, 3) := by decide +kernel
theorem dX7_init_56 : decode cX7_init 56 = .ok (.putfield 36, 3) := by decide +kernel
theorem dX7_init_59 : decode cX7_init 59 = .ok (.aload_n 0, 1) := by decide +kernel
theorem dX7_init_60 : decode cX7_init 60 = .ok (.new 40, 3) := by decide +kernel
theorem dX7_init_63 : decode cX7_init 63 = .ok (.dup, 1) := by decide +kernel
theorem dX7_init_64 : decode cX7_init 64 = .ok (.invokespecial 42, 3) := by decide +kernel
theorem dX7_init_67 : decode cX7_init 67 = .ok (.putfield 43, 3) := by decide +kernel
theorem dX7_init_70 : decode cX7_init 70 = .ok (.aload_n 0, 1) := by decide +kernel
theorem dX7_init_71 : decode cX7_init 71 = .ok (.new 47, 3) := by decide +kernel
theorem dX7_init_74 : decode cX7_init 74 = .ok (.dup, 1) := by decide +kernel
theorem dX7_init_75 : decode cX7_init 75 = .ok (.invokespecial 49, 3) := by decide +kernel
theorem dX7_init_78 : decode cX7_init 78 = .ok (.putfield 50, 3) := by decide +kernel
theorem dX7_init_81 : decode cX7_init 81 = .ok (.aload_n 0, 1) := by decide +kernel
theorem dX7_init_82 : decode cX7_init 82 = .ok (.new 47, 3) := by decide +kernel
theorem dX7_init_85 : decode cX7_init 85 = .ok (.dup, 1) := by decide +kernel
theorem dX7_init_86 : decode cX7_init 86 = .ok (.invokespecial 49, 3) := by decide +kernel
theorem dX7_init_89 : decode cX7_init 89 = .ok (.putfield 54, 3) := by decide +kernel
theorem dX7_init_92 : decode cX7_init 92 = .ok (.aload_n 0, 1) := by decide +kernel
theorem dX7_init_93 : decode cX7_init 93 = .ok (.lconst 0, 1) := by decide +kernel
theorem dX7_init_94 : decode cX7_init 94 = .ok (.putfield 57, 3) := by decide +kernel
theorem dX7_init_97 : decode cX7_init 97 = .ok (.return_, 1) := by decide +kernel
theorem dX7_write_0 : decode cX7_write 0 = .ok (.iload_n 1, 1) := by decide +kernel
theorem dX7_write_1 : decode cX7_write 1 = .ok (.iconst 0, 1) := by decide +kernel
theorem dX7_write_2 : decode cX7_write 2 = .ok (.sipush 255, 3) := by decide +kernel
theorem dX7_write_5 : decode cX7_write 5 = .ok (.invokestatic 61, 3) := by decide +kernel
theorem dX7_write_8 : decode cX7_write 8 = .ok (.ifCond .ne 6, 3) := by decide +kernel
theorem dX7_write_11 : decode cX7_write 11 = .ok (.bipush (-2), 2) := by decide +kernel
theorem dX7_write_13 : decode cX7_write 13 = .ok (.ireturn, 1) := by decide +kernel
theorem dX7_write_14 : decode cX7_write 14 = .ok (.aload_n 0, 1) := by decide +kernel
theorem dX7_write_15 : decode cX7_write 15 = .ok (.getfield 10, 3) := by decide +kernel
theorem dX7_write_18 : decode cX7_write 18 = .ok (.iload_n 1, 1) := by decide +kernel
theorem dX7_write_19 : decode cX7_write 19 = .ok (.invokevirtual 65, 3) := by decide +kernel
theorem dX7_write_22 : decode cX7_write 22 = .ok (.ifCond .eq 13, 3) := by decide +kernel
theorem dX7_write_25 : decode cX7_write 25 = .ok (.aload_n 0, 1) := by decide +kernel
theorem dX7_write_26 : decode cX7_write 26 = .ok (.getfield 10, 3) := by decide +kernel
theorem dX7_write_29 : decode cX7_write 29 = .ok (.getfield 69, 3) := by decide +kernel
theorem dX7_write_32 : decode cX7_write 32 = .ok (.goto 5, 3) := by decide +kernel
theorem dX7_write_35 : decode cX7_write 35 = .ok (.bipush (-4), 2) := by decide +kernel
theorem dX7_write_37 : decode cX7_write 37 = .ok (.ireturn, 1) := by decide +kernel
theorem dX7_wipe_0 : decode cX7_wipe 0 = .ok (.aload_n 0, 1) := by decide +kernel
theorem dX7_wipe_1 : decode cX7_wipe 1 = .ok (.getfield 10, 3) := by decide +kernel
theorem dX7_wipe_4 : decode cX7_wipe 4 = .ok (.getfield 69, 3) := by decide +kernel
theorem dX7_wipe_7 : decode cX7_wipe 7 = .ok (.istore_n 1, 1) := by decide +kernel
theorem dX7_wipe_8 : decode cX7_wipe 8 = .ok (.aload_n 0, 1) := by decide +kernel
theorem dX7_wipe_9 : decode cX7_wipe 9 = .ok (.getfield 10, 3) := by decide +kernel
theorem dX7_wipe_12 : decode cX7_wipe 12 = .ok (.iconst 0, 1) := by decide +kernel
theorem dX7_wipe_13 : decode cX7_wipe 13 = .ok (.putfield 69, 3) := by decide +kernel
theorem dX7_wipe_16 : decode cX7_wipe 16 = .ok (.iload_n 1, 1) := by decide +kernel
theorem dX7_wipe_17 : decode cX7_wipe 17 = .ok (.ireturn, 1) := by decide +kernel
theorem dX7_fault_0 : decode cX7_fault 0 = .ok (.aload_n 0, 1) := by decide +kernel
theorem dX7_fault_1 : decode cX7_fault 1 = .ok (.getfield 10, 3) := by decide +kernel
theorem dX7_fault_4 : decode cX7_fault 4 = .ok (.invokevirtual 73, 3) := by decide +kernel
theorem dX7_fault_7 : decode cX7_fault 7 = .ok (.ireturn, 1) := by decide +kernel
theorem dX7_link_0 : decode cX7_link 0 = .ok (.aload_n 0, 1) := by decide +kernel
theorem dX7_link_1 : decode cX7_link 1 = .ok (.getfield 10, 3) := by decide +kernel
theorem dX7_link_4 : decode cX7_link 4 = .ok (.invokevirtual 73, 3) := by decide +kernel
theorem dX7_link_7 : decode cX7_link 7 = .ok (.bipush (-9), 2) := by decide +kernel
theorem dX7_link_9 : decode cX7_link 9 = .ok (.if_icmp .eq 6, 3) := by decide +kernel
theorem dX7_link_12 : decode cX7_link 12 = .ok (.bipush (-3), 2) := by decide +kernel
theorem dX7_link_14 : decode cX7_link 14 = .ok (.ireturn, 1) := by decide +kernel
theorem dX7_link_15 : decode cX7_link 15 = .ok (.aload_n 0, 1) := by decide +kernel
theorem dX7_link_16 : decode cX7_link 16 = .ok (.getfield 19, 3) := by decide +kernel
theorem dX7_link_19 : decode cX7_link 19 = .ok (.aload_n 0, 1) := by decide +kernel
theorem dX7_link_20 : decode cX7_link 20 = .ok (.getfield 10, 3) := by decide +kernel
theorem dX7_link_23 : decode cX7_link 23 = .ok (.invokevirtual 77, 3) := by decide +kernel
theorem dX7_link_26 : decode cX7_link 26 = .ok (.aload_n 0, 1) := by decide +kernel
theorem dX7_link_27 : decode cX7_link 27 = .ok (.getfield 26, 3) := by decide +kernel
theorem dX7_link_30 : decode cX7_link 30 = .ok (.aload_n 0, 1) := by decide +kernel
theorem dX7_link_31 : decode cX7_link 31 = .ok (.getfield 19, 3) := by decide +kernel
theorem dX7_link_34 : decode cX7_link 34 = .ok (.getfield 81, 3) := by decide +kernel
theorem dX7_link_37 : decode cX7_link 37 = .ok (.invokevirtual 84, 3) := by decide +kernel
theorem dX7_link_40 : decode cX7_link 40 = .ok (.aload_n 0, 1) := by decide +kernel
theorem dX7_link_41 : decode cX7_link 41 = .ok (.getfield 19, 3) := by decide +kernel
theorem dX7_link_44 : decode cX7_link 44 = .ok (.aload_n 0, 1) := by decide +kernel
theorem dX7_link_45 : decode cX7_link 45 = .ok (.getfield 26, 3) := by decide +kernel
theorem dX7_link_48 : decode cX7_link 48 = .ok (.iconst 0, 1) := by decide +kernel
theorem dX7_link_49 : decode cX7_link 49 = .ok (.invokevirtual 87, 3) := by decide +kernel
theorem dX7_link_52 : decode cX7_link 52 = .ok (.aload_n 0, 1) := by decide +kernel
theorem dX7_link_53 : decode cX7_link 53 = .ok (.getfield 36, 3) := by decide +kernel
theorem dX7_link_56 : decode cX7_link 56 = .ok (.iconst 0, 1) := by decide +kernel
theorem dX7_link_57 : decode cX7_link 57 = .ok (.putfield 91, 3) := by decide +kernel
theorem dX7_link_60 : decode cX7_link 60 = .ok (.aload_n 0, 1) := by decide +kernel
theorem dX7_link_61 : decode cX7_link 61 = .ok (.getfield 50, 3) := by decide +kernel
theorem dX7_link_64 : decode cX7_link 64 = .ok (.iconst 0, 1) := by decide +kernel
theorem dX7_link_65 : decode cX7_link 65 = .ok (.putfield 92, 3) := by decide +kernel
theorem dX7_link_68 : decode cX7_link 68 = .ok (.aload_n 0, 1) := by decide +kernel
theorem dX7_link_69 : decode cX7_link 69 = .ok (.getfield 54, 3) := by decide +kernel
theorem dX7_link_72 : decode cX7_link 72 = .ok (.iconst 0, 1) := by decide +kernel
theorem dX7_link_73 : decode cX7_link 73 = .ok (.putfield 92, 3) := by decide +kernel
theorem dX7_link_76 : decode cX7_link 76 = .ok (.aload_n 0, 1) := by decide +kernel
theorem dX7_link_77 : decode cX7_link 77 = .ok (.getfield 26, 3) := by decide +kernel
theorem dX7_link_80 : decode cX7_link 80 = .ok (.getfield 96, 3) := by decide +kernel
theorem dX7_link_83 : decode cX7_link 83 = .ok (.ireturn, 1) := by decide +kernel
theorem dX7_ask_0 : decode cX7_ask 0 = .ok (.iload_n 1, 1) := by decide +kernel
theorem dX7_ask_1 : decode cX7_ask 1 = .ok (.bipush 10, 2) := by decide +kernel
theorem dX7_ask_3 : decode cX7_ask 3 = .ok (.if_icmp .ne 8, 3) := by decide +kernel
theorem dX7_ask_6 : decode cX7_ask 6 = .ok (.aload_n 0, 1) := by decide +kernel
theorem dX7_ask_7 : decode cX7_ask 7 = .ok (.invokevirtual 99, 3) := by decide +kernel
theorem dX7_ask_10 : decode cX7_ask 10 = .ok (.ireturn, 1) := by decide +kernel
theorem dX7_ask_11 : decode cX7_ask 11 = .ok (.iload_n 1, 1) := by decide +kernel
theorem dX7_ask_12 : decode cX7_ask 12 = .ok (.iconst 0, 1) := by decide +kernel
theorem dX7_ask_13 : decode cX7_ask 13 = .ok (.bipush 9, 2) := by decide +kernel
theorem dX7_ask_15 : decode cX7_ask 15 = .ok (.invokestatic 61, 3) := by decide +kernel
theorem dX7_ask_18 : decode cX7_ask 18 = .ok (.ifCond .eq 14, 3) := by decide +kernel
theorem dX7_ask_21 : decode cX7_ask 21 = .ok (.aload_n 0, 1) := by decide +kernel
theorem dX7_ask_22 : decode cX7_ask 22 = .ok (.getfield 26, 3) := by decide +kernel
theorem dX7_ask_25 : decode cX7_ask 25 = .ok (.iload_n 1, 1) := by decide +kernel
theorem dX7_ask_26 : decode cX7_ask 26 = .ok (.invokevirtual 102, 3) := by decide +kernel
theorem dX7_ask_29 : decode cX7_ask 29 = .ok (.goto 5, 3) := by decide +kernel
theorem dX7_ask_32 : decode cX7_ask 32 = .ok (.bipush (-2), 2) := by decide +kernel
theorem dX7_ask_34 : decode cX7_ask 34 = .ok (.ireturn, 1) := by decide +kernel
theorem dX7_end_0 : decode cX7_end 0 = .ok (.iload_n 1, 1) := by decide +kernel
theorem dX7_end_1 : decode cX7_end 1 = .ok (.invokestatic 106, 3) := by decide +kernel
theorem dX7_end_4 : decode cX7_end 4 = .ok (.ifCond .ne 5, 3) := by decide +kernel
theorem dX7_end_7 : decode cX7_end 7 = .ok (.iconst (-1), 1) := by decide +kernel
theorem dX7_end_8 : decode cX7_end 8 = .ok (.ireturn, 1) := by decide +kernel
theorem dX7_end_9 : decode cX7_end 9 = .ok (.aload_n 0, 1) := by decide +kernel
theorem dX7_end_10 : decode cX7_end 10 = .ok (.getfield 26, 3) := by decide +kernel
theorem dX7_end_13 : decode cX7_end 13 = .ok (.iload_n 1, 1) := by decide +kernel
theorem dX7_end_14 : decode cX7_end 14 = .ok (.invokevirtual 109, 3) := by decide +kernel
theorem dX7_end_17 : decode cX7_end 17 = .ok (.astore_n 3, 1) := by decide +kernel
theorem dX7_end_18 : decode cX7_end 18 = .ok (.iload_n 2, 1) := by decide +kernel
theorem dX7_end_19 : decode cX7_end 19 = .ok (.tableswitch 92 0 6 #[41, 46, 51, 56, 61, 66, 86], 41) := by decide +kernel
theorem dX7_end_60 : decode cX7_end 60 = .ok (.aload_n 3, 1) := by decide +kernel
theorem dX7_end_61 : decode cX7_end 61 = .ok (.getfield 113, 3) := by decide +kernel
theorem dX7_end_64 : decode cX7_end 64 = .ok (.ireturn, 1) := by decide +kernel
theorem dX7_end_65 : decode cX7_end 65 = .ok (.aload_n 3, 1) := by decide +kernel
theorem dX7_end_66 : decode cX7_end 66 = .ok (.getfield 118, 3) := by decide +kernel
theorem dX7_end_69 : decode cX7_end 69 = .ok (.ireturn, 1) := by decide +kernel
theorem dX7_end_70 : decode cX7_end 70 = .ok (.aload_n 3, 1) := by decide +kernel
theorem dX7_end_71 : decode cX7_end 71 = .ok (.getfield 121, 3) := by decide +kernel
theorem dX7_end_74 : decode cX7_end 74 = .ok (.ireturn, 1) := by decide +kernel
theorem dX7_end_75 : decode cX7_end 75 = .ok (.aload_n 3, 1) := by decide +kernel
theorem dX7_end_76 : decode cX7_end 76 = .ok (.getfield 124, 3) := by decide +kernel
theorem dX7_end_79 : decode cX7_end 79 = .ok (.ireturn, 1) := by decide +kernel
theorem dX7_end_80 : decode cX7_end 80 = .ok (.aload_n 3, 1) := by decide +kernel
theorem dX7_end_81 : decode cX7_end 81 = .ok (.getfield 127, 3) := by decide +kernel
theorem dX7_end_84 : decode cX7_end 84 = .ok (.ireturn, 1) := by decide +kernel
theorem dX7_end_85 : decode cX7_end 85 = .ok (.aload_n 3, 1) := by decide +kernel
theorem dX7_end_86 : decode cX7_end 86 = .ok (.aload_n 0, 1) := by decide +kernel
theorem dX7_end_87 : decode cX7_end 87 = .ok (.getfield 26, 3) := by decide +kernel
theorem dX7_end_90 : decode cX7_end 90 = .ok (.getfield 96, 3) := by decide +kernel
theorem dX7_end_93 : decode cX7_end 93 = .ok (.invokevirtual 130, 3) := by decide +kernel
theorem dX7_end_96 : decode cX7_end 96 = .ok (.ifCond .eq 7, 3) := by decide +kernel
theorem dX7_end_99 : decode cX7_end 99 = .ok (.iconst 1, 1) := by decide +kernel
theorem dX7_end_100 : decode cX7_end 100 = .ok (.goto 4, 3) := by decide +kernel
theorem dX7_end_103 : decode cX7_end 103 = .ok (.iconst 0, 1) := by decide +kernel
theorem dX7_end_104 : decode cX7_end 104 = .ok (.ireturn, 1) := by decide +kernel
theorem dX7_end_105 : decode cX7_end 105 = .ok (.aload_n 0, 1) := by decide +kernel
theorem dX7_end_106 : decode cX7_end 106 = .ok (.iload_n 1, 1) := by decide +kernel
theorem dX7_end_107 : decode cX7_end 107 = .ok (.invokevirtual 133, 3) := by decide +kernel
theorem dX7_end_110 : decode cX7_end 110 = .ok (.ireturn, 1) := by decide +kernel
theorem dX7_end_111 : decode cX7_end 111 = .ok (.bipush (-2), 2) := by decide +kernel
theorem dX7_end_113 : decode cX7_end 113 = .ok (.ireturn, 1) := by decide +kernel
theorem dX7_held_0 : decode cX7_held 0 = .ok (.iload_n 1, 1) := by decide +kernel
theorem dX7_held_1 : decode cX7_held 1 = .ok (.invokestatic 106, 3) := by decide +kernel
theorem dX7_held_4 : decode cX7_held 4 = .ok (.ifCond .eq 18, 3) := by decide +kernel
theorem dX7_held_7 : decode cX7_held 7 = .ok (.aload_n 0, 1) := by decide +kernel
theorem dX7_held_8 : decode cX7_held 8 = .ok (.getfield 26, 3) := by decide +kernel
theorem dX7_held_11 : decode cX7_held 11 = .ok (.iload_n 1, 1) := by decide +kernel
theorem dX7_held_12 : decode cX7_held 12 = .ok (.invokevirtual 109, 3) := by decide +kernel
theorem dX7_held_15 : decode cX7_held 15 = .ok (.iload_n 2, 1) := by decide +kernel
theorem dX7_held_16 : decode cX7_held 16 = .ok (.invokevirtual 136, 3) := by decide +kernel
theorem dX7_held_19 : decode cX7_held 19 = .ok (.goto 4, 3) := by decide +kernel
theorem dX7_held_22 : decode cX7_held 22 = .ok (.iconst (-1), 1) := by decide +kernel
theorem dX7_held_23 : decode cX7_held 23 = .ok (.ireturn, 1) := by decide +kernel
theorem dX7_come_0 : decode cX7_come 0 = .ok (.iload_n 1, 1) := by decide +kernel
theorem dX7_come_1 : decode cX7_come 1 = .ok (.invokestatic 106, 3) := by decide +kernel
theorem dX7_come_4 : decode cX7_come 4 = .ok (.ifCond .ne 5, 3) := by decide +kernel
theorem dX7_come_7 : decode cX7_come 7 = .ok (.iconst (-1), 1) := by decide +kernel
theorem dX7_come_8 : decode cX7_come 8 = .ok (.ireturn, 1) := by decide +kernel
theorem dX7_come_9 : decode cX7_come 9 = .ok (.aload_n 0, 1) := by decide +kernel
theorem dX7_come_10 : decode cX7_come 10 = .ok (.getfield 26, 3) := by decide +kernel
theorem dX7_come_13 : decode cX7_come 13 = .ok (.iload_n 1, 1) := by decide +kernel
theorem dX7_come_14 : decode cX7_come 14 = .ok (.invokevirtual 109, 3) := by decide +kernel
theorem dX7_come_17 : decode cX7_come 17 = .ok (.astore_n 2, 1) := by decide +kernel
theorem dX7_come_18 : decode cX7_come 18 = .ok (.aload_n 2, 1) := by decide +kernel
theorem dX7_come_19 : decode cX7_come 19 = .ok (.invokevirtual 139, 3) := by decide +kernel
theorem dX7_come_22 : decode cX7_come 22 = .ok (.ifCond .eq 6, 3) := by decide +kernel
theorem dX7_come_25 : decode cX7_come 25 = .ok (.bipush (-4), 2) := by decide +kernel
theorem dX7_come_27 : decode cX7_come 27 = .ok (.ireturn, 1) := by decide +kernel
theorem dX7_come_28 : decode cX7_come 28 = .ok (.aload_n 0, 1) := by decide +kernel
theorem dX7_come_29 : decode cX7_come 29 = .ok (.getfield 36, 3) := by decide +kernel
theorem dX7_come_32 : decode cX7_come 32 = .ok (.aload_n 0, 1) := by decide +kernel
theorem dX7_come_33 : decode cX7_come 33 = .ok (.getfield 26, 3) := by decide +kernel
theorem dX7_come_36 : decode cX7_come 36 = .ok (.invokevirtual 143, 3) := by decide +kernel
theorem dX7_come_39 : decode cX7_come 39 = .ok (.aload_n 0, 1) := by decide +kernel
theorem dX7_come_40 : decode cX7_come 40 = .ok (.getfield 26, 3) := by decide +kernel
theorem dX7_come_43 : decode cX7_come 43 = .ok (.iload_n 1, 1) := by decide +kernel
theorem dX7_come_44 : decode cX7_come 44 = .ok (.iconst 0, 1) := by decide +kernel
theorem dX7_come_45 : decode cX7_come 45 = .ok (.invokevirtual 146, 3) := by decide +kernel
theorem dX7_come_48 : decode cX7_come 48 = .ok (.pop, 1) := by decide +kernel
theorem dX7_come_49 : decode cX7_come 49 = .ok (.aload_n 2, 1) := by decide +kernel
theorem dX7_come_50 : decode cX7_come 50 = .ok (.getfield 127, 3) := by decide +kernel
theorem dX7_come_53 : decode cX7_come 53 = .ok (.ireturn, 1) := by decide +kernel
theorem dX7_pass_0 : decode cX7_pass 0 = .ok (.iload_n 1, 1) := by decide +kernel
theorem dX7_pass_1 : decode cX7_pass 1 = .ok (.iconst 1, 1) := by decide +kernel
theorem dX7_pass_2 : decode cX7_pass 2 = .ok (.bipush 20, 2) := by decide +kernel
theorem dX7_pass_4 : decode cX7_pass 4 = .ok (.invokestatic 61, 3) := by decide +kernel
theorem dX7_pass_7 : decode cX7_pass 7 = .ok (.ifCond .ne 6, 3) := by decide +kernel
theorem dX7_pass_10 : decode cX7_pass 10 = .ok (.bipush (-2), 2) := by decide +kernel
theorem dX7_pass_12 : decode cX7_pass 12 = .ok (.ireturn, 1) := by decide +kernel
theorem dX7_pass_13 : decode cX7_pass 13 = .ok (.aload_n 0, 1) := by decide +kernel
theorem dX7_pass_14 : decode cX7_pass 14 = .ok (.getfield 36, 3) := by decide +kernel
theorem dX7_pass_17 : decode cX7_pass 17 = .ok (.aload_n 0, 1) := by decide +kernel
theorem dX7_pass_18 : decode cX7_pass 18 = .ok (.getfield 26, 3) := by decide +kernel
theorem dX7_pass_21 : decode cX7_pass 21 = .ok (.invokevirtual 143, 3) := by decide +kernel
theorem dX7_pass_24 : decode cX7_pass 24 = .ok (.aload_n 0, 1) := by decide +kernel
theorem dX7_pass_25 : decode cX7_pass 25 = .ok (.getfield 26, 3) := by decide +kernel
theorem dX7_pass_28 : decode cX7_pass 28 = .ok (.iload_n 1, 1) := by decide +kernel
theorem dX7_pass_29 : decode cX7_pass 29 = .ok (.invokevirtual 150, 3) := by decide +kernel
theorem dX7_pass_32 : decode cX7_pass 32 = .ok (.aload_n 0, 1) := by decide +kernel
theorem dX7_pass_33 : decode cX7_pass 33 = .ok (.getfield 26, 3) := by decide +kernel
theorem dX7_pass_36 : decode cX7_pass 36 = .ok (.getfield 96, 3) := by decide +kernel
theorem dX7_pass_39 : decode cX7_pass 39 = .ok (.ireturn, 1) := by decide +kernel
theorem dX7_tell_0 : decode cX7_tell 0 = .ok (.iload_n 1, 1) := by decide +kernel
theorem dX7_tell_1 : decode cX7_tell 1 = .ok (.invokestatic 106, 3) := by decide +kernel
theorem dX7_tell_4 : decode cX7_tell 4 = .ok (.ifCond .ne 5, 3) := by decide +kernel
theorem dX7_tell_7 : decode cX7_tell 7 = .ok (.iconst (-1), 1) := by decide +kernel
theorem dX7_tell_8 : decode cX7_tell 8 = .ok (.ireturn, 1) := by decide +kernel
theorem dX7_tell_9 : decode cX7_tell 9 = .ok (.iload_n 2, 1) := by decide +kernel
theorem dX7_tell_10 : decode cX7_tell 10 = .ok (.iconst 0, 1) := by decide +kernel
theorem dX7_tell_11 : decode cX7_tell 11 = .ok (.iconst 2, 1) := by decide +kernel
theorem dX7_tell_12 : decode cX7_tell 12 = .ok (.invokestatic 61, 3) := by decide +kernel
theorem dX7_tell_15 : decode cX7_tell 15 = .ok (.ifCond .eq 10, 3) := by decide +kernel
theorem dX7_tell_18 : decode cX7_tell 18 = .ok (.iload_n 3, 1) := by decide +kernel
theorem dX7_tell_19 : decode cX7_tell 19 = .ok (.invokestatic 154, 3) := by decide +kernel
theorem dX7_tell_22 : decode cX7_tell 22 = .ok (.ifCond .ne 6, 3) := by decide +kernel
theorem dX7_tell_25 : decode cX7_tell 25 = .ok (.bipush (-2), 2) := by decide +kernel
theorem dX7_tell_27 : decode cX7_tell 27 = .ok (.ireturn, 1) := by decide +kernel
theorem dX7_tell_28 : decode cX7_tell 28 = .ok (.iload_n 2, 1) := by decide +kernel
theorem dX7_tell_29 : decode cX7_tell 29 = .ok (.ifCond .ne 20, 3) := by decide +kernel
theorem dX7_tell_32 : decode cX7_tell 32 = .ok (.aload_n 0, 1) := by decide +kernel
theorem dX7_tell_33 : decode cX7_tell 33 = .ok (.getfield 26, 3) := by decide +kernel
theorem dX7_tell_36 : decode cX7_tell 36 = .ok (.iload_n 1, 1) := by decide +kernel
theorem dX7_tell_37 : decode cX7_tell 37 = .ok (.invokevirtual 109, 3) := by decide +kernel
theorem dX7_tell_40 : decode cX7_tell 40 = .ok (.invokevirtual 139, 3) := by decide +kernel
theorem dX7_tell_43 : decode cX7_tell 43 = .ok (.ifCond .eq 6, 3) := by decide +kernel
theorem dX7_tell_46 : decode cX7_tell 46 = .ok (.bipush (-4), 2) := by decide +kernel
theorem dX7_tell_48 : decode cX7_tell 48 = .ok (.ireturn, 1) := by decide +kernel
theorem dX7_tell_49 : decode cX7_tell 49 = .ok (.aload_n 0, 1) := by decide +kernel
theorem dX7_tell_50 : decode cX7_tell 50 = .ok (.getfield 36, 3) := by decide +kernel
theorem dX7_tell_53 : decode cX7_tell 53 = .ok (.aload_n 0, 1) := by decide +kernel
theorem dX7_tell_54 : decode cX7_tell 54 = .ok (.getfield 26, 3) := by decide +kernel
theorem dX7_tell_57 : decode cX7_tell 57 = .ok (.invokevirtual 143, 3) := by decide +kernel
theorem dX7_tell_60 : decode cX7_tell 60 = .ok (.aload_n 0, 1) := by decide +kernel
theorem dX7_tell_61 : decode cX7_tell 61 = .ok (.getfield 26, 3) := by decide +kernel
theorem dX7_tell_64 : decode cX7_tell 64 = .ok (.iload_n 1, 1) := by decide +kernel
theorem dX7_tell_65 : decode cX7_tell 65 = .ok (.iload_n 2, 1) := by decide +kernel
theorem dX7_tell_66 : decode cX7_tell 66 = .ok (.iload_n 3, 1) := by decide +kernel
theorem dX7_tell_67 : decode cX7_tell 67 = .ok (.invokevirtual 157, 3) := by decide +kernel
theorem dX7_tell_70 : decode cX7_tell 70 = .ok (.ireturn, 1) := by decide +kernel
theorem dX7_undo_0 : decode cX7_undo 0 = .ok (.aload_n 0, 1) := by decide +kernel
theorem dX7_undo_1 : decode cX7_undo 1 = .ok (.getfield 36, 3) := by decide +kernel
theorem dX7_undo_4 : decode cX7_undo 4 = .ok (.aload_n 0, 1) := by decide +kernel
theorem dX7_undo_5 : decode cX7_undo 5 = .ok (.getfield 26, 3) := by decide +kernel
theorem dX7_undo_8 : decode cX7_undo 8 = .ok (.invokevirtual 161, 3) := by decide +kernel
theorem dX7_undo_11 : decode cX7_undo 11 = .ok (.ifCond .eq 13, 3) := by decide +kernel
theorem dX7_undo_14 : decode cX7_undo 14 = .ok (.aload_n 0, 1) := by decide +kernel
theorem dX7_undo_15 : decode cX7_undo 15 = .ok (.getfield 36, 3) := by decide +kernel
theorem dX7_undo_18 : decode cX7_undo 18 = .ok (.getfield 91, 3) := by decide +kernel
theorem dX7_undo_21 : decode cX7_undo 21 = .ok (.goto 5, 3) := by decide +kernel
theorem dX7_undo_24 : decode cX7_undo 24 = .ok (.bipush (-3), 2) := by decide +kernel
theorem dX7_undo_26 : decode cX7_undo 26 = .ok (.ireturn, 1) := by decide +kernel
theorem dX7_ahead_0 : decode cX7_ahead 0 = .ok (.iload_n 1, 1) := by decide +kernel
theorem dX7_ahead_1 : decode cX7_ahead 1 = .ok (.iconst 0, 1) := by decide +kernel
theorem dX7_ahead_2 : decode cX7_ahead 2 = .ok (.bipush 99, 2) := by decide +kernel
theorem dX7_ahead_4 : decode cX7_ahead 4 = .ok (.invokestatic 61, 3) := by decide +kernel
theorem dX7_ahead_7 : decode cX7_ahead 7 = .ok (.ifCond .eq 13, 3) := by decide +kernel
theorem dX7_ahead_10 : decode cX7_ahead 10 = .ok (.iload_n 2, 1) := by decide +kernel
theorem dX7_ahead_11 : decode cX7_ahead 11 = .ok (.iconst 0, 1) := by decide +kernel
theorem dX7_ahead_12 : decode cX7_ahead 12 = .ok (.bipush 9, 2) := by decide +kernel
theorem dX7_ahead_14 : decode cX7_ahead 14 = .ok (.invokestatic 61, 3) := by decide +kernel
theorem dX7_ahead_17 : decode cX7_ahead 17 = .ok (.ifCond .ne 6, 3) := by decide +kernel
theorem dX7_ahead_20 : decode cX7_ahead 20 = .ok (.bipush (-2), 2) := by decide +kernel
theorem dX7_ahead_22 : decode cX7_ahead 22 = .ok (.ireturn, 1) := by decide +kernel
theorem dX7_ahead_23 : decode cX7_ahead 23 = .ok (.aload_n 0, 1) := by decide +kernel
theorem dX7_ahead_24 : decode cX7_ahead 24 = .ok (.getfield 30, 3) := by decide +kernel
theorem dX7_ahead_27 : decode cX7_ahead 27 = .ok (.aload_n 0, 1) := by decide +kernel
theorem dX7_ahead_28 : decode cX7_ahead 28 = .ok (.getfield 26, 3) := by decide +kernel
theorem dX7_ahead_31 : decode cX7_ahead 31 = .ok (.invokevirtual 84, 3) := by decide +kernel
theorem dX7_ahead_34 : decode cX7_ahead 34 = .ok (.aload_n 0, 1) := by decide +kernel
theorem dX7_ahead_35 : decode cX7_ahead 35 = .ok (.getfield 30, 3) := by decide +kernel
theorem dX7_ahead_38 : decode cX7_ahead 38 = .ok (.iload_n 1, 1) := by decide +kernel
theorem dX7_ahead_39 : decode cX7_ahead 39 = .ok (.invokevirtual 150, 3) := by decide +kernel
theorem dX7_ahead_42 : decode cX7_ahead 42 = .ok (.aload_n 0, 1) := by decide +kernel
theorem dX7_ahead_43 : decode cX7_ahead 43 = .ok (.getfield 30, 3) := by decide +kernel
theorem dX7_ahead_46 : decode cX7_ahead 46 = .ok (.iload_n 2, 1) := by decide +kernel
theorem dX7_ahead_47 : decode cX7_ahead 47 = .ok (.invokevirtual 102, 3) := by decide +kernel
theorem dX7_ahead_50 : decode cX7_ahead 50 = .ok (.ireturn, 1) := by decide +kernel
theorem dX7_play_0 : decode cX7_play 0 = .ok (.iload_n 1, 1) := by decide +kernel
theorem dX7_play_1 : decode cX7_play 1 = .ok (.iconst 0, 1) := by decide +kernel
theorem dX7_play_2 : decode cX7_play 2 = .ok (.iconst 5, 1) := by decide +kernel
theorem dX7_play_3 : decode cX7_play 3 = .ok (.invokestatic 61, 3) := by decide +kernel
theorem dX7_play_6 : decode cX7_play 6 = .ok (.ifCond .ne 6, 3) := by decide +kernel
theorem dX7_play_9 : decode cX7_play 9 = .ok (.bipush (-2), 2) := by decide +kernel
theorem dX7_play_11 : decode cX7_play 11 = .ok (.ireturn, 1) := by decide +kernel
theorem dX7_play_12 : decode cX7_play 12 = .ok (.iload_n 1, 1) := by decide +kernel
theorem dX7_play_13 : decode cX7_play 13 = .ok (.iconst 5, 1) := by decide +kernel
theorem dX7_play_14 : decode cX7_play 14 = .ok (.if_icmp .ne 11, 3) := by decide +kernel
theorem dX7_play_17 : decode cX7_play 17 = .ok (.aload_n 0, 1) := by decide +kernel
theorem dX7_play_18 : decode cX7_play 18 = .ok (.getfield 19, 3) := by decide +kernel
theorem dX7_play_21 : decode cX7_play 21 = .ok (.invokevirtual 165, 3) := by decide +kernel
theorem dX7_play_24 : decode cX7_play 24 = .ok (.ireturn, 1) := by decide +kernel
theorem dX7_play_25 : decode cX7_play 25 = .ok (.aload_n 0, 1) := by decide +kernel
theorem dX7_play_26 : decode cX7_play 26 = .ok (.getfield 30, 3) := by decide +kernel
theorem dX7_play_29 : decode cX7_play 29 = .ok (.aload_n 0, 1) := by decide +kernel
theorem dX7_play_30 : decode cX7_play 30 = .ok (.getfield 19, 3) := by decide +kernel
theorem dX7_play_33 : decode cX7_play 33 = .ok (.getfield 81, 3) := by decide +kernel
theorem dX7_play_36 : decode cX7_play 36 = .ok (.invokevirtual 84, 3) := by decide +kernel
theorem dX7_play_39 : decode cX7_play 39 = .ok (.aload_n 0, 1) := by decide +kernel
theorem dX7_play_40 : decode cX7_play 40 = .ok (.getfield 19, 3) := by decide +kernel
theorem dX7_play_43 : decode cX7_play 43 = .ok (.aload_n 0, 1) := by decide +kernel
theorem dX7_play_44 : decode cX7_play 44 = .ok (.getfield 30, 3) := by decide +kernel
theorem dX7_play_47 : decode cX7_play 47 = .ok (.iconst 0, 1) := by decide +kernel
theorem dX7_play_48 : decode cX7_play 48 = .ok (.invokevirtual 87, 3) := by decide +kernel
theorem dX7_play_51 : decode cX7_play 51 = .ok (.aload_n 0, 1) := by decide +kernel
theorem dX7_play_52 : decode cX7_play 52 = .ok (.getfield 30, 3) := by decide +kernel
theorem dX7_play_55 : decode cX7_play 55 = .ok (.invokevirtual 168, 3) := by decide +kernel
theorem dX7_play_58 : decode cX7_play 58 = .ok (.iload_n 1, 1) := by decide +kernel
theorem dX7_play_59 : decode cX7_play 59 = .ok (.tableswitch 61 0 3 #[29, 37, 45, 53], 29) := by decide +kernel
theorem dX7_play_88 : decode cX7_play 88 = .ok (.aload_n 0, 1) := by decide +kernel
theorem dX7_play_89 : decode cX7_play 89 = .ok (.getfield 30, 3) := by decide +kernel
theorem dX7_play_92 : decode cX7_play 92 = .ok (.invokevirtual 171, 3) := by decide +kernel
theorem dX7_play_95 : decode cX7_play 95 = .ok (.ireturn, 1) := by decide +kernel
theorem dX7_play_96 : decode cX7_play 96 = .ok (.aload_n 0, 1) := by decide +kernel
theorem dX7_play_97 : decode cX7_play 97 = .ok (.getfield 30, 3) := by decide +kernel
theorem dX7_play_100 : decode cX7_play 100 = .ok (.getfield 174, 3) := by decide +kernel
theorem dX7_play_103 : decode cX7_play 103 = .ok (.ireturn, 1) := by decide +kernel
theorem dX7_play_104 : decode cX7_play 104 = .ok (.aload_n 0, 1) := by decide +kernel
theorem dX7_play_105 : decode cX7_play 105 = .ok (.getfield 30, 3) := by decide +kernel
theorem dX7_play_108 : decode cX7_play 108 = .ok (.getfield 177, 3) := by decide +kernel
theorem dX7_play_111 : decode cX7_play 111 = .ok (.ireturn, 1) := by decide +kernel
theorem dX7_play_112 : decode cX7_play 112 = .ok (.aload_n 0, 1) := by decide +kernel
theorem dX7_play_113 : decode cX7_play 113 = .ok (.getfield 30, 3) := by decide +kernel
theorem dX7_play_116 : decode cX7_play 116 = .ok (.getfield 180, 3) := by decide +kernel
theorem dX7_play_119 : decode cX7_play 119 = .ok (.ireturn, 1) := by decide +kernel
theorem dX7_play_120 : decode cX7_play 120 = .ok (.aload_n 0, 1) := by decide +kernel
theorem dX7_play_121 : decode cX7_play 121 = .ok (.getfield 30, 3) := by decide +kernel
theorem dX7_play_124 : decode cX7_play 124 = .ok (.getfield 96, 3) := by decide +kernel
theorem dX7_play_127 : decode cX7_play 127 = .ok (.ireturn, 1) := by decide +kernel
theorem dX7_judge_0 : decode cX7_judge 0 = .ok (.iload_n 1, 1) := by decide +kernel
theorem dX7_judge_1 : decode cX7_judge 1 = .ok (.iconst 1, 1) := by decide +kernel
theorem dX7_judge_2 : decode cX7_judge 2 = .ok (.iconst 4, 1) := by decide +kernel
theorem dX7_judge_3 : decode cX7_judge 3 = .ok (.invokestatic 61, 3) := by decide +kernel
theorem dX7_judge_6 : decode cX7_judge 6 = .ok (.ifCond .ne 6, 3) := by decide +kernel
theorem dX7_judge_9 : decode cX7_judge 9 = .ok (.bipush (-2), 2) := by decide +kernel
theorem dX7_judge_11 : decode cX7_judge 11 = .ok (.ireturn, 1) := by decide +kernel
theorem dX7_judge_12 : decode cX7_judge 12 = .ok (.lconst 1, 1) := by decide +kernel
theorem dX7_judge_13 : decode cX7_judge 13 = .ok (.lstore 4, 2) := by decide +kernel
theorem dX7_judge_15 : decode cX7_judge 15 = .ok (.iconst 0, 1) := by decide +kernel
theorem dX7_judge_16 : decode cX7_judge 16 = .ok (.istore 6, 2) := by decide +kernel
theorem dX7_judge_18 : decode cX7_judge 18 = .ok (.iload 6, 2) := by decide +kernel
theorem dX7_judge_20 : decode cX7_judge 20 = .ok (.iload_n 1, 1) := by decide +kernel
theorem dX7_judge_21 : decode cX7_judge 21 = .ok (.if_icmp .ge 17, 3) := by decide +kernel
theorem dX7_judge_24 : decode cX7_judge 24 = .ok (.lload 4, 2) := by decide +kernel
theorem dX7_judge_26 : decode cX7_judge 26 = .ok (.ldc2_w 183, 3) := by decide +kernel
theorem dX7_judge_29 : decode cX7_judge 29 = .ok (.lmul, 1) := by decide +kernel
theorem dX7_judge_30 : decode cX7_judge 30 = .ok (.lstore 4, 2) := by decide +kernel
theorem dX7_judge_32 : decode cX7_judge 32 = .ok (.iinc 6 1, 3) := by decide +kernel
theorem dX7_judge_35 : decode cX7_judge 35 = .ok (.goto (-17), 3) := by decide +kernel
theorem dX7_judge_38 : decode cX7_judge 38 = .ok (.lload_n 2, 1) := by decide +kernel
theorem dX7_judge_39 : decode cX7_judge 39 = .ok (.lconst 0, 1) := by decide +kernel
theorem dX7_judge_40 : decode cX7_judge 40 = .ok (.lcmp, 1) := by decide +kernel
theorem dX7_judge_41 : decode cX7_judge 41 = .ok (.ifCond .lt 10, 3) := by decide +kernel
theorem dX7_judge_44 : decode cX7_judge 44 = .ok (.lload_n 2, 1) := by decide +kernel
theorem dX7_judge_45 : decode cX7_judge 45 = .ok (.lload 4, 2) := by decide +kernel
theorem dX7_judge_47 : decode cX7_judge 47 = .ok (.lcmp, 1) := by decide +kernel
theorem dX7_judge_48 : decode cX7_judge 48 = .ok (.ifCond .lt 6, 3) := by decide +kernel
theorem dX7_judge_51 : decode cX7_judge 51 = .ok (.bipush (-2), 2) := by decide +kernel
theorem dX7_judge_53 : decode cX7_judge 53 = .ok (.ireturn, 1) := by decide +kernel
theorem dX7_judge_54 : decode cX7_judge 54 = .ok (.aload_n 0, 1) := by decide +kernel
theorem dX7_judge_55 : decode cX7_judge 55 = .ok (.getfield 30, 3) := by decide +kernel
theorem dX7_judge_58 : decode cX7_judge 58 = .ok (.aload_n 0, 1) := by decide +kernel
theorem dX7_judge_59 : decode cX7_judge 59 = .ok (.getfield 26, 3) := by decide +kernel
theorem dX7_judge_62 : decode cX7_judge 62 = .ok (.invokevirtual 84, 3) := by decide +kernel
theorem dX7_judge_65 : decode cX7_judge 65 = .ok (.lload_n 2, 1) := by decide +kernel
theorem dX7_judge_66 : decode cX7_judge 66 = .ok (.lstore 6, 2) := by decide +kernel
theorem dX7_judge_68 : decode cX7_judge 68 = .ok (.iconst 0, 1) := by decide +kernel
theorem dX7_judge_69 : decode cX7_judge 69 = .ok (.istore 8, 2) := by decide +kernel
theorem dX7_judge_71 : decode cX7_judge 71 = .ok (.iload 8, 2) := by decide +kernel
theorem dX7_judge_73 : decode cX7_judge 73 = .ok (.iload_n 1, 1) := by decide +kernel
theorem dX7_judge_74 : decode cX7_judge 74 = .ok (.if_icmp .ge 52, 3) := by decide +kernel
theorem dX7_judge_77 : decode cX7_judge 77 = .ok (.lload 4, 2) := by decide +kernel
theorem dX7_judge_79 : decode cX7_judge 79 = .ok (.ldc2_w 183, 3) := by decide +kernel
theorem dX7_judge_82 : decode cX7_judge 82 = .ok (.lcmp, 1) := by decide +kernel
theorem dX7_judge_83 : decode cX7_judge 83 = .ok (.ifCond .lt 43, 3) := by decide +kernel
theorem dX7_judge_86 : decode cX7_judge 86 = .ok (.lload 4, 2) := by decide +kernel
theorem dX7_judge_88 : decode cX7_judge 88 = .ok (.ldc2_w 183, 3) := by decide +kernel
theorem dX7_judge_91 : decode cX7_judge 91 = .ok (.ldiv, 1) := by decide +kernel
theorem dX7_judge_92 : decode cX7_judge 92 = .ok (.lstore 4, 2) := by decide +kernel
theorem dX7_judge_94 : decode cX7_judge 94 = .ok (.aload_n 0, 1) := by decide +kernel
theorem dX7_judge_95 : decode cX7_judge 95 = .ok (.getfield 30, 3) := by decide +kernel
theorem dX7_judge_98 : decode cX7_judge 98 = .ok (.lload 6, 2) := by decide +kernel
theorem dX7_judge_100 : decode cX7_judge 100 = .ok (.lload 4, 2) := by decide +kernel
theorem dX7_judge_102 : decode cX7_judge 102 = .ok (.ldiv, 1) := by decide +kernel
theorem dX7_judge_103 : decode cX7_judge 103 = .ok (.l2i, 1) := by decide +kernel
theorem dX7_judge_104 : decode cX7_judge 104 = .ok (.invokevirtual 185, 3) := by decide +kernel
theorem dX7_judge_107 : decode cX7_judge 107 = .ok (.ifCond .ne 6, 3) := by decide +kernel
theorem dX7_judge_110 : decode cX7_judge 110 = .ok (.iload 8, 2) := by decide +kernel
theorem dX7_judge_112 : decode cX7_judge 112 = .ok (.ireturn, 1) := by decide +kernel
theorem dX7_judge_113 : decode cX7_judge 113 = .ok (.lload 6, 2) := by decide +kernel
theorem dX7_judge_115 : decode cX7_judge 115 = .ok (.lload 4, 2) := by decide +kernel
theorem dX7_judge_117 : decode cX7_judge 117 = .ok (.lrem, 1) := by decide +kernel
theorem dX7_judge_118 : decode cX7_judge 118 = .ok (.lstore 6, 2) := by decide +kernel
theorem dX7_judge_120 : decode cX7_judge 120 = .ok (.iinc 8 1, 3) := by decide +kernel
theorem dX7_judge_123 : decode cX7_judge 123 = .ok (.goto (-52), 3) := by decide +kernel
theorem dX7_judge_126 : decode cX7_judge 126 = .ok (.bipush (-9), 2) := by decide +kernel
theorem dX7_judge_128 : decode cX7_judge 128 = .ok (.ireturn, 1) := by decide +kernel
theorem dX7_see_0 : decode cX7_see 0 = .ok (.iload_n 1, 1) := by decide +kernel
theorem dX7_see_1 : decode cX7_see 1 = .ok (.iconst 0, 1) := by decide +kernel
theorem dX7_see_2 : decode cX7_see 2 = .ok (.bipush 99, 2) := by decide +kernel
theorem dX7_see_4 : decode cX7_see 4 = .ok (.invokestatic 61, 3) := by decide +kernel
theorem dX7_see_7 : decode cX7_see 7 = .ok (.ifCond .eq 12, 3) := by decide +kernel
theorem dX7_see_10 : decode cX7_see 10 = .ok (.iload_n 2, 1) := by decide +kernel
theorem dX7_see_11 : decode cX7_see 11 = .ok (.iconst 0, 1) := by decide +kernel
theorem dX7_see_12 : decode cX7_see 12 = .ok (.iconst 3, 1) := by decide +kernel
theorem dX7_see_13 : decode cX7_see 13 = .ok (.invokestatic 61, 3) := by decide +kernel
theorem dX7_see_16 : decode cX7_see 16 = .ok (.ifCond .ne 6, 3) := by decide +kernel
theorem dX7_see_19 : decode cX7_see 19 = .ok (.bipush (-2), 2) := by decide +kernel
theorem dX7_see_21 : decode cX7_see 21 = .ok (.ireturn, 1) := by decide +kernel
theorem dX7_see_22 : decode cX7_see 22 = .ok (.aload_n 0, 1) := by decide +kernel
theorem dX7_see_23 : decode cX7_see 23 = .ok (.getfield 43, 3) := by decide +kernel
theorem dX7_see_26 : decode cX7_see 26 = .ok (.iload_n 1, 1) := by decide +kernel
theorem dX7_see_27 : decode cX7_see 27 = .ok (.iload_n 2, 1) := by decide +kernel
theorem dX7_see_28 : decode cX7_see 28 = .ok (.invokevirtual 188, 3) := by decide +kernel
theorem dX7_see_31 : decode cX7_see 31 = .ok (.ifCond .eq 13, 3) := by decide +kernel
theorem dX7_see_34 : decode cX7_see 34 = .ok (.aload_n 0, 1) := by decide +kernel
theorem dX7_see_35 : decode cX7_see 35 = .ok (.getfield 43, 3) := by decide +kernel
theorem dX7_see_38 : decode cX7_see 38 = .ok (.getfield 190, 3) := by decide +kernel
theorem dX7_see_41 : decode cX7_see 41 = .ok (.goto 5, 3) := by decide +kernel
theorem dX7_see_44 : decode cX7_see 44 = .ok (.bipush (-4), 2) := by decide +kernel
theorem dX7_see_46 : decode cX7_see 46 = .ok (.ireturn, 1) := by decide +kernel
theorem dX7_unsee_0 : decode cX7_unsee 0 = .ok (.aload_n 0, 1) := by decide +kernel
theorem dX7_unsee_1 : decode cX7_unsee 1 = .ok (.getfield 43, 3) := by decide +kernel
theorem dX7_unsee_4 : decode cX7_unsee 4 = .ok (.getfield 190, 3) := by decide +kernel
theorem dX7_unsee_7 : decode cX7_unsee 7 = .ok (.istore_n 1, 1) := by decide +kernel
theorem dX7_unsee_8 : decode cX7_unsee 8 = .ok (.aload_n 0, 1) := by decide +kernel
theorem dX7_unsee_9 : decode cX7_unsee 9 = .ok (.getfield 43, 3) := by decide +kernel
theorem dX7_unsee_12 : decode cX7_unsee 12 = .ok (.iconst 0, 1) := by decide +kernel
theorem dX7_unsee_13 : decode cX7_unsee 13 = .ok (.putfield 190, 3) := by decide +kernel
theorem dX7_unsee_16 : decode cX7_unsee 16 = .ok (.iload_n 1, 1) := by decide +kernel
theorem dX7_unsee_17 : decode cX7_unsee 17 = .ok (.ireturn, 1) := by decide +kernel
theorem dX7_which_0 : decode cX7_which 0 = .ok (.iconst 0, 1) := by decide +kernel
theorem dX7_which_1 : decode cX7_which 1 = .ok (.istore_n 1, 1) := by decide +kernel
theorem dX7_which_2 : decode cX7_which 2 = .ok (.iconst 1, 1) := by decide +kernel
theorem dX7_which_3 : decode cX7_which 3 = .ok (.istore_n 2, 1) := by decide +kernel
theorem dX7_which_4 : decode cX7_which 4 = .ok (.iload_n 2, 1) := by decide +kernel
theorem dX7_which_5 : decode cX7_which 5 = .ok (.bipush 9, 2) := by decide +kernel
theorem dX7_which_7 : decode cX7_which 7 = .ok (.if_icmp .gt 23, 3) := by decide +kernel
theorem dX7_which_10 : decode cX7_which 10 = .ok (.aload_n 0, 1) := by decide +kernel
theorem dX7_which_11 : decode cX7_which 11 = .ok (.iload_n 2, 1) := by decide +kernel
theorem dX7_which_12 : decode cX7_which 12 = .ok (.invokevirtual 191, 3) := by decide +kernel
theorem dX7_which_15 : decode cX7_which 15 = .ok (.ifCond .eq 9, 3) := by decide +kernel
theorem dX7_which_18 : decode cX7_which 18 = .ok (.iload_n 1, 1) := by decide +kernel
theorem dX7_which_19 : decode cX7_which 19 = .ok (.iconst 1, 1) := by decide +kernel
theorem dX7_which_20 : decode cX7_which 20 = .ok (.iload_n 2, 1) := by decide +kernel
theorem dX7_which_21 : decode cX7_which 21 = .ok (.ishl, 1) := by decide +kernel
theorem dX7_which_22 : decode cX7_which 22 = .ok (.ior, 1) := by decide +kernel
theorem dX7_which_23 : decode cX7_which 23 = .ok (.istore_n 1, 1) := by decide +kernel
theorem dX7_which_24 : decode cX7_which 24 = .ok (.iinc 2 1, 3) := by decide +kernel
theorem dX7_which_27 : decode cX7_which 27 = .ok (.goto (-23), 3) := by decide +kernel
theorem dX7_which_30 : decode cX7_which 30 = .ok (.iload_n 1, 1) := by decide +kernel
theorem dX7_which_31 : decode cX7_which 31 = .ok (.ireturn, 1) := by decide +kernel
theorem dX7_share_0 : decode cX7_share 0 = .ok (.iload_n 1, 1) := by decide +kernel
theorem dX7_share_1 : decode cX7_share 1 = .ok (.iconst 0, 1) := by decide +kernel
theorem dX7_share_2 : decode cX7_share 2 = .ok (.iconst 2, 1) := by decide +kernel
theorem dX7_share_3 : decode cX7_share 3 = .ok (.invokestatic 61, 3) := by decide +kernel
theorem dX7_share_6 : decode cX7_share 6 = .ok (.ifCond .ne 5, 3) := by decide +kernel
theorem dX7_share_9 : decode cX7_share 9 = .ok (.iconst (-1), 1) := by decide +kernel
theorem dX7_share_10 : decode cX7_share 10 = .ok (.ireturn, 1) := by decide +kernel
theorem dX7_share_11 : decode cX7_share 11 = .ok (.iconst 1, 1) := by decide +kernel
theorem dX7_share_12 : decode cX7_share 12 = .ok (.iload_n 1, 1) := by decide +kernel
theorem dX7_share_13 : decode cX7_share 13 = .ok (.ishl, 1) := by decide +kernel
theorem dX7_share_14 : decode cX7_share 14 = .ok (.istore_n 3, 1) := by decide +kernel
theorem dX7_share_15 : decode cX7_share 15 = .ok (.iconst 0, 1) := by decide +kernel
theorem dX7_share_16 : decode cX7_share 16 = .ok (.istore 4, 2) := by decide +kernel
theorem dX7_share_18 : decode cX7_share 18 = .ok (.iconst 0, 1) := by decide +kernel
theorem dX7_share_19 : decode cX7_share 19 = .ok (.istore 5, 2) := by decide +kernel
theorem dX7_share_21 : decode cX7_share 21 = .ok (.iload 5, 2) := by decide +kernel
theorem dX7_share_23 : decode cX7_share 23 = .ok (.bipush 7, 2) := by decide +kernel
theorem dX7_share_25 : decode cX7_share 25 = .ok (.if_icmp .gt 48, 3) := by decide +kernel
theorem dX7_share_28 : decode cX7_share 28 = .ok (.iload 5, 2) := by decide +kernel
theorem dX7_share_30 : decode cX7_share 30 = .ok (.iload_n 3, 1) := by decide +kernel
theorem dX7_share_31 : decode cX7_share 31 = .ok (.iand, 1) := by decide +kernel
theorem dX7_share_32 : decode cX7_share 32 = .ok (.ifCond .ne 35, 3) := by decide +kernel
theorem dX7_share_35 : decode cX7_share 35 = .ok (.aload_n 0, 1) := by decide +kernel
theorem dX7_share_36 : decode cX7_share 36 = .ok (.iload 5, 2) := by decide +kernel
theorem dX7_share_38 : decode cX7_share 38 = .ok (.iconst 0, 1) := by decide +kernel
theorem dX7_share_39 : decode cX7_share 39 = .ok (.invokevirtual 194, 3) := by decide +kernel
theorem dX7_share_42 : decode cX7_share 42 = .ok (.aload_n 0, 1) := by decide +kernel
theorem dX7_share_43 : decode cX7_share 43 = .ok (.iload 5, 2) := by decide +kernel
theorem dX7_share_45 : decode cX7_share 45 = .ok (.iload_n 3, 1) := by decide +kernel
theorem dX7_share_46 : decode cX7_share 46 = .ok (.ior, 1) := by decide +kernel
theorem dX7_share_47 : decode cX7_share 47 = .ok (.iconst 0, 1) := by decide +kernel
theorem dX7_share_48 : decode cX7_share 48 = .ok (.invokevirtual 194, 3) := by decide +kernel
theorem dX7_share_51 : decode cX7_share 51 = .ok (.isub, 1) := by decide +kernel
theorem dX7_share_52 : decode cX7_share 52 = .ok (.istore 6, 2) := by decide +kernel
theorem dX7_share_54 : decode cX7_share 54 = .ok (.iload 4, 2) := by decide +kernel
theorem dX7_share_56 : decode cX7_share 56 = .ok (.iload 5, 2) := by decide +kernel
theorem dX7_share_58 : decode cX7_share 58 = .ok (.invokestatic 198, 3) := by decide +kernel
theorem dX7_share_61 : decode cX7_share 61 = .ok (.iload 6, 2) := by decide +kernel
theorem dX7_share_63 : decode cX7_share 63 = .ok (.imul, 1) := by decide +kernel
theorem dX7_share_64 : decode cX7_share 64 = .ok (.iadd, 1) := by decide +kernel
theorem dX7_share_65 : decode cX7_share 65 = .ok (.istore 4, 2) := by decide +kernel
theorem dX7_share_67 : decode cX7_share 67 = .ok (.iinc 5 1, 3) := by decide +kernel
theorem dX7_share_70 : decode cX7_share 70 = .ok (.goto (-49), 3) := by decide +kernel
theorem dX7_share_73 : decode cX7_share 73 = .ok (.iload 4, 2) := by decide +kernel
theorem dX7_share_75 : decode cX7_share 75 = .ok (.bipush 6, 2) := by decide +kernel
theorem dX7_share_77 : decode cX7_share 77 = .ok (.iload_n 2, 1) := by decide +kernel
theorem dX7_share_78 : decode cX7_share 78 = .ok (.invokestatic 201, 3) := by decide +kernel
theorem dX7_share_81 : decode cX7_share 81 = .ok (.ireturn, 1) := by decide +kernel
theorem dX7_luck_0 : decode cX7_luck 0 = .ok (.iload_n 1, 1) := by decide +kernel
theorem dX7_luck_1 : decode cX7_luck 1 = .ok (.iconst 0, 1) := by decide +kernel
theorem dX7_luck_2 : decode cX7_luck 2 = .ok (.bipush 6, 2) := by decide +kernel
theorem dX7_luck_4 : decode cX7_luck 4 = .ok (.invokestatic 61, 3) := by decide +kernel
theorem dX7_luck_7 : decode cX7_luck 7 = .ok (.ifCond .eq 24, 3) := by decide +kernel
theorem dX7_luck_10 : decode cX7_luck 10 = .ok (.iload_n 2, 1) := by decide +kernel
theorem dX7_luck_11 : decode cX7_luck 11 = .ok (.iconst 0, 1) := by decide +kernel
theorem dX7_luck_12 : decode cX7_luck 12 = .ok (.sipush 9999, 3) := by decide +kernel
theorem dX7_luck_15 : decode cX7_luck 15 = .ok (.invokestatic 61, 3) := by decide +kernel
theorem dX7_luck_18 : decode cX7_luck 18 = .ok (.ifCond .eq 13, 3) := by decide +kernel
theorem dX7_luck_21 : decode cX7_luck 21 = .ok (.iload_n 3, 1) := by decide +kernel
theorem dX7_luck_22 : decode cX7_luck 22 = .ok (.iconst 0, 1) := by decide +kernel
theorem dX7_luck_23 : decode cX7_luck 23 = .ok (.bipush 10, 2) := by decide +kernel
theorem dX7_luck_25 : decode cX7_luck 25 = .ok (.invokestatic 61, 3) := by decide +kernel
theorem dX7_luck_28 : decode cX7_luck 28 = .ok (.ifCond .ne 6, 3) := by decide +kernel
theorem dX7_luck_31 : decode cX7_luck 31 = .ok (.bipush (-2), 2) := by decide +kernel
theorem dX7_luck_33 : decode cX7_luck 33 = .ok (.ireturn, 1) := by decide +kernel
theorem dX7_luck_34 : decode cX7_luck 34 = .ok (.iload_n 1, 1) := by decide +kernel
theorem dX7_luck_35 : decode cX7_luck 35 = .ok (.aload_n 0, 1) := by decide +kernel
theorem dX7_luck_36 : decode cX7_luck 36 = .ok (.getfield 19, 3) := by decide +kernel
theorem dX7_luck_39 : decode cX7_luck 39 = .ok (.invokevirtual 165, 3) := by decide +kernel
theorem dX7_luck_42 : decode cX7_luck 42 = .ok (.invokestatic 205, 3) := by decide +kernel
theorem dX7_luck_45 : decode cX7_luck 45 = .ok (.istore 5, 2) := by decide +kernel
theorem dX7_luck_47 : decode cX7_luck 47 = .ok (.iconst 0, 1) := by decide +kernel
theorem dX7_luck_48 : decode cX7_luck 48 = .ok (.istore 6, 2) := by decide +kernel
theorem dX7_luck_50 : decode cX7_luck 50 = .ok (.iconst 0, 1) := by decide +kernel
theorem dX7_luck_51 : decode cX7_luck 51 = .ok (.istore 7, 2) := by decide +kernel
theorem dX7_luck_53 : decode cX7_luck 53 = .ok (.iconst 0, 1) := by decide +kernel
theorem dX7_luck_54 : decode cX7_luck 54 = .ok (.istore 8, 2) := by decide +kernel
theorem dX7_luck_56 : decode cX7_luck 56 = .ok (.iload 8, 2) := by decide +kernel
theorem dX7_luck_58 : decode cX7_luck 58 = .ok (.iconst 1, 1) := by decide +kernel
theorem dX7_luck_59 : decode cX7_luck 59 = .ok (.iload 5, 2) := by decide +kernel
theorem dX7_luck_61 : decode cX7_luck 61 = .ok (.ishl, 1) := by decide +kernel
theorem dX7_luck_62 : decode cX7_luck 62 = .ok (.if_icmp .ge 50, 3) := by decide +kernel
theorem dX7_luck_65 : decode cX7_luck 65 = .ok (.iload 8, 2) := by decide +kernel
theorem dX7_luck_67 : decode cX7_luck 67 = .ok (.iload 5, 2) := by decide +kernel
theorem dX7_luck_69 : decode cX7_luck 69 = .ok (.iload_n 3, 1) := by decide +kernel
theorem dX7_luck_70 : decode cX7_luck 70 = .ok (.invokestatic 210, 3) := by decide +kernel
theorem dX7_luck_73 : decode cX7_luck 73 = .ok (.istore 9, 2) := by decide +kernel
theorem dX7_luck_75 : decode cX7_luck 75 = .ok (.iload 7, 2) := by decide +kernel
theorem dX7_luck_77 : decode cX7_luck 77 = .ok (.iload 9, 2) := by decide +kernel
theorem dX7_luck_79 : decode cX7_luck 79 = .ok (.iadd, 1) := by decide +kernel
theorem dX7_luck_80 : decode cX7_luck 80 = .ok (.istore 7, 2) := by decide +kernel
theorem dX7_luck_82 : decode cX7_luck 82 = .ok (.iload 9, 2) := by decide +kernel
theorem dX7_luck_84 : decode cX7_luck 84 = .ok (.ifCond .le 22, 3) := by decide +kernel
theorem dX7_luck_87 : decode cX7_luck 87 = .ok (.aload_n 0, 1) := by decide +kernel
theorem dX7_luck_88 : decode cX7_luck 88 = .ok (.bipush 7, 2) := by decide +kernel
theorem dX7_luck_90 : decode cX7_luck 90 = .ok (.iload 8, 2) := by decide +kernel
theorem dX7_luck_92 : decode cX7_luck 92 = .ok (.invokevirtual 194, 3) := by decide +kernel
theorem dX7_luck_95 : decode cX7_luck 95 = .ok (.iload_n 2, 1) := by decide +kernel
theorem dX7_luck_96 : decode cX7_luck 96 = .ok (.if_icmp .gt 10, 3) := by decide +kernel
theorem dX7_luck_99 : decode cX7_luck 99 = .ok (.iload 6, 2) := by decide +kernel
theorem dX7_luck_101 : decode cX7_luck 101 = .ok (.iload 9, 2) := by decide +kernel
theorem dX7_luck_103 : decode cX7_luck 103 = .ok (.iadd, 1) := by decide +kernel
theorem dX7_luck_104 : decode cX7_luck 104 = .ok (.istore 6, 2) := by decide +kernel
theorem dX7_luck_106 : decode cX7_luck 106 = .ok (.iinc 8 1, 3) := by decide +kernel
theorem dX7_luck_109 : decode cX7_luck 109 = .ok (.goto (-53), 3) := by decide +kernel
theorem dX7_luck_112 : decode cX7_luck 112 = .ok (.iload 6, 2) := by decide +kernel
theorem dX7_luck_114 : decode cX7_luck 114 = .ok (.iload 7, 2) := by decide +kernel
theorem dX7_luck_116 : decode cX7_luck 116 = .ok (.iload 4, 2) := by decide +kernel
theorem dX7_luck_118 : decode cX7_luck 118 = .ok (.invokestatic 201, 3) := by decide +kernel
theorem dX7_luck_121 : decode cX7_luck 121 = .ok (.ireturn, 1) := by decide +kernel
theorem dX7_seed_0 : decode cX7_seed 0 = .ok (.aload_n 0, 1) := by decide +kernel
theorem dX7_seed_1 : decode cX7_seed 1 = .ok (.getfield 57, 3) := by decide +kernel
theorem dX7_seed_4 : decode cX7_seed 4 = .ok (.lstore_n 3, 1) := by decide +kernel
theorem dX7_seed_5 : decode cX7_seed 5 = .ok (.aload_n 0, 1) := by decide +kernel
theorem dX7_seed_6 : decode cX7_seed 6 = .ok (.lload_n 1, 1) := by decide +kernel
theorem dX7_seed_7 : decode cX7_seed 7 = .ok (.putfield 57, 3) := by decide +kernel
theorem dX7_seed_10 : decode cX7_seed 10 = .ok (.lload_n 3, 1) := by decide +kernel
theorem dX7_seed_11 : decode cX7_seed 11 = .ok (.lreturn, 1) := by decide +kernel
theorem dX7_drawn_0 : decode cX7_drawn 0 = .ok (.iload_n 1, 1) := by decide +kernel
theorem dX7_drawn_1 : decode cX7_drawn 1 = .ok (.iconst 1, 1) := by decide +kernel
theorem dX7_drawn_2 : decode cX7_drawn 2 = .ok (.bipush 60, 2) := by decide +kernel
theorem dX7_drawn_4 : decode cX7_drawn 4 = .ok (.invokestatic 61, 3) := by decide +kernel
theorem dX7_drawn_7 : decode cX7_drawn 7 = .ok (.ifCond .ne 6, 3) := by decide +kernel
theorem dX7_drawn_10 : decode cX7_drawn 10 = .ok (.bipush (-2), 2) := by decide +kernel
theorem dX7_drawn_12 : decode cX7_drawn 12 = .ok (.ireturn, 1) := by decide +kernel
theorem dX7_drawn_13 : decode cX7_drawn 13 = .ok (.aload_n 0, 1) := by decide +kernel
theorem dX7_drawn_14 : decode cX7_drawn 14 = .ok (.getfield 30, 3) := by decide +kernel
theorem dX7_drawn_17 : decode cX7_drawn 17 = .ok (.aload_n 0, 1) := by decide +kernel
theorem dX7_drawn_18 : decode cX7_drawn 18 = .ok (.getfield 26, 3) := by decide +kernel
theorem dX7_drawn_21 : decode cX7_drawn 21 = .ok (.invokevirtual 84, 3) := by decide +kernel
theorem dX7_drawn_24 : decode cX7_drawn 24 = .ok (.iconst 0, 1) := by decide +kernel
theorem dX7_drawn_25 : decode cX7_drawn 25 = .ok (.istore_n 2, 1) := by decide +kernel
theorem dX7_drawn_26 : decode cX7_drawn 26 = .ok (.iload_n 2, 1) := by decide +kernel
theorem dX7_drawn_27 : decode cX7_drawn 27 = .ok (.iload_n 1, 1) := by decide +kernel
theorem dX7_drawn_28 : decode cX7_drawn 28 = .ok (.if_icmp .ge 61, 3) := by decide +kernel
theorem dX7_drawn_31 : decode cX7_drawn 31 = .ok (.aload_n 0, 1) := by decide +kernel
theorem dX7_drawn_32 : decode cX7_drawn 32 = .ok (.aload_n 0, 1) := by decide +kernel
theorem dX7_drawn_33 : decode cX7_drawn 33 = .ok (.getfield 57, 3) := by decide +kernel
theorem dX7_drawn_36 : decode cX7_drawn 36 = .ok (.ldc2_w 213, 3) := by decide +kernel
theorem dX7_drawn_39 : decode cX7_drawn 39 = .ok (.lmul, 1) := by decide +kernel
theorem dX7_drawn_40 : decode cX7_drawn 40 = .ok (.ldc2_w 215, 3) := by decide +kernel
theorem dX7_drawn_43 : decode cX7_drawn 43 = .ok (.ladd, 1) := by decide +kernel
theorem dX7_drawn_44 : decode cX7_drawn 44 = .ok (.putfield 57, 3) := by decide +kernel
theorem dX7_drawn_47 : decode cX7_drawn 47 = .ok (.aload_n 0, 1) := by decide +kernel
theorem dX7_drawn_48 : decode cX7_drawn 48 = .ok (.getfield 57, 3) := by decide +kernel
theorem dX7_drawn_51 : decode cX7_drawn 51 = .ok (.bipush 33, 2) := by decide +kernel
theorem dX7_drawn_53 : decode cX7_drawn 53 = .ok (.lushr, 1) := by decide +kernel
theorem dX7_drawn_54 : decode cX7_drawn 54 = .ok (.l2i, 1) := by decide +kernel
theorem dX7_drawn_55 : decode cX7_drawn 55 = .ok (.istore_n 3, 1) := by decide +kernel
theorem dX7_drawn_56 : decode cX7_drawn 56 = .ok (.iload_n 3, 1) := by decide +kernel
theorem dX7_drawn_57 : decode cX7_drawn 57 = .ok (.iconst 2, 1) := by decide +kernel
theorem dX7_drawn_58 : decode cX7_drawn 58 = .ok (.idiv, 1) := by decide +kernel
theorem dX7_drawn_59 : decode cX7_drawn 59 = .ok (.iconst 4, 1) := by decide +kernel
theorem dX7_drawn_60 : decode cX7_drawn 60 = .ok (.irem, 1) := by decide +kernel
theorem dX7_drawn_61 : decode cX7_drawn 61 = .ok (.ifCond .ne 15, 3) := by decide +kernel
theorem dX7_drawn_64 : decode cX7_drawn 64 = .ok (.aload_n 0, 1) := by decide +kernel
theorem dX7_drawn_65 : decode cX7_drawn 65 = .ok (.getfield 30, 3) := by decide +kernel
theorem dX7_drawn_68 : decode cX7_drawn 68 = .ok (.iload_n 3, 1) := by decide +kernel
theorem dX7_drawn_69 : decode cX7_drawn 69 = .ok (.iconst 2, 1) := by decide +kernel
theorem dX7_drawn_70 : decode cX7_drawn 70 = .ok (.irem, 1) := by decide +kernel
theorem dX7_drawn_71 : decode cX7_drawn 71 = .ok (.iconst 0, 1) := by decide +kernel
theorem dX7_drawn_72 : decode cX7_drawn 72 = .ok (.invokevirtual 146, 3) := by decide +kernel
theorem dX7_drawn_75 : decode cX7_drawn 75 = .ok (.pop, 1) := by decide +kernel
theorem dX7_drawn_76 : decode cX7_drawn 76 = .ok (.aload_n 0, 1) := by decide +kernel
theorem dX7_drawn_77 : decode cX7_drawn 77 = .ok (.getfield 30, 3) := by decide +kernel
theorem dX7_drawn_80 : decode cX7_drawn 80 = .ok (.invokevirtual 217, 3) := by decide +kernel
theorem dX7_drawn_83 : decode cX7_drawn 83 = .ok (.iinc 2 1, 3) := by decide +kernel
theorem dX7_drawn_86 : decode cX7_drawn 86 = .ok (.goto (-60), 3) := by decide +kernel
theorem dX7_drawn_89 : decode cX7_drawn 89 = .ok (.aload_n 0, 1) := by decide +kernel
theorem dX7_drawn_90 : decode cX7_drawn 90 = .ok (.getfield 30, 3) := by decide +kernel
theorem dX7_drawn_93 : decode cX7_drawn 93 = .ok (.getfield 177, 3) := by decide +kernel
theorem dX7_drawn_96 : decode cX7_drawn 96 = .ok (.aload_n 0, 1) := by decide +kernel
theorem dX7_drawn_97 : decode cX7_drawn 97 = .ok (.getfield 26, 3) := by decide +kernel
theorem dX7_drawn_100 : decode cX7_drawn 100 = .ok (.getfield 177, 3) := by decide +kernel
theorem dX7_drawn_103 : decode cX7_drawn 103 = .ok (.isub, 1) := by decide +kernel
theorem dX7_drawn_104 : decode cX7_drawn 104 = .ok (.ireturn, 1) := by decide +kernel
theorem dX7_keep_0 : decode cX7_keep 0 = .ok (.iload_n 1, 1) := by decide +kernel
theorem dX7_keep_1 : decode cX7_keep 1 = .ok (.invokestatic 220, 3) := by decide +kernel
theorem dX7_keep_4 : decode cX7_keep 4 = .ok (.ifCond .ne 5, 3) := by decide +kernel
theorem dX7_keep_7 : decode cX7_keep 7 = .ok (.iconst (-1), 1) := by decide +kernel
theorem dX7_keep_8 : decode cX7_keep 8 = .ok (.ireturn, 1) := by decide +kernel
theorem dX7_keep_9 : decode cX7_keep 9 = .ok (.aload_n 0, 1) := by decide +kernel
theorem dX7_keep_10 : decode cX7_keep 10 = .ok (.iload_n 1, 1) := by decide +kernel
theorem dX7_keep_11 : decode cX7_keep 11 = .ok (.invokevirtual 223, 3) := by decide +kernel
theorem dX7_keep_14 : decode cX7_keep 14 = .ok (.astore_n 2, 1) := by decide +kernel
theorem dX7_keep_15 : decode cX7_keep 15 = .ok (.aload_n 2, 1) := by decide +kernel
theorem dX7_keep_16 : decode cX7_keep 16 = .ok (.getfield 227, 3) := by decide +kernel
theorem dX7_keep_19 : decode cX7_keep 19 = .ok (.aload_n 0, 1) := by decide +kernel
theorem dX7_keep_20 : decode cX7_keep 20 = .ok (.getfield 26, 3) := by decide +kernel
theorem dX7_keep_23 : decode cX7_keep 23 = .ok (.invokevirtual 84, 3) := by decide +kernel
theorem dX7_keep_26 : decode cX7_keep 26 = .ok (.aload_n 2, 1) := by decide +kernel
theorem dX7_keep_27 : decode cX7_keep 27 = .ok (.iconst 1, 1) := by decide +kernel
theorem dX7_keep_28 : decode cX7_keep 28 = .ok (.putfield 92, 3) := by decide +kernel
theorem dX7_keep_31 : decode cX7_keep 31 = .ok (.aload_n 0, 1) := by decide +kernel
theorem dX7_keep_32 : decode cX7_keep 32 = .ok (.getfield 26, 3) := by decide +kernel
theorem dX7_keep_35 : decode cX7_keep 35 = .ok (.getfield 96, 3) := by decide +kernel
theorem dX7_keep_38 : decode cX7_keep 38 = .ok (.ireturn, 1) := by decide +kernel
theorem dX7_again_0 : decode cX7_again 0 = .ok (.iload_n 1, 1) := by decide +kernel
theorem dX7_again_1 : decode cX7_again 1 = .ok (.invokestatic 220, 3) := by decide +kernel
theorem dX7_again_4 : decode cX7_again 4 = .ok (.ifCond .ne 5, 3) := by decide +kernel
theorem dX7_again_7 : decode cX7_again 7 = .ok (.iconst (-1), 1) := by decide +kernel
theorem dX7_again_8 : decode cX7_again 8 = .ok (.ireturn, 1) := by decide +kernel
theorem dX7_again_9 : decode cX7_again 9 = .ok (.aload_n 0, 1) := by decide +kernel
theorem dX7_again_10 : decode cX7_again 10 = .ok (.iload_n 1, 1) := by decide +kernel
theorem dX7_again_11 : decode cX7_again 11 = .ok (.invokevirtual 223, 3) := by decide +kernel
theorem dX7_again_14 : decode cX7_again 14 = .ok (.astore_n 2, 1) := by decide +kernel
theorem dX7_again_15 : decode cX7_again 15 = .ok (.aload_n 2, 1) := by decide +kernel
theorem dX7_again_16 : decode cX7_again 16 = .ok (.getfield 92, 3) := by decide +kernel
theorem dX7_again_19 : decode cX7_again 19 = .ok (.ifCond .ne 6, 3) := by decide +kernel
theorem dX7_again_22 : decode cX7_again 22 = .ok (.bipush (-3), 2) := by decide +kernel
theorem dX7_again_24 : decode cX7_again 24 = .ok (.ireturn, 1) := by decide +kernel
theorem dX7_again_25 : decode cX7_again 25 = .ok (.aload_n 0, 1) := by decide +kernel
theorem dX7_again_26 : decode cX7_again 26 = .ok (.getfield 26, 3) := by decide +kernel
theorem dX7_again_29 : decode cX7_again 29 = .ok (.aload_n 2, 1) := by decide +kernel
theorem dX7_again_30 : decode cX7_again 30 = .ok (.getfield 227, 3) := by decide +kernel
theorem dX7_again_33 : decode cX7_again 33 = .ok (.invokevirtual 84, 3) := by decide +kernel
theorem dX7_again_36 : decode cX7_again 36 = .ok (.aload_n 0, 1) := by decide +kernel
theorem dX7_again_37 : decode cX7_again 37 = .ok (.getfield 36, 3) := by decide +kernel
theorem dX7_again_40 : decode cX7_again 40 = .ok (.iconst 0, 1) := by decide +kernel
theorem dX7_again_41 : decode cX7_again 41 = .ok (.putfield 91, 3) := by decide +kernel
theorem dX7_again_44 : decode cX7_again 44 = .ok (.aload_n 0, 1) := by decide +kernel
theorem dX7_again_45 : decode cX7_again 45 = .ok (.getfield 26, 3) := by decide +kernel
theorem dX7_again_48 : decode cX7_again 48 = .ok (.getfield 96, 3) := by decide +kernel
theorem dX7_again_51 : decode cX7_again 51 = .ok (.ireturn, 1) := by decide +kernel
theorem dX7_count_0 : decode cX7_count 0 = .ok (.iload_n 1, 1) := by decide +kernel
theorem dX7_count_1 : decode cX7_count 1 = .ok (.tableswitch 87 0 5 #[39, 47, 55, 63, 71, 79], 39) := by decide +kernel
theorem dX7_count_40 : decode cX7_count 40 = .ok (.aload_n 0, 1) := by decide +kernel
theorem dX7_count_41 : decode cX7_count 41 = .ok (.getfield 10, 3) := by decide +kernel
theorem dX7_count_44 : decode cX7_count 44 = .ok (.getfield 69, 3) := by decide +kernel
theorem dX7_count_47 : decode cX7_count 47 = .ok (.ireturn, 1) := by decide +kernel
theorem dX7_count_48 : decode cX7_count 48 = .ok (.aload_n 0, 1) := by decide +kernel
theorem dX7_count_49 : decode cX7_count 49 = .ok (.getfield 26, 3) := by decide +kernel
theorem dX7_count_52 : decode cX7_count 52 = .ok (.getfield 230, 3) := by decide +kernel
theorem dX7_count_55 : decode cX7_count 55 = .ok (.ireturn, 1) := by decide +kernel
theorem dX7_count_56 : decode cX7_count 56 = .ok (.aload_n 0, 1) := by decide +kernel
theorem dX7_count_57 : decode cX7_count 57 = .ok (.getfield 26, 3) := by decide +kernel
theorem dX7_count_60 : decode cX7_count 60 = .ok (.getfield 233, 3) := by decide +kernel
theorem dX7_count_63 : decode cX7_count 63 = .ok (.ireturn, 1) := by decide +kernel
theorem dX7_count_64 : decode cX7_count 64 = .ok (.aload_n 0, 1) := by decide +kernel
theorem dX7_count_65 : decode cX7_count 65 = .ok (.getfield 19, 3) := by decide +kernel
theorem dX7_count_68 : decode cX7_count 68 = .ok (.getfield 236, 3) := by decide +kernel
theorem dX7_count_71 : decode cX7_count 71 = .ok (.ireturn, 1) := by decide +kernel
theorem dX7_count_72 : decode cX7_count 72 = .ok (.aload_n 0, 1) := by decide +kernel
theorem dX7_count_73 : decode cX7_count 73 = .ok (.getfield 36, 3) := by decide +kernel
theorem dX7_count_76 : decode cX7_count 76 = .ok (.getfield 91, 3) := by decide +kernel
theorem dX7_count_79 : decode cX7_count 79 = .ok (.ireturn, 1) := by decide +kernel
theorem dX7_count_80 : decode cX7_count 80 = .ok (.aload_n 0, 1) := by decide +kernel
theorem dX7_count_81 : decode cX7_count 81 = .ok (.getfield 43, 3) := by decide +kernel
theorem dX7_count_84 : decode cX7_count 84 = .ok (.getfield 190, 3) := by decide +kernel
theorem dX7_count_87 : decode cX7_count 87 = .ok (.ireturn, 1) := by decide +kernel
theorem dX7_count_88 : decode cX7_count 88 = .ok (.bipush (-2), 2) := by decide +kernel
theorem dX7_count_90 : decode cX7_count 90 = .ok (.ireturn, 1) := by decide +kernel
theorem dX7_isWithin_0 : decode cX7_isWithin 0 = .ok (.iload_n 0, 1) := by decide +kernel
theorem dX7_isWithin_1 : decode cX7_isWithin 1 = .ok (.iload_n 1, 1) := by decide +kernel
theorem dX7_isWithin_2 : decode cX7_isWithin 2 = .ok (.if_icmp .lt 12, 3) := by decide +kernel
theorem dX7_isWithin_5 : decode cX7_isWithin 5 = .ok (.iload_n 0, 1) := by decide +kernel
theorem dX7_isWithin_6 : decode cX7_isWithin 6 = .ok (.iload_n 2, 1) := by decide +kernel
theorem dX7_isWithin_7 : decode cX7_isWithin 7 = .ok (.if_icmp .gt 7, 3) := by decide +kernel
theorem dX7_isWithin_10 : decode cX7_isWithin 10 = .ok (.iconst 1, 1) := by decide +kernel
theorem dX7_isWithin_11 : decode cX7_isWithin 11 = .ok (.goto 4, 3) := by decide +kernel
theorem dX7_isWithin_14 : decode cX7_isWithin 14 = .ok (.iconst 0, 1) := by decide +kernel
theorem dX7_isWithin_15 : decode cX7_isWithin 15 = .ok (.ireturn, 1) := by decide +kernel
theorem dX7_isFigure_0 : decode cX7_isFigure 0 = .ok (.iload_n 0, 1) := by decide +kernel
theorem dX7_isFigure_1 : decode cX7_isFigure 1 = .ok (.iconst 1, 1) := by decide +kernel
theorem dX7_isFigure_2 : decode cX7_isFigure 2 = .ok (.if_icmp .lt 13, 3) := by decide +kernel
theorem dX7_isFigure_5 : decode cX7_isFigure 5 = .ok (.iload_n 0, 1) := by decide +kernel
theorem dX7_isFigure_6 : decode cX7_isFigure 6 = .ok (.bipush 9, 2) := by decide +kernel
theorem dX7_isFigure_8 : decode cX7_isFigure 8 = .ok (.if_icmp .gt 7, 3) := by decide +kernel
theorem dX7_isFigure_11 : decode cX7_isFigure 11 = .ok (.iconst 1, 1) := by decide +kernel
theorem dX7_isFigure_12 : decode cX7_isFigure 12 = .ok (.goto 4, 3) := by decide +kernel
theorem dX7_isFigure_15 : decode cX7_isFigure 15 = .ok (.iconst 0, 1) := by decide +kernel
theorem dX7_isFigure_16 : decode cX7_isFigure 16 = .ok (.ireturn, 1) := by decide +kernel
theorem dX7_isEnd_0 : decode cX7_isEnd 0 = .ok (.iload_n 0, 1) := by decide +kernel
theorem dX7_isEnd_1 : decode cX7_isEnd 1 = .ok (.ifCond .eq 8, 3) := by decide +kernel
theorem dX7_isEnd_4 : decode cX7_isEnd 4 = .ok (.iload_n 0, 1) := by decide +kernel
theorem dX7_isEnd_5 : decode cX7_isEnd 5 = .ok (.iconst 1, 1) := by decide +kernel
theorem dX7_isEnd_6 : decode cX7_isEnd 6 = .ok (.if_icmp .ne 7, 3) := by decide +kernel
theorem dX7_isEnd_9 : decode cX7_isEnd 9 = .ok (.iconst 1, 1) := by decide +kernel
theorem dX7_isEnd_10 : decode cX7_isEnd 10 = .ok (.goto 4, 3) := by decide +kernel
theorem dX7_isEnd_13 : decode cX7_isEnd 13 = .ok (.iconst 0, 1) := by decide +kernel
theorem dX7_isEnd_14 : decode cX7_isEnd 14 = .ok (.ireturn, 1) := by decide +kernel
theorem dX7_isSlot_0 : decode cX7_isSlot 0 = .ok (.iload_n 0, 1) := by decide +kernel
theorem dX7_isSlot_1 : decode cX7_isSlot 1 = .ok (.ifCond .eq 8, 3) := by decide +kernel
theorem dX7_isSlot_4 : decode cX7_isSlot 4 = .ok (.iload_n 0, 1) := by decide +kernel
theorem dX7_isSlot_5 : decode cX7_isSlot 5 = .ok (.iconst 1, 1) := by decide +kernel
theorem dX7_isSlot_6 : decode cX7_isSlot 6 = .ok (.if_icmp .ne 7, 3) := by decide +kernel
theorem dX7_isSlot_9 : decode cX7_isSlot 9 = .ok (.iconst 1, 1) := by decide +kernel
theorem dX7_isSlot_10 : decode cX7_isSlot 10 = .ok (.goto 4, 3) := by decide +kernel
theorem dX7_isSlot_13 : decode cX7_isSlot 13 = .ok (.iconst 0, 1) := by decide +kernel
theorem dX7_isSlot_14 : decode cX7_isSlot 14 = .ok (.ireturn, 1) := by decide +kernel
theorem dX7_slotOf_0 : decode cX7_slotOf 0 = .ok (.iload_n 1, 1) := by decide +kernel
theorem dX7_slotOf_1 : decode cX7_slotOf 1 = .ok (.ifCond .ne 10, 3) := by decide +kernel
theorem dX7_slotOf_4 : decode cX7_slotOf 4 = .ok (.aload_n 0, 1) := by decide +kernel
theorem dX7_slotOf_5 : decode cX7_slotOf 5 = .ok (.getfield 50, 3) := by decide +kernel
theorem dX7_slotOf_8 : decode cX7_slotOf 8 = .ok (.goto 7, 3) := by decide +kernel
theorem dX7_slotOf_11 : decode cX7_slotOf 11 = .ok (.aload_n 0, 1) := by decide +kernel
theorem dX7_slotOf_12 : decode cX7_slotOf 12 = .ok (.getfield 54, 3) := by decide +kernel
theorem dX7_slotOf_15 : decode cX7_slotOf 15 = .ok (.areturn, 1) := by decide +kernel
theorem dX7_ticksTillQuiet_0 : decode cX7_ticksTillQuiet 0 = .ok (.aload_n 0, 1) := by decide +kernel
theorem dX7_ticksTillQuiet_1 : decode cX7_ticksTillQuiet 1 = .ok (.getfield 30, 3) := by decide +kernel
theorem dX7_ticksTillQuiet_4 : decode cX7_ticksTillQuiet 4 = .ok (.aload_n 0, 1) := by decide +kernel
theorem dX7_ticksTillQuiet_5 : decode cX7_ticksTillQuiet 5 = .ok (.getfield 26, 3) := by decide +kernel
theorem dX7_ticksTillQuiet_8 : decode cX7_ticksTillQuiet 8 = .ok (.invokevirtual 84, 3) := by decide +kernel
theorem dX7_ticksTillQuiet_11 : decode cX7_ticksTillQuiet 11 = .ok (.iconst 0, 1) := by decide +kernel
theorem dX7_ticksTillQuiet_12 : decode cX7_ticksTillQuiet 12 = .ok (.istore_n 1, 1) := by decide +kernel
theorem dX7_ticksTillQuiet_13 : decode cX7_ticksTillQuiet 13 = .ok (.iload_n 1, 1) := by decide +kernel
theorem dX7_ticksTillQuiet_14 : decode cX7_ticksTillQuiet 14 = .ok (.bipush 99, 2) := by decide +kernel
theorem dX7_ticksTillQuiet_16 : decode cX7_ticksTillQuiet 16 = .ok (.if_icmp .gt 28, 3) := by decide +kernel
theorem dX7_ticksTillQuiet_19 : decode cX7_ticksTillQuiet 19 = .ok (.aload_n 0, 1) := by decide +kernel
theorem dX7_ticksTillQuiet_20 : decode cX7_ticksTillQuiet 20 = .ok (.getfield 30, 3) := by decide +kernel
theorem dX7_ticksTillQuiet_23 : decode cX7_ticksTillQuiet 23 = .ok (.invokevirtual 237, 3) := by decide +kernel
theorem dX7_ticksTillQuiet_26 : decode cX7_ticksTillQuiet 26 = .ok (.ifCond .eq 5, 3) := by decide +kernel
theorem dX7_ticksTillQuiet_29 : decode cX7_ticksTillQuiet 29 = .ok (.iload_n 1, 1) := by decide +kernel
theorem dX7_ticksTillQuiet_30 : decode cX7_ticksTillQuiet 30 = .ok (.ireturn, 1) := by decide +kernel
theorem dX7_ticksTillQuiet_31 : decode cX7_ticksTillQuiet 31 = .ok (.aload_n 0, 1) := by decide +kernel
theorem dX7_ticksTillQuiet_32 : decode cX7_ticksTillQuiet 32 = .ok (.getfield 30, 3) := by decide +kernel
theorem dX7_ticksTillQuiet_35 : decode cX7_ticksTillQuiet 35 = .ok (.invokevirtual 217, 3) := by decide +kernel
theorem dX7_ticksTillQuiet_38 : decode cX7_ticksTillQuiet 38 = .ok (.iinc 1 1, 3) := by decide +kernel
theorem dX7_ticksTillQuiet_41 : decode cX7_ticksTillQuiet 41 = .ok (.goto (-28), 3) := by decide +kernel
theorem dX7_ticksTillQuiet_44 : decode cX7_ticksTillQuiet 44 = .ok (.bipush (-9), 2) := by decide +kernel
theorem dX7_ticksTillQuiet_46 : decode cX7_ticksTillQuiet 46 = .ok (.ireturn, 1) := by decide +kernel
theorem dX7_bestCount_0 : decode cX7_bestCount 0 = .ok (.iconst 1, 1) := by decide +kernel
theorem dX7_bestCount_1 : decode cX7_bestCount 1 = .ok (.istore_n 2, 1) := by decide +kernel
theorem dX7_bestCount_2 : decode cX7_bestCount 2 = .ok (.iconst 0, 1) := by decide +kernel
theorem dX7_bestCount_3 : decode cX7_bestCount 3 = .ok (.istore_n 3, 1) := by decide +kernel
theorem dX7_bestCount_4 : decode cX7_bestCount 4 = .ok (.iconst 1, 1) := by decide +kernel
theorem dX7_bestCount_5 : decode cX7_bestCount 5 = .ok (.istore 4, 2) := by decide +kernel
theorem dX7_bestCount_7 : decode cX7_bestCount 7 = .ok (.iload 4, 2) := by decide +kernel
theorem dX7_bestCount_9 : decode cX7_bestCount 9 = .ok (.bipush 9, 2) := by decide +kernel
theorem dX7_bestCount_11 : decode cX7_bestCount 11 = .ok (.if_icmp .gt 82, 3) := by decide +kernel
theorem dX7_bestCount_14 : decode cX7_bestCount 14 = .ok (.aload_n 0, 1) := by decide +kernel
theorem dX7_bestCount_15 : decode cX7_bestCount 15 = .ok (.getfield 30, 3) := by decide +kernel
theorem dX7_bestCount_18 : decode cX7_bestCount 18 = .ok (.aload_n 0, 1) := by decide +kernel
theorem dX7_bestCount_19 : decode cX7_bestCount 19 = .ok (.getfield 19, 3) := by decide +kernel
theorem dX7_bestCount_22 : decode cX7_bestCount 22 = .ok (.getfield 81, 3) := by decide +kernel
theorem dX7_bestCount_25 : decode cX7_bestCount 25 = .ok (.invokevirtual 84, 3) := by decide +kernel
theorem dX7_bestCount_28 : decode cX7_bestCount 28 = .ok (.aload_n 0, 1) := by decide +kernel
theorem dX7_bestCount_29 : decode cX7_bestCount 29 = .ok (.getfield 30, 3) := by decide +kernel
theorem dX7_bestCount_32 : decode cX7_bestCount 32 = .ok (.iload_n 1, 1) := by decide +kernel
theorem dX7_bestCount_33 : decode cX7_bestCount 33 = .ok (.invokevirtual 109, 3) := by decide +kernel
theorem dX7_bestCount_36 : decode cX7_bestCount 36 = .ok (.iload 4, 2) := by decide +kernel
theorem dX7_bestCount_38 : decode cX7_bestCount 38 = .ok (.putfield 118, 3) := by decide +kernel
theorem dX7_bestCount_41 : decode cX7_bestCount 41 = .ok (.aload_n 0, 1) := by decide +kernel
theorem dX7_bestCount_42 : decode cX7_bestCount 42 = .ok (.getfield 19, 3) := by decide +kernel
theorem dX7_bestCount_45 : decode cX7_bestCount 45 = .ok (.aload_n 0, 1) := by decide +kernel
theorem dX7_bestCount_46 : decode cX7_bestCount 46 = .ok (.getfield 30, 3) := by decide +kernel
theorem dX7_bestCount_49 : decode cX7_bestCount 49 = .ok (.iconst 0, 1) := by decide +kernel
theorem dX7_bestCount_50 : decode cX7_bestCount 50 = .ok (.invokevirtual 87, 3) := by decide +kernel
theorem dX7_bestCount_53 : decode cX7_bestCount 53 = .ok (.aload_n 0, 1) := by decide +kernel
theorem dX7_bestCount_54 : decode cX7_bestCount 54 = .ok (.getfield 30, 3) := by decide +kernel
theorem dX7_bestCount_57 : decode cX7_bestCount 57 = .ok (.invokevirtual 168, 3) := by decide +kernel
theorem dX7_bestCount_60 : decode cX7_bestCount 60 = .ok (.aload_n 0, 1) := by decide +kernel
theorem dX7_bestCount_61 : decode cX7_bestCount 61 = .ok (.getfield 30, 3) := by decide +kernel
theorem dX7_bestCount_64 : decode cX7_bestCount 64 = .ok (.invokevirtual 171, 3) := by decide +kernel
theorem dX7_bestCount_67 : decode cX7_bestCount 67 = .ok (.istore 5, 2) := by decide +kernel
theorem dX7_bestCount_69 : decode cX7_bestCount 69 = .ok (.iload 4, 2) := by decide +kernel
theorem dX7_bestCount_71 : decode cX7_bestCount 71 = .ok (.iconst 1, 1) := by decide +kernel
theorem dX7_bestCount_72 : decode cX7_bestCount 72 = .ok (.if_icmp .eq 9, 3) := by decide +kernel
theorem dX7_bestCount_75 : decode cX7_bestCount 75 = .ok (.iload 5, 2) := by decide +kernel
theorem dX7_bestCount_77 : decode cX7_bestCount 77 = .ok (.iload_n 3, 1) := by decide +kernel
theorem dX7_bestCount_78 : decode cX7_bestCount 78 = .ok (.if_icmp .ge 9, 3) := by decide +kernel
theorem dX7_bestCount_81 : decode cX7_bestCount 81 = .ok (.iload 4, 2) := by decide +kernel
theorem dX7_bestCount_83 : decode cX7_bestCount 83 = .ok (.istore_n 2, 1) := by decide +kernel
theorem dX7_bestCount_84 : decode cX7_bestCount 84 = .ok (.iload 5, 2) := by decide +kernel
theorem dX7_bestCount_86 : decode cX7_bestCount 86 = .ok (.istore_n 3, 1) := by decide +kernel
theorem dX7_bestCount_87 : decode cX7_bestCount 87 = .ok (.iinc 4 1, 3) := by decide +kernel
theorem dX7_bestCount_90 : decode cX7_bestCount 90 = .ok (.goto (-83), 3) := by decide +kernel
theorem dX7_bestCount_93 : decode cX7_bestCount 93 = .ok (.iload_n 2, 1) := by decide +kernel
theorem dX7_bestCount_94 : decode cX7_bestCount 94 = .ok (.ireturn, 1) := by decide +kernel
theorem dX7_explainsAll_0 : decode cX7_explainsAll 0 = .ok (.iconst 0, 1) := by decide +kernel
theorem dX7_explainsAll_1 : decode cX7_explainsAll 1 = .ok (.istore_n 2, 1) := by decide +kernel
theorem dX7_explainsAll_2 : decode cX7_explainsAll 2 = .ok (.iload_n 2, 1) := by decide +kernel
theorem dX7_explainsAll_3 : decode cX7_explainsAll 3 = .ok (.aload_n 0, 1) := by decide +kernel
theorem dX7_explainsAll_4 : decode cX7_explainsAll 4 = .ok (.getfield 43, 3) := by decide +kernel
theorem dX7_explainsAll_7 : decode cX7_explainsAll 7 = .ok (.getfield 190, 3) := by decide +kernel
theorem dX7_explainsAll_10 : decode cX7_explainsAll 10 = .ok (.if_icmp .ge 73, 3) := by decide +kernel
theorem dX7_explainsAll_13 : decode cX7_explainsAll 13 = .ok (.aload_n 0, 1) := by decide +kernel
theorem dX7_explainsAll_14 : decode cX7_explainsAll 14 = .ok (.getfield 30, 3) := by decide +kernel
theorem dX7_explainsAll_17 : decode cX7_explainsAll 17 = .ok (.aload_n 0, 1) := by decide +kernel
theorem dX7_explainsAll_18 : decode cX7_explainsAll 18 = .ok (.getfield 19, 3) := by decide +kernel
theorem dX7_explainsAll_21 : decode cX7_explainsAll 21 = .ok (.getfield 81, 3) := by decide +kernel
theorem dX7_explainsAll_24 : decode cX7_explainsAll 24 = .ok (.invokevirtual 84, 3) := by decide +kernel
theorem dX7_explainsAll_27 : decode cX7_explainsAll 27 = .ok (.aload_n 0, 1) := by decide +kernel
theorem dX7_explainsAll_28 : decode cX7_explainsAll 28 = .ok (.getfield 30, 3) := by decide +kernel
theorem dX7_explainsAll_31 : decode cX7_explainsAll 31 = .ok (.getfield 240, 3) := by decide +kernel
theorem dX7_explainsAll_34 : decode cX7_explainsAll 34 = .ok (.iload_n 1, 1) := by decide +kernel
theorem dX7_explainsAll_35 : decode cX7_explainsAll 35 = .ok (.putfield 118, 3) := by decide +kernel
theorem dX7_explainsAll_38 : decode cX7_explainsAll 38 = .ok (.aload_n 0, 1) := by decide +kernel
theorem dX7_explainsAll_39 : decode cX7_explainsAll 39 = .ok (.getfield 19, 3) := by decide +kernel
theorem dX7_explainsAll_42 : decode cX7_explainsAll 42 = .ok (.aload_n 0, 1) := by decide +kernel
theorem dX7_explainsAll_43 : decode cX7_explainsAll 43 = .ok (.getfield 30, 3) := by decide +kernel
theorem dX7_explainsAll_46 : decode cX7_explainsAll 46 = .ok (.aload_n 0, 1) := by decide +kernel
theorem dX7_explainsAll_47 : decode cX7_explainsAll 47 = .ok (.getfield 43, 3) := by decide +kernel
theorem dX7_explainsAll_50 : decode cX7_explainsAll 50 = .ok (.iload_n 2, 1) := by decide +kernel
theorem dX7_explainsAll_51 : decode cX7_explainsAll 51 = .ok (.invokevirtual 244, 3) := by decide +kernel
theorem dX7_explainsAll_54 : decode cX7_explainsAll 54 = .ok (.invokevirtual 247, 3) := by decide +kernel
theorem dX7_explainsAll_57 : decode cX7_explainsAll 57 = .ok (.aload_n 0, 1) := by decide +kernel
theorem dX7_explainsAll_58 : decode cX7_explainsAll 58 = .ok (.getfield 30, 3) := by decide +kernel
theorem dX7_explainsAll_61 : decode cX7_explainsAll 61 = .ok (.getfield 250, 3) := by decide +kernel
theorem dX7_explainsAll_64 : decode cX7_explainsAll 64 = .ok (.aload_n 0, 1) := by decide +kernel
theorem dX7_explainsAll_65 : decode cX7_explainsAll 65 = .ok (.getfield 43, 3) := by decide +kernel
theorem dX7_explainsAll_68 : decode cX7_explainsAll 68 = .ok (.iload_n 2, 1) := by decide +kernel
theorem dX7_explainsAll_69 : decode cX7_explainsAll 69 = .ok (.invokevirtual 253, 3) := by decide +kernel
theorem dX7_explainsAll_72 : decode cX7_explainsAll 72 = .ok (.if_icmp .eq 5, 3) := by decide +kernel
theorem dX7_explainsAll_75 : decode cX7_explainsAll 75 = .ok (.iconst 0, 1) := by decide +kernel
theorem dX7_explainsAll_76 : decode cX7_explainsAll 76 = .ok (.ireturn, 1) := by decide +kernel
theorem dX7_explainsAll_77 : decode cX7_explainsAll 77 = .ok (.iinc 2 1, 3) := by decide +kernel
theorem dX7_explainsAll_80 : decode cX7_explainsAll 80 = .ok (.goto (-78), 3) := by decide +kernel
theorem dX7_explainsAll_83 : decode cX7_explainsAll 83 = .ok (.iconst 1, 1) := by decide +kernel
theorem dX7_explainsAll_84 : decode cX7_explainsAll 84 = .ok (.ireturn, 1) := by decide +kernel
theorem dX7_energyOf_0 : decode cX7_energyOf 0 = .ok (.aload_n 0, 1) := by decide +kernel
theorem dX7_energyOf_1 : decode cX7_energyOf 1 = .ok (.getfield 30, 3) := by decide +kernel
theorem dX7_energyOf_4 : decode cX7_energyOf 4 = .ok (.aload_n 0, 1) := by decide +kernel
theorem dX7_energyOf_5 : decode cX7_energyOf 5 = .ok (.getfield 19, 3) := by decide +kernel
theorem dX7_energyOf_8 : decode cX7_energyOf 8 = .ok (.getfield 81, 3) := by decide +kernel
theorem dX7_energyOf_11 : decode cX7_energyOf 11 = .ok (.invokevirtual 84, 3) := by decide +kernel
theorem dX7_energyOf_14 : decode cX7_energyOf 14 = .ok (.iload_n 1, 1) := by decide +kernel
theorem dX7_energyOf_15 : decode cX7_energyOf 15 = .ok (.iconst 1, 1) := by decide +kernel
theorem dX7_energyOf_16 : decode cX7_energyOf 16 = .ok (.iand, 1) := by decide +kernel
theorem dX7_energyOf_17 : decode cX7_energyOf 17 = .ok (.ifCond .ne 14, 3) := by decide +kernel
theorem dX7_energyOf_20 : decode cX7_energyOf 20 = .ok (.aload_n 0, 1) := by decide +kernel
theorem dX7_energyOf_21 : decode cX7_energyOf 21 = .ok (.getfield 30, 3) := by decide +kernel
theorem dX7_energyOf_24 : decode cX7_energyOf 24 = .ok (.getfield 240, 3) := by decide +kernel
theorem dX7_energyOf_27 : decode cX7_energyOf 27 = .ok (.iconst 1, 1) := by decide +kernel
theorem dX7_energyOf_28 : decode cX7_energyOf 28 = .ok (.putfield 118, 3) := by decide +kernel
theorem dX7_energyOf_31 : decode cX7_energyOf 31 = .ok (.iload_n 1, 1) := by decide +kernel
theorem dX7_energyOf_32 : decode cX7_energyOf 32 = .ok (.iconst 2, 1) := by decide +kernel
theorem dX7_energyOf_33 : decode cX7_energyOf 33 = .ok (.iand, 1) := by decide +kernel
theorem dX7_energyOf_34 : decode cX7_energyOf 34 = .ok (.ifCond .ne 14, 3) := by decide +kernel
theorem dX7_energyOf_37 : decode cX7_energyOf 37 = .ok (.aload_n 0, 1) := by decide +kernel
theorem dX7_energyOf_38 : decode cX7_energyOf 38 = .ok (.getfield 30, 3) := by decide +kernel
theorem dX7_energyOf_41 : decode cX7_energyOf 41 = .ok (.getfield 256, 3) := by decide +kernel
theorem dX7_energyOf_44 : decode cX7_energyOf 44 = .ok (.iconst 1, 1) := by decide +kernel
theorem dX7_energyOf_45 : decode cX7_energyOf 45 = .ok (.putfield 118, 3) := by decide +kernel
theorem dX7_energyOf_48 : decode cX7_energyOf 48 = .ok (.aload_n 0, 1) := by decide +kernel
theorem dX7_energyOf_49 : decode cX7_energyOf 49 = .ok (.getfield 30, 3) := by decide +kernel
theorem dX7_energyOf_52 : decode cX7_energyOf 52 = .ok (.iload_n 1, 1) := by decide +kernel
theorem dX7_energyOf_53 : decode cX7_energyOf 53 = .ok (.iconst 4, 1) := by decide +kernel
theorem dX7_energyOf_54 : decode cX7_energyOf 54 = .ok (.iand, 1) := by decide +kernel
theorem dX7_energyOf_55 : decode cX7_energyOf 55 = .ok (.ifCond .eq 7, 3) := by decide +kernel
theorem dX7_energyOf_58 : decode cX7_energyOf 58 = .ok (.iconst 1, 1) := by decide +kernel
theorem dX7_energyOf_59 : decode cX7_energyOf 59 = .ok (.goto 4, 3) := by decide +kernel
theorem dX7_energyOf_62 : decode cX7_energyOf 62 = .ok (.iconst 0, 1) := by decide +kernel
theorem dX7_energyOf_63 : decode cX7_energyOf 63 = .ok (.putfield 259, 3) := by decide +kernel
theorem dX7_energyOf_66 : decode cX7_energyOf 66 = .ok (.aload_n 0, 1) := by decide +kernel
theorem dX7_energyOf_67 : decode cX7_energyOf 67 = .ok (.getfield 19, 3) := by decide +kernel
theorem dX7_energyOf_70 : decode cX7_energyOf 70 = .ok (.aload_n 0, 1) := by decide +kernel
theorem dX7_energyOf_71 : decode cX7_energyOf 71 = .ok (.getfield 30, 3) := by decide +kernel
theorem dX7_energyOf_74 : decode cX7_energyOf 74 = .ok (.iload_n 2, 1) := by decide +kernel
theorem dX7_energyOf_75 : decode cX7_energyOf 75 = .ok (.invokevirtual 87, 3) := by decide +kernel
theorem dX7_energyOf_78 : decode cX7_energyOf 78 = .ok (.aload_n 0, 1) := by decide +kernel
theorem dX7_energyOf_79 : decode cX7_energyOf 79 = .ok (.getfield 30, 3) := by decide +kernel
theorem dX7_energyOf_82 : decode cX7_energyOf 82 = .ok (.invokevirtual 168, 3) := by decide +kernel
theorem dX7_energyOf_85 : decode cX7_energyOf 85 = .ok (.aload_n 0, 1) := by decide +kernel
theorem dX7_energyOf_86 : decode cX7_energyOf 86 = .ok (.getfield 30, 3) := by decide +kernel
theorem dX7_energyOf_89 : decode cX7_energyOf 89 = .ok (.getfield 174, 3) := by decide +kernel
theorem dX7_energyOf_92 : decode cX7_energyOf 92 = .ok (.ireturn, 1) := by decide +kernel
theorem dX7_ordersBehind_0 : decode cX7_ordersBehind 0 = .ok (.iload_n 0, 1) := by decide +kernel
theorem dX7_ordersBehind_1 : decode cX7_ordersBehind 1 = .ok (.invokestatic 262, 3) := by decide +kernel
theorem dX7_ordersBehind_4 : decode cX7_ordersBehind 4 = .ok (.iconst 1, 1) := by decide +kernel
theorem dX7_ordersBehind_5 : decode cX7_ordersBehind 5 = .ok (.if_icmp .ne 7, 3) := by decide +kernel
theorem dX7_ordersBehind_8 : decode cX7_ordersBehind 8 = .ok (.iconst 1, 1) := by decide +kernel
theorem dX7_ordersBehind_9 : decode cX7_ordersBehind 9 = .ok (.goto 4, 3) := by decide +kernel
theorem dX7_ordersBehind_12 : decode cX7_ordersBehind 12 = .ok (.iconst 2, 1) := by decide +kernel
theorem dX7_ordersBehind_13 : decode cX7_ordersBehind 13 = .ok (.ireturn, 1) := by decide +kernel
theorem dX7_weightOf_0 : decode cX7_weightOf 0 = .ok (.iconst 1, 1) := by decide +kernel
theorem dX7_weightOf_1 : decode cX7_weightOf 1 = .ok (.istore_n 3, 1) := by decide +kernel
theorem dX7_weightOf_2 : decode cX7_weightOf 2 = .ok (.iconst 0, 1) := by decide +kernel
theorem dX7_weightOf_3 : decode cX7_weightOf 3 = .ok (.istore 4, 2) := by decide +kernel
theorem dX7_weightOf_5 : decode cX7_weightOf 5 = .ok (.iload 4, 2) := by decide +kernel
theorem dX7_weightOf_7 : decode cX7_weightOf 7 = .ok (.iload_n 1, 1) := by decide +kernel
theorem dX7_weightOf_8 : decode cX7_weightOf 8 = .ok (.if_icmp .ge 30, 3) := by decide +kernel
theorem dX7_weightOf_11 : decode cX7_weightOf 11 = .ok (.iload_n 3, 1) := by decide +kernel
theorem dX7_weightOf_12 : decode cX7_weightOf 12 = .ok (.iload_n 0, 1) := by decide +kernel
theorem dX7_weightOf_13 : decode cX7_weightOf 13 = .ok (.iload 4, 2) := by decide +kernel
theorem dX7_weightOf_15 : decode cX7_weightOf 15 = .ok (.ishr, 1) := by decide +kernel
theorem dX7_weightOf_16 : decode cX7_weightOf 16 = .ok (.iconst 1, 1) := by decide +kernel
theorem dX7_weightOf_17 : decode cX7_weightOf 17 = .ok (.iand, 1) := by decide +kernel
theorem dX7_weightOf_18 : decode cX7_weightOf 18 = .ok (.iconst 1, 1) := by decide +kernel
theorem dX7_weightOf_19 : decode cX7_weightOf 19 = .ok (.if_icmp .ne 7, 3) := by decide +kernel
theorem dX7_weightOf_22 : decode cX7_weightOf 22 = .ok (.iload_n 2, 1) := by decide +kernel
theorem dX7_weightOf_23 : decode cX7_weightOf 23 = .ok (.goto 7, 3) := by decide +kernel
theorem dX7_weightOf_26 : decode cX7_weightOf 26 = .ok (.bipush 10, 2) := by decide +kernel
theorem dX7_weightOf_28 : decode cX7_weightOf 28 = .ok (.iload_n 2, 1) := by decide +kernel
theorem dX7_weightOf_29 : decode cX7_weightOf 29 = .ok (.isub, 1) := by decide +kernel
theorem dX7_weightOf_30 : decode cX7_weightOf 30 = .ok (.imul, 1) := by decide +kernel
theorem dX7_weightOf_31 : decode cX7_weightOf 31 = .ok (.istore_n 3, 1) := by decide +kernel
theorem dX7_weightOf_32 : decode cX7_weightOf 32 = .ok (.iinc 4 1, 3) := by decide +kernel
theorem dX7_weightOf_35 : decode cX7_weightOf 35 = .ok (.goto (-30), 3) := by decide +kernel
theorem dX7_weightOf_38 : decode cX7_weightOf 38 = .ok (.iload_n 3, 1) := by decide +kernel
theorem dX7_weightOf_39 : decode cX7_weightOf 39 = .ok (.ireturn, 1) := by decide +kernel
theorem dX7_fraction_0 : decode cX7_fraction 0 = .ok (.iload_n 0, 1) := by decide +kernel
theorem dX7_fraction_1 : decode cX7_fraction 1 = .ok (.invokestatic 267, 3) := by decide +kernel
theorem dX7_fraction_4 : decode cX7_fraction 4 = .ok (.iload_n 1, 1) := by decide +kernel
theorem dX7_fraction_5 : decode cX7_fraction 5 = .ok (.invokestatic 270, 3) := by decide +kernel
theorem dX7_fraction_8 : decode cX7_fraction 8 = .ok (.istore_n 3, 1) := by decide +kernel
theorem dX7_fraction_9 : decode cX7_fraction 9 = .ok (.iload_n 3, 1) := by decide +kernel
theorem dX7_fraction_10 : decode cX7_fraction 10 = .ok (.ifCond .ne 13, 3) := by decide +kernel
theorem dX7_fraction_13 : decode cX7_fraction 13 = .ok (.iload_n 2, 1) := by decide +kernel
theorem dX7_fraction_14 : decode cX7_fraction 14 = .ok (.ifCond .eq 7, 3) := by decide +kernel
theorem dX7_fraction_17 : decode cX7_fraction 17 = .ok (.iload_n 0, 1) := by decide +kernel
theorem dX7_fraction_18 : decode cX7_fraction 18 = .ok (.goto 4, 3) := by decide +kernel
theorem dX7_fraction_21 : decode cX7_fraction 21 = .ok (.iload_n 1, 1) := by decide +kernel
theorem dX7_fraction_22 : decode cX7_fraction 22 = .ok (.ireturn, 1) := by decide +kernel
theorem dX7_fraction_23 : decode cX7_fraction 23 = .ok (.iload_n 2, 1) := by decide +kernel
theorem dX7_fraction_24 : decode cX7_fraction 24 = .ok (.ifCond .eq 9, 3) := by decide +kernel
theorem dX7_fraction_27 : decode cX7_fraction 27 = .ok (.iload_n 0, 1) := by decide +kernel
theorem dX7_fraction_28 : decode cX7_fraction 28 = .ok (.iload_n 3, 1) := by decide +kernel
theorem dX7_fraction_29 : decode cX7_fraction 29 = .ok (.idiv, 1) := by decide +kernel
theorem dX7_fraction_30 : decode cX7_fraction 30 = .ok (.goto 6, 3) := by decide +kernel
theorem dX7_fraction_33 : decode cX7_fraction 33 = .ok (.iload_n 1, 1) := by decide +kernel
theorem dX7_fraction_34 : decode cX7_fraction 34 = .ok (.iload_n 3, 1) := by decide +kernel
theorem dX7_fraction_35 : decode cX7_fraction 35 = .ok (.idiv, 1) := by decide +kernel
theorem dX7_fraction_36 : decode cX7_fraction 36 = .ok (.ireturn, 1) := by decide +kernel
theorem dX7_commonDivisor_0 : decode cX7_commonDivisor 0 = .ok (.iload_n 0, 1) := by decide +kernel
theorem dX7_commonDivisor_1 : decode cX7_commonDivisor 1 = .ok (.istore_n 2, 1) := by decide +kernel
theorem dX7_commonDivisor_2 : decode cX7_commonDivisor 2 = .ok (.iload_n 1, 1) := by decide +kernel
theorem dX7_commonDivisor_3 : decode cX7_commonDivisor 3 = .ok (.istore_n 3, 1) := by decide +kernel
theorem dX7_commonDivisor_4 : decode cX7_commonDivisor 4 = .ok (.iconst 0, 1) := by decide +kernel
theorem dX7_commonDivisor_5 : decode cX7_commonDivisor 5 = .ok (.istore 4, 2) := by decide +kernel
theorem dX7_commonDivisor_7 : decode cX7_commonDivisor 7 = .ok (.iload 4, 2) := by decide +kernel
theorem dX7_commonDivisor_9 : decode cX7_commonDivisor 9 = .ok (.bipush 64, 2) := by decide +kernel
theorem dX7_commonDivisor_11 : decode cX7_commonDivisor 11 = .ok (.if_icmp .ge 23, 3) := by decide +kernel
theorem dX7_commonDivisor_14 : decode cX7_commonDivisor 14 = .ok (.iload_n 3, 1) := by decide +kernel
theorem dX7_commonDivisor_15 : decode cX7_commonDivisor 15 = .ok (.ifCond .eq 19, 3) := by decide +kernel
theorem dX7_commonDivisor_18 : decode cX7_commonDivisor 18 = .ok (.iload_n 2, 1) := by decide +kernel
theorem dX7_commonDivisor_19 : decode cX7_commonDivisor 19 = .ok (.iload_n 3, 1) := by decide +kernel
theorem dX7_commonDivisor_20 : decode cX7_commonDivisor 20 = .ok (.irem, 1) := by decide +kernel
theorem dX7_commonDivisor_21 : decode cX7_commonDivisor 21 = .ok (.istore 5, 2) := by decide +kernel
theorem dX7_commonDivisor_23 : decode cX7_commonDivisor 23 = .ok (.iload_n 3, 1) := by decide +kernel
theorem dX7_commonDivisor_24 : decode cX7_commonDivisor 24 = .ok (.istore_n 2, 1) := by decide +kernel
theorem dX7_commonDivisor_25 : decode cX7_commonDivisor 25 = .ok (.iload 5, 2) := by decide +kernel
theorem dX7_commonDivisor_27 : decode cX7_commonDivisor 27 = .ok (.istore_n 3, 1) := by decide +kernel
theorem dX7_commonDivisor_28 : decode cX7_commonDivisor 28 = .ok (.iinc 4 1, 3) := by decide +kernel
theorem dX7_commonDivisor_31 : decode cX7_commonDivisor 31 = .ok (.goto (-24), 3) := by decide +kernel
theorem dX7_commonDivisor_34 : decode cX7_commonDivisor 34 = .ok (.iload_n 2, 1) := by decide +kernel
theorem dX7_commonDivisor_35 : decode cX7_commonDivisor 35 = .ok (.ireturn, 1) := by decide +kernel
theorem dJ6_bitCount_0f7a4_0 : decode cJ6_bitCount_0f7a4 0 = .ok (.iload_n 0, 1) := by decide +kernel
theorem dJ6_bitCount_0f7a4_1 : decode cJ6_bitCount_0f7a4 1 = .ok (.iload_n 0, 1) := by decide +kernel
theorem dJ6_bitCount_0f7a4_2 : decode cJ6_bitCount_0f7a4 2 = .ok (.iconst 1, 1) := by decide +kernel
theorem dJ6_bitCount_0f7a4_3 : decode cJ6_bitCount_0f7a4 3 = .ok (.iushr, 1) := by decide +kernel
theorem dJ6_bitCount_0f7a4_4 : decode cJ6_bitCount_0f7a4 4 = .ok (.ldc_w 265, 3) := by decide +kernel
theorem dJ6_bitCount_0f7a4_7 : decode cJ6_bitCount_0f7a4 7 = .ok (.iand, 1) := by decide +kernel
theorem dJ6_bitCount_0f7a4_8 : decode cJ6_bitCount_0f7a4 8 = .ok (.isub, 1) := by decide +kernel
theorem dJ6_bitCount_0f7a4_9 : decode cJ6_bitCount_0f7a4 9 = .ok (.istore_n 0, 1) := by decide +kernel
theorem dJ6_bitCount_0f7a4_10 : decode cJ6_bitCount_0f7a4 10 = .ok (.iload_n 0, 1) := by decide +kernel
theorem dJ6_bitCount_0f7a4_11 : decode cJ6_bitCount_0f7a4 11 = .ok (.ldc_w 266, 3) := by decide +kernel
theorem dJ6_bitCount_0f7a4_14 : decode cJ6_bitCount_0f7a4 14 = .ok (.iand, 1) := by decide +kernel
theorem dJ6_bitCount_0f7a4_15 : decode cJ6_bitCount_0f7a4 15 = .ok (.iload_n 0, 1) := by decide +kernel
theorem dJ6_bitCount_0f7a4_16 : decode cJ6_bitCount_0f7a4 16 = .ok (.iconst 2, 1) := by decide +kernel
theorem dJ6_bitCount_0f7a4_17 : decode cJ6_bitCount_0f7a4 17 = .ok (.iushr, 1) := by decide +kernel
theorem dJ6_bitCount_0f7a4_18 : decode cJ6_bitCount_0f7a4 18 = .ok (.ldc_w 266, 3) := by decide +kernel
theorem dJ6_bitCount_0f7a4_21 : decode cJ6_bitCount_0f7a4 21 = .ok (.iand, 1) := by decide +kernel
theorem dJ6_bitCount_0f7a4_22 : decode cJ6_bitCount_0f7a4 22 = .ok (.iadd, 1) := by decide +kernel
theorem dJ6_bitCount_0f7a4_23 : decode cJ6_bitCount_0f7a4 23 = .ok (.istore_n 0, 1) := by decide +kernel
theorem dJ6_bitCount_0f7a4_24 : decode cJ6_bitCount_0f7a4 24 = .ok (.iload_n 0, 1) := by decide +kernel
theorem dJ6_bitCount_0f7a4_25 : decode cJ6_bitCount_0f7a4 25 = .ok (.iload_n 0, 1) := by decide +kernel
theorem dJ6_bitCount_0f7a4_26 : decode cJ6_bitCount_0f7a4 26 = .ok (.iconst 4, 1) := by decide +kernel
theorem dJ6_bitCount_0f7a4_27 : decode cJ6_bitCount_0f7a4 27 = .ok (.iushr, 1) := by decide +kernel
theorem dJ6_bitCount_0f7a4_28 : decode cJ6_bitCount_0f7a4 28 = .ok (.iadd, 1) := by decide +kernel
theorem dJ6_bitCount_0f7a4_29 : decode cJ6_bitCount_0f7a4 29 = .ok (.ldc_w 267, 3) := by decide +kernel
theorem dJ6_bitCount_0f7a4_32 : decode cJ6_bitCount_0f7a4 32 = .ok (.iand, 1) := by decide +kernel
theorem dJ6_bitCount_0f7a4_33 : decode cJ6_bitCount_0f7a4 33 = .ok (.istore_n 0, 1) := by decide +kernel
theorem dJ6_bitCount_0f7a4_34 : decode cJ6_bitCount_0f7a4 34 = .ok (.iload_n 0, 1) := by decide +kernel
theorem dJ6_bitCount_0f7a4_35 : decode cJ6_bitCount_0f7a4 35 = .ok (.iload_n 0, 1) := by decide +kernel
theorem dJ6_bitCount_0f7a4_36 : decode cJ6_bitCount_0f7a4 36 = .ok (.bipush 8, 2) := by decide +kernel
theorem dJ6_bitCount_0f7a4_38 : decode cJ6_bitCount_0f7a4 38 = .ok (.iushr, 1) := by decide +kernel
theorem dJ6_bitCount_0f7a4_39 : decode cJ6_bitCount_0f7a4 39 = .ok (.iadd, 1) := by decide +kernel
theorem dJ6_bitCount_0f7a4_40 : decode cJ6_bitCount_0f7a4 40 = .ok (.istore_n 0, 1) := by decide +kernel
theorem dJ6_bitCount_0f7a4_41 : decode cJ6_bitCount_0f7a4 41 = .ok (.iload_n 0, 1) := by decide +kernel
theorem dJ6_bitCount_0f7a4_42 : decode cJ6_bitCount_0f7a4 42 = .ok (.iload_n 0, 1) := by decide +kernel
theorem dJ6_bitCount_0f7a4_43 : decode cJ6_bitCount_0f7a4 43 = .ok (.bipush 16, 2) := by decide +kernel
theorem dJ6_bitCount_0f7a4_45 : decode cJ6_bitCount_0f7a4 45 = .ok (.iushr, 1) := by decide +kernel
theorem dJ6_bitCount_0f7a4_46 : decode cJ6_bitCount_0f7a4 46 = .ok (.iadd, 1) := by decide +kernel
theorem dJ6_bitCount_0f7a4_47 : decode cJ6_bitCount_0f7a4 47 = .ok (.istore_n 0, 1) := by decide +kernel
theorem dJ6_bitCount_0f7a4_48 : decode cJ6_bitCount_0f7a4 48 = .ok (.iload_n 0, 1) := by decide +kernel
theorem dJ6_bitCount_0f7a4_49 : decode cJ6_bitCount_0f7a4 49 = .ok (.bipush 63, 2) := by decide +kernel
theorem dJ6_bitCount_0f7a4_51 : decode cJ6_bitCount_0f7a4 51 = .ok (.iand, 1) := by decide +kernel
theorem dJ6_bitCount_0f7a4_52 : decode cJ6_bitCount_0f7a4 52 = .ok (.ireturn, 1) := by decide +kernel
theorem dJ9_abs_0f7a4_0 : decode cJ9_abs_0f7a4 0 = .ok (.iload_n 0, 1) := by decide +kernel
theorem dJ9_abs_0f7a4_1 : decode cJ9_abs_0f7a4 1 = .ok (.ifCond .ge 8, 3) := by decide +kernel
theorem dJ9_abs_0f7a4_4 : decode cJ9_abs_0f7a4 4 = .ok (.iload_n 0, 1) := by decide +kernel
theorem dJ9_abs_0f7a4_5 : decode cJ9_abs_0f7a4 5 = .ok (.ineg, 1) := by decide +kernel
theorem dJ9_abs_0f7a4_6 : decode cJ9_abs_0f7a4 6 = .ok (.goto 4, 3) := by decide +kernel
theorem dJ9_abs_0f7a4_9 : decode cJ9_abs_0f7a4 9 = .ok (.iload_n 0, 1) := by decide +kernel
theorem dJ9_abs_0f7a4_10 : decode cJ9_abs_0f7a4 10 = .ok (.ireturn, 1) := by decide +kernel
theorem dJ9_max_7cf53_0 : decode cJ9_max_7cf53 0 = .ok (.iload_n 0, 1) := by decide +kernel
theorem dJ9_max_7cf53_1 : decode cJ9_max_7cf53 1 = .ok (.iload_n 1, 1) := by decide +kernel
theorem dJ9_max_7cf53_2 : decode cJ9_max_7cf53 2 = .ok (.if_icmp .lt 7, 3) := by decide +kernel
theorem dJ9_max_7cf53_5 : decode cJ9_max_7cf53 5 = .ok (.iload_n 0, 1) := by decide +kernel
theorem dJ9_max_7cf53_6 : decode cJ9_max_7cf53 6 = .ok (.goto 4, 3) := by decide +kernel
theorem dJ9_max_7cf53_9 : decode cJ9_max_7cf53 9 = .ok (.iload_n 1, 1) := by decide +kernel
theorem dJ9_max_7cf53_10 : decode cJ9_max_7cf53 10 = .ok (.ireturn, 1) := by decide +kernel
theorem dJ9_min_7cf53_0 : decode cJ9_min_7cf53 0 = .ok (.iload_n 0, 1) := by decide +kernel
theorem dJ9_min_7cf53_1 : decode cJ9_min_7cf53 1 = .ok (.iload_n 1, 1) := by decide +kernel
theorem dJ9_min_7cf53_2 : decode cJ9_min_7cf53 2 = .ok (.if_icmp .gt 7, 3) := by decide +kernel
theorem dJ9_min_7cf53_5 : decode cJ9_min_7cf53 5 = .ok (.iload_n 0, 1) := by decide +kernel
theorem dJ9_min_7cf53_6 : decode cJ9_min_7cf53 6 = .ok (.goto 4, 3) := by decide +kernel
theorem dJ9_min_7cf53_9 : decode cJ9_min_7cf53 9 = .ok (.iload_n 1, 1) := by decide +kernel
theorem dJ9_min_7cf53_10 : decode cJ9_min_7cf53 10 = .ok (.ireturn, 1) := by decide +kernel
