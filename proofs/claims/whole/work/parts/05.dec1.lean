theorem dX5_findGreat_30 : decode cX5_findGreat 30 = .ok (.getfield 217, 3) := by decide +kernel
theorem dX5_findGreat_33 : decode cX5_findGreat 33 = .ok (.iload_n 1, 1) := by decide +kernel
theorem dX5_findGreat_34 : decode cX5_findGreat 34 = .ok (.iaload, 1) := by decide +kernel
theorem dX5_findGreat_35 : decode cX5_findGreat 35 = .ok (.aload_n 0, 1) := by decide +kernel
theorem dX5_findGreat_36 : decode cX5_findGreat 36 = .ok (.getfield 27, 3) := by decide +kernel
theorem dX5_findGreat_39 : decode cX5_findGreat 39 = .ok (.getfield 154, 3) := by decide +kernel
theorem dX5_findGreat_42 : decode cX5_findGreat 42 = .ok (.getfield 189, 3) := by decide +kernel
theorem dX5_findGreat_45 : decode cX5_findGreat 45 = .ok (.if_icmp .lt 25, 3) := by decide +kernel
theorem dX5_findGreat_48 : decode cX5_findGreat 48 = .ok (.aload_n 0, 1) := by decide +kernel
theorem dX5_findGreat_49 : decode cX5_findGreat 49 = .ok (.bipush 6, 2) := by decide +kernel
theorem dX5_findGreat_51 : decode cX5_findGreat 51 = .ok (.putfield 15, 3) := by decide +kernel
theorem dX5_findGreat_54 : decode cX5_findGreat 54 = .ok (.aload_n 0, 1) := by decide +kernel
theorem dX5_findGreat_55 : decode cX5_findGreat 55 = .ok (.aload_n 0, 1) := by decide +kernel
theorem dX5_findGreat_56 : decode cX5_findGreat 56 = .ok (.getfield 27, 3) := by decide +kernel
theorem dX5_findGreat_59 : decode cX5_findGreat 59 = .ok (.getfield 154, 3) := by decide +kernel
theorem dX5_findGreat_62 : decode cX5_findGreat 62 = .ok (.getfield 220, 3) := by decide +kernel
theorem dX5_findGreat_65 : decode cX5_findGreat 65 = .ok (.iload_n 1, 1) := by decide +kernel
theorem dX5_findGreat_66 : decode cX5_findGreat 66 = .ok (.iaload, 1) := by decide +kernel
theorem dX5_findGreat_67 : decode cX5_findGreat 67 = .ok (.putfield 9, 3) := by decide +kernel
theorem dX5_findGreat_70 : decode cX5_findGreat 70 = .ok (.iinc 1 1, 3) := by decide +kernel
theorem dX5_findGreat_73 : decode cX5_findGreat 73 = .ok (.goto (-71), 3) := by decide +kernel
theorem dX5_findGreat_76 : decode cX5_findGreat 76 = .ok (.return_, 1) := by decide +kernel
theorem dX6_init_0 : decode cX6_init 0 = .ok (.aload_n 0, 1) := by decide +kernel
theorem dX6_init_1 : decode cX6_init 1 = .ok (.invokespecial 1, 3) := by decide +kernel
theorem dX6_init_4 : decode cX6_init 4 = .ok (.aload_n 0, 1) := by decide +kernel
theorem dX6_init_5 : decode cX6_init 5 = .ok (.iconst 0, 1) := by decide +kernel
theorem dX6_init_6 : decode cX6_init 6 = .ok (.putfield 7, 3) := by decide +kernel
theorem dX6_init_9 : decode cX6_init 9 = .ok (.aload_n 0, 1) := by decide +kernel
theorem dX6_init_10 : decode cX6_init 10 = .ok (.bipush 97, 2) := by decide +kernel
theorem dX6_init_12 : decode cX6_init 12 = .ok (.putfield 13, 3) := by decide +kernel
theorem dX6_init_15 : decode cX6_init 15 = .ok (.aload_n 0, 1) := by decide +kernel
theorem dX6_init_16 : decode cX6_init 16 = .ok (.bipush 8, 2) := by decide +kernel
theorem dX6_init_18 : decode cX6_init 18 = .ok (.newarray .int, 2) := by decide +kernel
theorem dX6_init_20 : decode cX6_init 20 = .ok (.putfield 16, 3) := by decide +kernel
theorem dX6_init_23 : decode cX6_init 23 = .ok (.aload_n 0, 1) := by decide +kernel
theorem dX6_init_24 : decode cX6_init 24 = .ok (.bipush 8, 2) := by decide +kernel
theorem dX6_init_26 : decode cX6_init 26 = .ok (.newarray .int, 2) := by decide +kernel
theorem dX6_init_28 : decode cX6_init 28 = .ok (.putfield 20, 3) := by decide +kernel
theorem dX6_init_31 : decode cX6_init 31 = .ok (.aload_n 0, 1) := by decide +kernel
theorem dX6_init_32 : decode cX6_init 32 = .ok (.bipush 8, 2) := by decide +kernel
theorem dX6_init_34 : decode cX6_init 34 = .ok (.newarray .int, 2) := by decide +kernel
theorem dX6_init_36 : decode cX6_init 36 = .ok (.putfield 23, 3) := by decide +kernel
theorem dX6_init_39 : decode cX6_init 39 = .ok (.aload_n 0, 1) := by decide +kernel
theorem dX6_init_40 : decode cX6_init 40 = .ok (.bipush 6, 2) := by decide +kernel
theorem dX6_init_42 : decode cX6_init 42 = .ok (.newarray .int, 2) := by decide +kernel
theorem dX6_init_44 : decode cX6_init 44 = .ok (.putfield 28, 3) := by decide +kernel
theorem dX6_init_47 : decode cX6_init 47 = .ok (.aload_n 0, 1) := by decide +kernel
theorem dX6_init_48 : decode cX6_init 48 = .ok (.bipush 7, 2) := by decide +kernel
theorem dX6_init_50 : decode cX6_init 50 = .ok (.newarray .int, 2) := by decide +kernel
theorem dX6_init_52 : decode cX6_init 52 = .ok (.putfield 31, 3) := by decide +kernel
theorem dX6_init_55 : decode cX6_init 55 = .ok (.return_, 1) := by decide +kernel
theorem dX6_clear_0 : decode cX6_clear 0 = .ok (.aload_n 0, 1) := by decide +kernel
theorem dX6_clear_1 : decode cX6_clear 1 = .ok (.iconst 0, 1) := by decide +kernel
theorem dX6_clear_2 : decode cX6_clear 2 = .ok (.putfield 7, 3) := by decide +kernel
theorem dX6_clear_5 : decode cX6_clear 5 = .ok (.aload_n 0, 1) := by decide +kernel
theorem dX6_clear_6 : decode cX6_clear 6 = .ok (.bipush 97, 2) := by decide +kernel
theorem dX6_clear_8 : decode cX6_clear 8 = .ok (.putfield 13, 3) := by decide +kernel
theorem dX6_clear_11 : decode cX6_clear 11 = .ok (.return_, 1) := by decide +kernel
theorem dX6_add_0 : decode cX6_add 0 = .ok (.aload_n 0, 1) := by decide +kernel
theorem dX6_add_1 : decode cX6_add 1 = .ok (.getfield 7, 3) := by decide +kernel
theorem dX6_add_4 : decode cX6_add 4 = .ok (.bipush 8, 2) := by decide +kernel
theorem dX6_add_6 : decode cX6_add 6 = .ok (.if_icmp .ge 43, 3) := by decide +kernel
theorem dX6_add_9 : decode cX6_add 9 = .ok (.aload_n 0, 1) := by decide +kernel
theorem dX6_add_10 : decode cX6_add 10 = .ok (.getfield 16, 3) := by decide +kernel
theorem dX6_add_13 : decode cX6_add 13 = .ok (.aload_n 0, 1) := by decide +kernel
theorem dX6_add_14 : decode cX6_add 14 = .ok (.getfield 7, 3) := by decide +kernel
theorem dX6_add_17 : decode cX6_add 17 = .ok (.iload_n 1, 1) := by decide +kernel
theorem dX6_add_18 : decode cX6_add 18 = .ok (.iastore, 1) := by decide +kernel
theorem dX6_add_19 : decode cX6_add 19 = .ok (.aload_n 0, 1) := by decide +kernel
theorem dX6_add_20 : decode cX6_add 20 = .ok (.getfield 23, 3) := by decide +kernel
theorem dX6_add_23 : decode cX6_add 23 = .ok (.aload_n 0, 1) := by decide +kernel
theorem dX6_add_24 : decode cX6_add 24 = .ok (.getfield 7, 3) := by decide +kernel
theorem dX6_add_27 : decode cX6_add 27 = .ok (.iload_n 2, 1) := by decide +kernel
theorem dX6_add_28 : decode cX6_add 28 = .ok (.iastore, 1) := by decide +kernel
theorem dX6_add_29 : decode cX6_add 29 = .ok (.aload_n 0, 1) := by decide +kernel
theorem dX6_add_30 : decode cX6_add 30 = .ok (.getfield 20, 3) := by decide +kernel
theorem dX6_add_33 : decode cX6_add 33 = .ok (.aload_n 0, 1) := by decide +kernel
theorem dX6_add_34 : decode cX6_add 34 = .ok (.getfield 7, 3) := by decide +kernel
theorem dX6_add_37 : decode cX6_add 37 = .ok (.iload_n 3, 1) := by decide +kernel
theorem dX6_add_38 : decode cX6_add 38 = .ok (.iastore, 1) := by decide +kernel
theorem dX6_add_39 : decode cX6_add 39 = .ok (.aload_n 0, 1) := by decide +kernel
theorem dX6_add_40 : decode cX6_add 40 = .ok (.dup, 1) := by decide +kernel
theorem dX6_add_41 : decode cX6_add 41 = .ok (.getfield 7, 3) := by decide +kernel
theorem dX6_add_44 : decode cX6_add 44 = .ok (.iconst 1, 1) := by decide +kernel
theorem dX6_add_45 : decode cX6_add 45 = .ok (.iadd, 1) := by decide +kernel
theorem dX6_add_46 : decode cX6_add 46 = .ok (.putfield 7, 3) := by decide +kernel
theorem dX6_add_49 : decode cX6_add 49 = .ok (.return_, 1) := by decide +kernel
theorem dX6_isAt_0 : decode cX6_isAt 0 = .ok (.iconst 0, 1) := by decide +kernel
theorem dX6_isAt_1 : decode cX6_isAt 1 = .ok (.istore_n 2, 1) := by decide +kernel
theorem dX6_isAt_2 : decode cX6_isAt 2 = .ok (.iload_n 2, 1) := by decide +kernel
theorem dX6_isAt_3 : decode cX6_isAt 3 = .ok (.aload_n 0, 1) := by decide +kernel
theorem dX6_isAt_4 : decode cX6_isAt 4 = .ok (.getfield 7, 3) := by decide +kernel
theorem dX6_isAt_7 : decode cX6_isAt 7 = .ok (.if_icmp .ge 21, 3) := by decide +kernel
theorem dX6_isAt_10 : decode cX6_isAt 10 = .ok (.aload_n 0, 1) := by decide +kernel
theorem dX6_isAt_11 : decode cX6_isAt 11 = .ok (.getfield 16, 3) := by decide +kernel
theorem dX6_isAt_14 : decode cX6_isAt 14 = .ok (.iload_n 2, 1) := by decide +kernel
theorem dX6_isAt_15 : decode cX6_isAt 15 = .ok (.iaload, 1) := by decide +kernel
theorem dX6_isAt_16 : decode cX6_isAt 16 = .ok (.iload_n 1, 1) := by decide +kernel
theorem dX6_isAt_17 : decode cX6_isAt 17 = .ok (.if_icmp .ne 5, 3) := by decide +kernel
theorem dX6_isAt_20 : decode cX6_isAt 20 = .ok (.iconst 1, 1) := by decide +kernel
theorem dX6_isAt_21 : decode cX6_isAt 21 = .ok (.ireturn, 1) := by decide +kernel
theorem dX6_isAt_22 : decode cX6_isAt 22 = .ok (.iinc 2 1, 3) := by decide +kernel
theorem dX6_isAt_25 : decode cX6_isAt 25 = .ok (.goto (-23), 3) := by decide +kernel
theorem dX6_isAt_28 : decode cX6_isAt 28 = .ok (.iconst 0, 1) := by decide +kernel
theorem dX6_isAt_29 : decode cX6_isAt 29 = .ok (.ireturn, 1) := by decide +kernel
theorem dX6_isSet_0 : decode cX6_isSet 0 = .ok (.iload_n 1, 1) := by decide +kernel
theorem dX6_isSet_1 : decode cX6_isSet 1 = .ok (.ifCond .le 26, 3) := by decide +kernel
theorem dX6_isSet_4 : decode cX6_isSet 4 = .ok (.iload_n 1, 1) := by decide +kernel
theorem dX6_isSet_5 : decode cX6_isSet 5 = .ok (.iconst 1, 1) := by decide +kernel
theorem dX6_isSet_6 : decode cX6_isSet 6 = .ok (.aload_n 0, 1) := by decide +kernel
theorem dX6_isSet_7 : decode cX6_isSet 7 = .ok (.getfield 7, 3) := by decide +kernel
theorem dX6_isSet_10 : decode cX6_isSet 10 = .ok (.ishl, 1) := by decide +kernel
theorem dX6_isSet_11 : decode cX6_isSet 11 = .ok (.if_icmp .ge 16, 3) := by decide +kernel
theorem dX6_isSet_14 : decode cX6_isSet 14 = .ok (.iload_n 1, 1) := by decide +kernel
theorem dX6_isSet_15 : decode cX6_isSet 15 = .ok (.invokestatic 34, 3) := by decide +kernel
theorem dX6_isSet_18 : decode cX6_isSet 18 = .ok (.bipush 6, 2) := by decide +kernel
theorem dX6_isSet_20 : decode cX6_isSet 20 = .ok (.if_icmp .gt 7, 3) := by decide +kernel
theorem dX6_isSet_23 : decode cX6_isSet 23 = .ok (.iconst 1, 1) := by decide +kernel
theorem dX6_isSet_24 : decode cX6_isSet 24 = .ok (.goto 4, 3) := by decide +kernel
theorem dX6_isSet_27 : decode cX6_isSet 27 = .ok (.iconst 0, 1) := by decide +kernel
theorem dX6_isSet_28 : decode cX6_isSet 28 = .ok (.ireturn, 1) := by decide +kernel
theorem dX6_isIn_0 : decode cX6_isIn 0 = .ok (.iload_n 0, 1) := by decide +kernel
theorem dX6_isIn_1 : decode cX6_isIn 1 = .ok (.iload_n 1, 1) := by decide +kernel
theorem dX6_isIn_2 : decode cX6_isIn 2 = .ok (.ishr, 1) := by decide +kernel
theorem dX6_isIn_3 : decode cX6_isIn 3 = .ok (.iconst 1, 1) := by decide +kernel
theorem dX6_isIn_4 : decode cX6_isIn 4 = .ok (.iand, 1) := by decide +kernel
theorem dX6_isIn_5 : decode cX6_isIn 5 = .ok (.ifCond .eq 7, 3) := by decide +kernel
theorem dX6_isIn_8 : decode cX6_isIn 8 = .ok (.iconst 1, 1) := by decide +kernel
theorem dX6_isIn_9 : decode cX6_isIn 9 = .ok (.goto 4, 3) := by decide +kernel
theorem dX6_isIn_12 : decode cX6_isIn 12 = .ok (.iconst 0, 1) := by decide +kernel
theorem dX6_isIn_13 : decode cX6_isIn 13 = .ok (.ireturn, 1) := by decide +kernel
theorem dX6_restOf_0 : decode cX6_restOf 0 = .ok (.aload_n 0, 1) := by decide +kernel
theorem dX6_restOf_1 : decode cX6_restOf 1 = .ok (.getfield 13, 3) := by decide +kernel
theorem dX6_restOf_4 : decode cX6_restOf 4 = .ok (.iconst 2, 1) := by decide +kernel
theorem dX6_restOf_5 : decode cX6_restOf 5 = .ok (.if_icmp .ge 7, 3) := by decide +kernel
theorem dX6_restOf_8 : decode cX6_restOf 8 = .ok (.iconst 0, 1) := by decide +kernel
theorem dX6_restOf_9 : decode cX6_restOf 9 = .ok (.goto 13, 3) := by decide +kernel
theorem dX6_restOf_12 : decode cX6_restOf 12 = .ok (.lload_n 1, 1) := by decide +kernel
theorem dX6_restOf_13 : decode cX6_restOf 13 = .ok (.aload_n 0, 1) := by decide +kernel
theorem dX6_restOf_14 : decode cX6_restOf 14 = .ok (.getfield 13, 3) := by decide +kernel
theorem dX6_restOf_17 : decode cX6_restOf 17 = .ok (.i2l, 1) := by decide +kernel
theorem dX6_restOf_18 : decode cX6_restOf 18 = .ok (.invokestatic 40, 3) := by decide +kernel
theorem dX6_restOf_21 : decode cX6_restOf 21 = .ok (.l2i, 1) := by decide +kernel
theorem dX6_restOf_22 : decode cX6_restOf 22 = .ok (.ireturn, 1) := by decide +kernel
theorem dX6_findRow_0 : decode cX6_findRow 0 = .ok (.aload_n 0, 1) := by decide +kernel
theorem dX6_findRow_1 : decode cX6_findRow 1 = .ok (.getfield 28, 3) := by decide +kernel
theorem dX6_findRow_4 : decode cX6_findRow 4 = .ok (.iconst 0, 1) := by decide +kernel
theorem dX6_findRow_5 : decode cX6_findRow 5 = .ok (.invokestatic 46, 3) := by decide +kernel
theorem dX6_findRow_8 : decode cX6_findRow 8 = .ok (.iconst 0, 1) := by decide +kernel
theorem dX6_findRow_9 : decode cX6_findRow 9 = .ok (.istore_n 2, 1) := by decide +kernel
theorem dX6_findRow_10 : decode cX6_findRow 10 = .ok (.iload_n 2, 1) := by decide +kernel
theorem dX6_findRow_11 : decode cX6_findRow 11 = .ok (.aload_n 0, 1) := by decide +kernel
theorem dX6_findRow_12 : decode cX6_findRow 12 = .ok (.getfield 7, 3) := by decide +kernel
theorem dX6_findRow_15 : decode cX6_findRow 15 = .ok (.if_icmp .ge 88, 3) := by decide +kernel
theorem dX6_findRow_18 : decode cX6_findRow 18 = .ok (.iload_n 1, 1) := by decide +kernel
theorem dX6_findRow_19 : decode cX6_findRow 19 = .ok (.iload_n 2, 1) := by decide +kernel
theorem dX6_findRow_20 : decode cX6_findRow 20 = .ok (.invokestatic 52, 3) := by decide +kernel
theorem dX6_findRow_23 : decode cX6_findRow 23 = .ok (.ifCond .eq 74, 3) := by decide +kernel
theorem dX6_findRow_26 : decode cX6_findRow 26 = .ok (.aload_n 0, 1) := by decide +kernel
theorem dX6_findRow_27 : decode cX6_findRow 27 = .ok (.aload_n 0, 1) := by decide +kernel
theorem dX6_findRow_28 : decode cX6_findRow 28 = .ok (.getfield 23, 3) := by decide +kernel
theorem dX6_findRow_31 : decode cX6_findRow 31 = .ok (.iload_n 2, 1) := by decide +kernel
theorem dX6_findRow_32 : decode cX6_findRow 32 = .ok (.iaload, 1) := by decide +kernel
theorem dX6_findRow_33 : decode cX6_findRow 33 = .ok (.aload_n 0, 1) := by decide +kernel
theorem dX6_findRow_34 : decode cX6_findRow 34 = .ok (.aload_n 0, 1) := by decide +kernel
theorem dX6_findRow_35 : decode cX6_findRow 35 = .ok (.iload_n 1, 1) := by decide +kernel
theorem dX6_findRow_36 : decode cX6_findRow 36 = .ok (.iload_n 2, 1) := by decide +kernel
theorem dX6_findRow_37 : decode cX6_findRow 37 = .ok (.invokevirtual 56, 3) := by decide +kernel
theorem dX6_findRow_40 : decode cX6_findRow 40 = .ok (.invokevirtual 60, 3) := by decide +kernel
theorem dX6_findRow_43 : decode cX6_findRow 43 = .ok (.imul, 1) := by decide +kernel
theorem dX6_findRow_44 : decode cX6_findRow 44 = .ok (.i2l, 1) := by decide +kernel
theorem dX6_findRow_45 : decode cX6_findRow 45 = .ok (.invokevirtual 63, 3) := by decide +kernel
theorem dX6_findRow_48 : decode cX6_findRow 48 = .ok (.istore_n 3, 1) := by decide +kernel
theorem dX6_findRow_49 : decode cX6_findRow 49 = .ok (.iconst 0, 1) := by decide +kernel
theorem dX6_findRow_50 : decode cX6_findRow 50 = .ok (.istore 4, 2) := by decide +kernel
theorem dX6_findRow_52 : decode cX6_findRow 52 = .ok (.iload 4, 2) := by decide +kernel
theorem dX6_findRow_54 : decode cX6_findRow 54 = .ok (.aload_n 0, 1) := by decide +kernel
theorem dX6_findRow_55 : decode cX6_findRow 55 = .ok (.getfield 28, 3) := by decide +kernel
theorem dX6_findRow_58 : decode cX6_findRow 58 = .ok (.arraylength, 1) := by decide +kernel
theorem dX6_findRow_59 : decode cX6_findRow 59 = .ok (.if_icmp .ge 38, 3) := by decide +kernel
theorem dX6_findRow_62 : decode cX6_findRow 62 = .ok (.aload_n 0, 1) := by decide +kernel
theorem dX6_findRow_63 : decode cX6_findRow 63 = .ok (.getfield 28, 3) := by decide +kernel
theorem dX6_findRow_66 : decode cX6_findRow 66 = .ok (.iload 4, 2) := by decide +kernel
theorem dX6_findRow_68 : decode cX6_findRow 68 = .ok (.aload_n 0, 1) := by decide +kernel
theorem dX6_findRow_69 : decode cX6_findRow 69 = .ok (.aload_n 0, 1) := by decide +kernel
theorem dX6_findRow_70 : decode cX6_findRow 70 = .ok (.getfield 28, 3) := by decide +kernel
theorem dX6_findRow_73 : decode cX6_findRow 73 = .ok (.iload 4, 2) := by decide +kernel
theorem dX6_findRow_75 : decode cX6_findRow 75 = .ok (.iaload, 1) := by decide +kernel
theorem dX6_findRow_76 : decode cX6_findRow 76 = .ok (.iload_n 3, 1) := by decide +kernel
theorem dX6_findRow_77 : decode cX6_findRow 77 = .ok (.aload_n 0, 1) := by decide +kernel
theorem dX6_findRow_78 : decode cX6_findRow 78 = .ok (.getfield 31, 3) := by decide +kernel
theorem dX6_findRow_81 : decode cX6_findRow 81 = .ok (.iload 4, 2) := by decide +kernel
theorem dX6_findRow_83 : decode cX6_findRow 83 = .ok (.iaload, 1) := by decide +kernel
theorem dX6_findRow_84 : decode cX6_findRow 84 = .ok (.imul, 1) := by decide +kernel
theorem dX6_findRow_85 : decode cX6_findRow 85 = .ok (.iadd, 1) := by decide +kernel
theorem dX6_findRow_86 : decode cX6_findRow 86 = .ok (.i2l, 1) := by decide +kernel
theorem dX6_findRow_87 : decode cX6_findRow 87 = .ok (.invokevirtual 63, 3) := by decide +kernel
theorem dX6_findRow_90 : decode cX6_findRow 90 = .ok (.iastore, 1) := by decide +kernel
theorem dX6_findRow_91 : decode cX6_findRow 91 = .ok (.iinc 4 1, 3) := by decide +kernel
theorem dX6_findRow_94 : decode cX6_findRow 94 = .ok (.goto (-42), 3) := by decide +kernel
theorem dX6_findRow_97 : decode cX6_findRow 97 = .ok (.iinc 2 1, 3) := by decide +kernel
theorem dX6_findRow_100 : decode cX6_findRow 100 = .ok (.goto (-90), 3) := by decide +kernel
theorem dX6_findRow_103 : decode cX6_findRow 103 = .ok (.return_, 1) := by decide +kernel
theorem dX6_othersProduct_0 : decode cX6_othersProduct 0 = .ok (.aload_n 0, 1) := by decide +kernel
theorem dX6_othersProduct_1 : decode cX6_othersProduct 1 = .ok (.getfield 31, 3) := by decide +kernel
theorem dX6_othersProduct_4 : decode cX6_othersProduct 4 = .ok (.iconst 0, 1) := by decide +kernel
theorem dX6_othersProduct_5 : decode cX6_othersProduct 5 = .ok (.invokestatic 46, 3) := by decide +kernel
theorem dX6_othersProduct_8 : decode cX6_othersProduct 8 = .ok (.aload_n 0, 1) := by decide +kernel
theorem dX6_othersProduct_9 : decode cX6_othersProduct 9 = .ok (.getfield 31, 3) := by decide +kernel
theorem dX6_othersProduct_12 : decode cX6_othersProduct 12 = .ok (.iconst 0, 1) := by decide +kernel
theorem dX6_othersProduct_13 : decode cX6_othersProduct 13 = .ok (.iconst 1, 1) := by decide +kernel
theorem dX6_othersProduct_14 : decode cX6_othersProduct 14 = .ok (.iastore, 1) := by decide +kernel
theorem dX6_othersProduct_15 : decode cX6_othersProduct 15 = .ok (.iconst 1, 1) := by decide +kernel
theorem dX6_othersProduct_16 : decode cX6_othersProduct 16 = .ok (.istore_n 3, 1) := by decide +kernel
theorem dX6_othersProduct_17 : decode cX6_othersProduct 17 = .ok (.iconst 0, 1) := by decide +kernel
theorem dX6_othersProduct_18 : decode cX6_othersProduct 18 = .ok (.istore 4, 2) := by decide +kernel
theorem dX6_othersProduct_20 : decode cX6_othersProduct 20 = .ok (.iload 4, 2) := by decide +kernel
theorem dX6_othersProduct_22 : decode cX6_othersProduct 22 = .ok (.aload_n 0, 1) := by decide +kernel
theorem dX6_othersProduct_23 : decode cX6_othersProduct 23 = .ok (.getfield 7, 3) := by decide +kernel
theorem dX6_othersProduct_26 : decode cX6_othersProduct 26 = .ok (.if_icmp .ge 129, 3) := by decide +kernel
theorem dX6_othersProduct_29 : decode cX6_othersProduct 29 = .ok (.iload 4, 2) := by decide +kernel
theorem dX6_othersProduct_31 : decode cX6_othersProduct 31 = .ok (.iload_n 2, 1) := by decide +kernel
theorem dX6_othersProduct_32 : decode cX6_othersProduct 32 = .ok (.if_icmp .eq 117, 3) := by decide +kernel
theorem dX6_othersProduct_35 : decode cX6_othersProduct 35 = .ok (.iload_n 1, 1) := by decide +kernel
theorem dX6_othersProduct_36 : decode cX6_othersProduct 36 = .ok (.iload 4, 2) := by decide +kernel
theorem dX6_othersProduct_38 : decode cX6_othersProduct 38 = .ok (.invokestatic 52, 3) := by decide +kernel
theorem dX6_othersProduct_41 : decode cX6_othersProduct 41 = .ok (.ifCond .eq 108, 3) := by decide +kernel
theorem dX6_othersProduct_44 : decode cX6_othersProduct 44 = .ok (.aload_n 0, 1) := by decide +kernel
theorem dX6_othersProduct_45 : decode cX6_othersProduct 45 = .ok (.getfield 31, 3) := by decide +kernel
theorem dX6_othersProduct_48 : decode cX6_othersProduct 48 = .ok (.arraylength, 1) := by decide +kernel
theorem dX6_othersProduct_49 : decode cX6_othersProduct 49 = .ok (.iconst 1, 1) := by decide +kernel
theorem dX6_othersProduct_50 : decode cX6_othersProduct 50 = .ok (.isub, 1) := by decide +kernel
theorem dX6_othersProduct_51 : decode cX6_othersProduct 51 = .ok (.istore 5, 2) := by decide +kernel
theorem dX6_othersProduct_53 : decode cX6_othersProduct 53 = .ok (.iload 5, 2) := by decide +kernel
theorem dX6_othersProduct_55 : decode cX6_othersProduct 55 = .ok (.ifCond .le 46, 3) := by decide +kernel
theorem dX6_othersProduct_58 : decode cX6_othersProduct 58 = .ok (.aload_n 0, 1) := by decide +kernel
theorem dX6_othersProduct_59 : decode cX6_othersProduct 59 = .ok (.getfield 31, 3) := by decide +kernel
theorem dX6_othersProduct_62 : decode cX6_othersProduct 62 = .ok (.iload 5, 2) := by decide +kernel
theorem dX6_othersProduct_64 : decode cX6_othersProduct 64 = .ok (.aload_n 0, 1) := by decide +kernel
theorem dX6_othersProduct_65 : decode cX6_othersProduct 65 = .ok (.aload_n 0, 1) := by decide +kernel
theorem dX6_othersProduct_66 : decode cX6_othersProduct 66 = .ok (.getfield 31, 3) := by decide +kernel
theorem dX6_othersProduct_69 : decode cX6_othersProduct 69 = .ok (.iload 5, 2) := by decide +kernel
theorem dX6_othersProduct_71 : decode cX6_othersProduct 71 = .ok (.iconst 1, 1) := by decide +kernel
theorem dX6_othersProduct_72 : decode cX6_othersProduct 72 = .ok (.isub, 1) := by decide +kernel
theorem dX6_othersProduct_73 : decode cX6_othersProduct 73 = .ok (.iaload, 1) := by decide +kernel
theorem dX6_othersProduct_74 : decode cX6_othersProduct 74 = .ok (.aload_n 0, 1) := by decide +kernel
theorem dX6_othersProduct_75 : decode cX6_othersProduct 75 = .ok (.getfield 16, 3) := by decide +kernel
theorem dX6_othersProduct_78 : decode cX6_othersProduct 78 = .ok (.iload 4, 2) := by decide +kernel
theorem dX6_othersProduct_80 : decode cX6_othersProduct 80 = .ok (.iaload, 1) := by decide +kernel
theorem dX6_othersProduct_81 : decode cX6_othersProduct 81 = .ok (.aload_n 0, 1) := by decide +kernel
theorem dX6_othersProduct_82 : decode cX6_othersProduct 82 = .ok (.getfield 31, 3) := by decide +kernel
theorem dX6_othersProduct_85 : decode cX6_othersProduct 85 = .ok (.iload 5, 2) := by decide +kernel
theorem dX6_othersProduct_87 : decode cX6_othersProduct 87 = .ok (.iaload, 1) := by decide +kernel
theorem dX6_othersProduct_88 : decode cX6_othersProduct 88 = .ok (.imul, 1) := by decide +kernel
theorem dX6_othersProduct_89 : decode cX6_othersProduct 89 = .ok (.isub, 1) := by decide +kernel
theorem dX6_othersProduct_90 : decode cX6_othersProduct 90 = .ok (.i2l, 1) := by decide +kernel
theorem dX6_othersProduct_91 : decode cX6_othersProduct 91 = .ok (.invokevirtual 63, 3) := by decide +kernel
theorem dX6_othersProduct_94 : decode cX6_othersProduct 94 = .ok (.iastore, 1) := by decide +kernel
theorem dX6_othersProduct_95 : decode cX6_othersProduct 95 = .ok (.iinc 5 (-1), 3) := by decide +kernel
theorem dX6_othersProduct_98 : decode cX6_othersProduct 98 = .ok (.goto (-45), 3) := by decide +kernel
theorem dX6_othersProduct_101 : decode cX6_othersProduct 101 = .ok (.aload_n 0, 1) := by decide +kernel
theorem dX6_othersProduct_102 : decode cX6_othersProduct 102 = .ok (.getfield 31, 3) := by decide +kernel
theorem dX6_othersProduct_105 : decode cX6_othersProduct 105 = .ok (.iconst 0, 1) := by decide +kernel
theorem dX6_othersProduct_106 : decode cX6_othersProduct 106 = .ok (.aload_n 0, 1) := by decide +kernel
theorem dX6_othersProduct_107 : decode cX6_othersProduct 107 = .ok (.aload_n 0, 1) := by decide +kernel
theorem dX6_othersProduct_108 : decode cX6_othersProduct 108 = .ok (.getfield 16, 3) := by decide +kernel
theorem dX6_othersProduct_111 : decode cX6_othersProduct 111 = .ok (.iload 4, 2) := by decide +kernel
theorem dX6_othersProduct_113 : decode cX6_othersProduct 113 = .ok (.iaload, 1) := by decide +kernel
theorem dX6_othersProduct_114 : decode cX6_othersProduct 114 = .ok (.ineg, 1) := by decide +kernel
theorem dX6_othersProduct_115 : decode cX6_othersProduct 115 = .ok (.aload_n 0, 1) := by decide +kernel
theorem dX6_othersProduct_116 : decode cX6_othersProduct 116 = .ok (.getfield 31, 3) := by decide +kernel
theorem dX6_othersProduct_119 : decode cX6_othersProduct 119 = .ok (.iconst 0, 1) := by decide +kernel
theorem dX6_othersProduct_120 : decode cX6_othersProduct 120 = .ok (.iaload, 1) := by decide +kernel
theorem dX6_othersProduct_121 : decode cX6_othersProduct 121 = .ok (.imul, 1) := by decide +kernel
theorem dX6_othersProduct_122 : decode cX6_othersProduct 122 = .ok (.i2l, 1) := by decide +kernel
theorem dX6_othersProduct_123 : decode cX6_othersProduct 123 = .ok (.invokevirtual 63, 3) := by decide +kernel
theorem dX6_othersProduct_126 : decode cX6_othersProduct 126 = .ok (.iastore, 1) := by decide +kernel
theorem dX6_othersProduct_127 : decode cX6_othersProduct 127 = .ok (.aload_n 0, 1) := by decide +kernel
theorem dX6_othersProduct_128 : decode cX6_othersProduct 128 = .ok (.iload_n 3, 1) := by decide +kernel
theorem dX6_othersProduct_129 : decode cX6_othersProduct 129 = .ok (.aload_n 0, 1) := by decide +kernel
theorem dX6_othersProduct_130 : decode cX6_othersProduct 130 = .ok (.getfield 16, 3) := by decide +kernel
theorem dX6_othersProduct_133 : decode cX6_othersProduct 133 = .ok (.iload_n 2, 1) := by decide +kernel
theorem dX6_othersProduct_134 : decode cX6_othersProduct 134 = .ok (.iaload, 1) := by decide +kernel
theorem dX6_othersProduct_135 : decode cX6_othersProduct 135 = .ok (.aload_n 0, 1) := by decide +kernel
theorem dX6_othersProduct_136 : decode cX6_othersProduct 136 = .ok (.getfield 16, 3) := by decide +kernel
theorem dX6_othersProduct_139 : decode cX6_othersProduct 139 = .ok (.iload 4, 2) := by decide +kernel
theorem dX6_othersProduct_141 : decode cX6_othersProduct 141 = .ok (.iaload, 1) := by decide +kernel
theorem dX6_othersProduct_142 : decode cX6_othersProduct 142 = .ok (.isub, 1) := by decide +kernel
theorem dX6_othersProduct_143 : decode cX6_othersProduct 143 = .ok (.imul, 1) := by decide +kernel
theorem dX6_othersProduct_144 : decode cX6_othersProduct 144 = .ok (.i2l, 1) := by decide +kernel
theorem dX6_othersProduct_145 : decode cX6_othersProduct 145 = .ok (.invokevirtual 63, 3) := by decide +kernel
theorem dX6_othersProduct_148 : decode cX6_othersProduct 148 = .ok (.istore_n 3, 1) := by decide +kernel
theorem dX6_othersProduct_149 : decode cX6_othersProduct 149 = .ok (.iinc 4 1, 3) := by decide +kernel
theorem dX6_othersProduct_152 : decode cX6_othersProduct 152 = .ok (.goto (-132), 3) := by decide +kernel
theorem dX6_othersProduct_155 : decode cX6_othersProduct 155 = .ok (.iload_n 3, 1) := by decide +kernel
theorem dX6_othersProduct_156 : decode cX6_othersProduct 156 = .ok (.ireturn, 1) := by decide +kernel
theorem dX6_turnedOver_0 : decode cX6_turnedOver 0 = .ok (.iconst 1, 1) := by decide +kernel
theorem dX6_turnedOver_1 : decode cX6_turnedOver 1 = .ok (.istore_n 2, 1) := by decide +kernel
theorem dX6_turnedOver_2 : decode cX6_turnedOver 2 = .ok (.iload_n 2, 1) := by decide +kernel
theorem dX6_turnedOver_3 : decode cX6_turnedOver 3 = .ok (.aload_n 0, 1) := by decide +kernel
theorem dX6_turnedOver_4 : decode cX6_turnedOver 4 = .ok (.getfield 13, 3) := by decide +kernel
theorem dX6_turnedOver_7 : decode cX6_turnedOver 7 = .ok (.if_icmp .ge 23, 3) := by decide +kernel
theorem dX6_turnedOver_10 : decode cX6_turnedOver 10 = .ok (.aload_n 0, 1) := by decide +kernel
theorem dX6_turnedOver_11 : decode cX6_turnedOver 11 = .ok (.iload_n 1, 1) := by decide +kernel
theorem dX6_turnedOver_12 : decode cX6_turnedOver 12 = .ok (.iload_n 2, 1) := by decide +kernel
theorem dX6_turnedOver_13 : decode cX6_turnedOver 13 = .ok (.imul, 1) := by decide +kernel
theorem dX6_turnedOver_14 : decode cX6_turnedOver 14 = .ok (.i2l, 1) := by decide +kernel
theorem dX6_turnedOver_15 : decode cX6_turnedOver 15 = .ok (.invokevirtual 63, 3) := by decide +kernel
theorem dX6_turnedOver_18 : decode cX6_turnedOver 18 = .ok (.iconst 1, 1) := by decide +kernel
theorem dX6_turnedOver_19 : decode cX6_turnedOver 19 = .ok (.if_icmp .ne 5, 3) := by decide +kernel
theorem dX6_turnedOver_22 : decode cX6_turnedOver 22 = .ok (.iload_n 2, 1) := by decide +kernel
theorem dX6_turnedOver_23 : decode cX6_turnedOver 23 = .ok (.ireturn, 1) := by decide +kernel
theorem dX6_turnedOver_24 : decode cX6_turnedOver 24 = .ok (.iinc 2 1, 3) := by decide +kernel
theorem dX6_turnedOver_27 : decode cX6_turnedOver 27 = .ok (.goto (-25), 3) := by decide +kernel
theorem dX6_turnedOver_30 : decode cX6_turnedOver 30 = .ok (.iconst 0, 1) := by decide +kernel
theorem dX6_turnedOver_31 : decode cX6_turnedOver 31 = .ok (.ireturn, 1) := by decide +kernel
theorem dX6_comesTo_0 : decode cX6_comesTo 0 = .ok (.iconst 0, 1) := by decide +kernel
theorem dX6_comesTo_1 : decode cX6_comesTo 1 = .ok (.istore_n 2, 1) := by decide +kernel
theorem dX6_comesTo_2 : decode cX6_comesTo 2 = .ok (.aload_n 0, 1) := by decide +kernel
theorem dX6_comesTo_3 : decode cX6_comesTo 3 = .ok (.getfield 28, 3) := by decide +kernel
theorem dX6_comesTo_6 : decode cX6_comesTo 6 = .ok (.arraylength, 1) := by decide +kernel
theorem dX6_comesTo_7 : decode cX6_comesTo 7 = .ok (.iconst 1, 1) := by decide +kernel
theorem dX6_comesTo_8 : decode cX6_comesTo 8 = .ok (.isub, 1) := by decide +kernel
theorem dX6_comesTo_9 : decode cX6_comesTo 9 = .ok (.istore_n 3, 1) := by decide +kernel
theorem dX6_comesTo_10 : decode cX6_comesTo 10 = .ok (.iload_n 3, 1) := by decide +kernel
theorem dX6_comesTo_11 : decode cX6_comesTo 11 = .ok (.ifCond .lt 25, 3) := by decide +kernel
theorem dX6_comesTo_14 : decode cX6_comesTo 14 = .ok (.aload_n 0, 1) := by decide +kernel
theorem dX6_comesTo_15 : decode cX6_comesTo 15 = .ok (.iload_n 2, 1) := by decide +kernel
theorem dX6_comesTo_16 : decode cX6_comesTo 16 = .ok (.iload_n 1, 1) := by decide +kernel
theorem dX6_comesTo_17 : decode cX6_comesTo 17 = .ok (.imul, 1) := by decide +kernel
theorem dX6_comesTo_18 : decode cX6_comesTo 18 = .ok (.aload_n 0, 1) := by decide +kernel
theorem dX6_comesTo_19 : decode cX6_comesTo 19 = .ok (.getfield 28, 3) := by decide +kernel
theorem dX6_comesTo_22 : decode cX6_comesTo 22 = .ok (.iload_n 3, 1) := by decide +kernel
theorem dX6_comesTo_23 : decode cX6_comesTo 23 = .ok (.iaload, 1) := by decide +kernel
theorem dX6_comesTo_24 : decode cX6_comesTo 24 = .ok (.iadd, 1) := by decide +kernel
theorem dX6_comesTo_25 : decode cX6_comesTo 25 = .ok (.i2l, 1) := by decide +kernel
theorem dX6_comesTo_26 : decode cX6_comesTo 26 = .ok (.invokevirtual 63, 3) := by decide +kernel
theorem dX6_comesTo_29 : decode cX6_comesTo 29 = .ok (.istore_n 2, 1) := by decide +kernel
theorem dX6_comesTo_30 : decode cX6_comesTo 30 = .ok (.iinc 3 (-1), 3) := by decide +kernel
theorem dX6_comesTo_33 : decode cX6_comesTo 33 = .ok (.goto (-23), 3) := by decide +kernel
theorem dX6_comesTo_36 : decode cX6_comesTo 36 = .ok (.iload_n 2, 1) := by decide +kernel
theorem dX6_comesTo_37 : decode cX6_comesTo 37 = .ok (.ireturn, 1) := by decide +kernel
theorem dX6_sharesOff_0 : decode cX6_sharesOff 0 = .ok (.iconst 0, 1) := by decide +kernel
theorem dX6_sharesOff_1 : decode cX6_sharesOff 1 = .ok (.istore_n 1, 1) := by decide +kernel
theorem dX6_sharesOff_2 : decode cX6_sharesOff 2 = .ok (.iconst 0, 1) := by decide +kernel
theorem dX6_sharesOff_3 : decode cX6_sharesOff 3 = .ok (.istore_n 2, 1) := by decide +kernel
theorem dX6_sharesOff_4 : decode cX6_sharesOff 4 = .ok (.iload_n 2, 1) := by decide +kernel
theorem dX6_sharesOff_5 : decode cX6_sharesOff 5 = .ok (.aload_n 0, 1) := by decide +kernel
theorem dX6_sharesOff_6 : decode cX6_sharesOff 6 = .ok (.getfield 7, 3) := by decide +kernel
theorem dX6_sharesOff_9 : decode cX6_sharesOff 9 = .ok (.if_icmp .ge 39, 3) := by decide +kernel
theorem dX6_sharesOff_12 : decode cX6_sharesOff 12 = .ok (.aload_n 0, 1) := by decide +kernel
theorem dX6_sharesOff_13 : decode cX6_sharesOff 13 = .ok (.aload_n 0, 1) := by decide +kernel
theorem dX6_sharesOff_14 : decode cX6_sharesOff 14 = .ok (.getfield 16, 3) := by decide +kernel
theorem dX6_sharesOff_17 : decode cX6_sharesOff 17 = .ok (.iload_n 2, 1) := by decide +kernel
theorem dX6_sharesOff_18 : decode cX6_sharesOff 18 = .ok (.iaload, 1) := by decide +kernel
theorem dX6_sharesOff_19 : decode cX6_sharesOff 19 = .ok (.invokevirtual 67, 3) := by decide +kernel
theorem dX6_sharesOff_22 : decode cX6_sharesOff 22 = .ok (.aload_n 0, 1) := by decide +kernel
theorem dX6_sharesOff_23 : decode cX6_sharesOff 23 = .ok (.aload_n 0, 1) := by decide +kernel
theorem dX6_sharesOff_24 : decode cX6_sharesOff 24 = .ok (.getfield 23, 3) := by decide +kernel
theorem dX6_sharesOff_27 : decode cX6_sharesOff 27 = .ok (.iload_n 2, 1) := by decide +kernel
theorem dX6_sharesOff_28 : decode cX6_sharesOff 28 = .ok (.iaload, 1) := by decide +kernel
theorem dX6_sharesOff_29 : decode cX6_sharesOff 29 = .ok (.i2l, 1) := by decide +kernel
theorem dX6_sharesOff_30 : decode cX6_sharesOff 30 = .ok (.invokevirtual 63, 3) := by decide +kernel
theorem dX6_sharesOff_33 : decode cX6_sharesOff 33 = .ok (.if_icmp .eq 9, 3) := by decide +kernel
theorem dX6_sharesOff_36 : decode cX6_sharesOff 36 = .ok (.iload_n 1, 1) := by decide +kernel
theorem dX6_sharesOff_37 : decode cX6_sharesOff 37 = .ok (.iconst 1, 1) := by decide +kernel
theorem dX6_sharesOff_38 : decode cX6_sharesOff 38 = .ok (.iload_n 2, 1) := by decide +kernel
theorem dX6_sharesOff_39 : decode cX6_sharesOff 39 = .ok (.ishl, 1) := by decide +kernel
theorem dX6_sharesOff_40 : decode cX6_sharesOff 40 = .ok (.ior, 1) := by decide +kernel
theorem dX6_sharesOff_41 : decode cX6_sharesOff 41 = .ok (.istore_n 1, 1) := by decide +kernel
theorem dX6_sharesOff_42 : decode cX6_sharesOff 42 = .ok (.iinc 2 1, 3) := by decide +kernel
theorem dX6_sharesOff_45 : decode cX6_sharesOff 45 = .ok (.goto (-41), 3) := by decide +kernel
theorem dX6_sharesOff_48 : decode cX6_sharesOff 48 = .ok (.iload_n 1, 1) := by decide +kernel
theorem dX6_sharesOff_49 : decode cX6_sharesOff 49 = .ok (.ireturn, 1) := by decide +kernel
theorem dX6_offRow_0 : decode cX6_offRow 0 = .ok (.iconst 0, 1) := by decide +kernel
theorem dX6_offRow_1 : decode cX6_offRow 1 = .ok (.istore_n 2, 1) := by decide +kernel
theorem dX6_offRow_2 : decode cX6_offRow 2 = .ok (.iconst 0, 1) := by decide +kernel
theorem dX6_offRow_3 : decode cX6_offRow 3 = .ok (.istore_n 3, 1) := by decide +kernel
theorem dX6_offRow_4 : decode cX6_offRow 4 = .ok (.iconst 1, 1) := by decide +kernel
theorem dX6_offRow_5 : decode cX6_offRow 5 = .ok (.istore 4, 2) := by decide +kernel
theorem dX6_offRow_7 : decode cX6_offRow 7 = .ok (.iload 4, 2) := by decide +kernel
theorem dX6_offRow_9 : decode cX6_offRow 9 = .ok (.iconst 1, 1) := by decide +kernel
theorem dX6_offRow_10 : decode cX6_offRow 10 = .ok (.aload_n 0, 1) := by decide +kernel
theorem dX6_offRow_11 : decode cX6_offRow 11 = .ok (.getfield 7, 3) := by decide +kernel
theorem dX6_offRow_14 : decode cX6_offRow 14 = .ok (.ishl, 1) := by decide +kernel
theorem dX6_offRow_15 : decode cX6_offRow 15 = .ok (.if_icmp .ge 60, 3) := by decide +kernel
theorem dX6_offRow_18 : decode cX6_offRow 18 = .ok (.iload 4, 2) := by decide +kernel
theorem dX6_offRow_20 : decode cX6_offRow 20 = .ok (.invokestatic 34, 3) := by decide +kernel
theorem dX6_offRow_23 : decode cX6_offRow 23 = .ok (.iload_n 1, 1) := by decide +kernel
theorem dX6_offRow_24 : decode cX6_offRow 24 = .ok (.if_icmp .ne 45, 3) := by decide +kernel
theorem dX6_offRow_27 : decode cX6_offRow 27 = .ok (.aload_n 0, 1) := by decide +kernel
theorem dX6_offRow_28 : decode cX6_offRow 28 = .ok (.iload 4, 2) := by decide +kernel
theorem dX6_offRow_30 : decode cX6_offRow 30 = .ok (.invokevirtual 70, 3) := by decide +kernel
theorem dX6_offRow_33 : decode cX6_offRow 33 = .ok (.ifCond .eq 36, 3) := by decide +kernel
theorem dX6_offRow_36 : decode cX6_offRow 36 = .ok (.aload_n 0, 1) := by decide +kernel
theorem dX6_offRow_37 : decode cX6_offRow 37 = .ok (.iload 4, 2) := by decide +kernel
theorem dX6_offRow_39 : decode cX6_offRow 39 = .ok (.invokevirtual 74, 3) := by decide +kernel
theorem dX6_offRow_42 : decode cX6_offRow 42 = .ok (.aload_n 0, 1) := by decide +kernel
theorem dX6_offRow_43 : decode cX6_offRow 43 = .ok (.invokevirtual 78, 3) := by decide +kernel
theorem dX6_offRow_46 : decode cX6_offRow 46 = .ok (.istore 5, 2) := by decide +kernel
theorem dX6_offRow_48 : decode cX6_offRow 48 = .ok (.iload_n 3, 1) := by decide +kernel
theorem dX6_offRow_49 : decode cX6_offRow 49 = .ok (.ifCond .eq 15, 3) := by decide +kernel
theorem dX6_offRow_52 : decode cX6_offRow 52 = .ok (.iload 5, 2) := by decide +kernel
theorem dX6_offRow_54 : decode cX6_offRow 54 = .ok (.invokestatic 34, 3) := by decide +kernel
theorem dX6_offRow_57 : decode cX6_offRow 57 = .ok (.iload_n 2, 1) := by decide +kernel
theorem dX6_offRow_58 : decode cX6_offRow 58 = .ok (.invokestatic 34, 3) := by decide +kernel
theorem dX6_offRow_61 : decode cX6_offRow 61 = .ok (.if_icmp .ge 8, 3) := by decide +kernel
theorem dX6_offRow_64 : decode cX6_offRow 64 = .ok (.iload 5, 2) := by decide +kernel
theorem dX6_offRow_66 : decode cX6_offRow 66 = .ok (.istore_n 2, 1) := by decide +kernel
theorem dX6_offRow_67 : decode cX6_offRow 67 = .ok (.iconst 1, 1) := by decide +kernel
theorem dX6_offRow_68 : decode cX6_offRow 68 = .ok (.istore_n 3, 1) := by decide +kernel
theorem dX6_offRow_69 : decode cX6_offRow 69 = .ok (.iinc 4 1, 3) := by decide +kernel
theorem dX6_offRow_72 : decode cX6_offRow 72 = .ok (.goto (-65), 3) := by decide +kernel
theorem dX6_offRow_75 : decode cX6_offRow 75 = .ok (.iload_n 2, 1) := by decide +kernel
theorem dX6_offRow_76 : decode cX6_offRow 76 = .ok (.ireturn, 1) := by decide +kernel
theorem dX7_init_0 : decode cX7_init 0 = .ok (.aload_n 0, 1) := by decide +kernel
theorem dX7_init_1 : decode cX7_init 1 = .ok (.invokespecial 1, 3) := by decide +kernel
theorem dX7_init_4 : decode cX7_init 4 = .ok (.aload_n 0, 1) := by decide +kernel
theorem dX7_init_5 : decode cX7_init 5 = .ok (.iconst 0, 1) := by decide +kernel
theorem dX7_init_6 : decode cX7_init 6 = .ok (.putfield 7, 3) := by decide +kernel
theorem dX7_init_9 : decode cX7_init 9 = .ok (.aload_n 0, 1) := by decide +kernel
theorem dX7_init_10 : decode cX7_init 10 = .ok (.bipush 6, 2) := by decide +kernel
theorem dX7_init_12 : decode cX7_init 12 = .ok (.newarray .int, 2) := by decide +kernel
theorem dX7_init_14 : decode cX7_init 14 = .ok (.putfield 13, 3) := by decide +kernel
theorem dX7_init_17 : decode cX7_init 17 = .ok (.aload_n 0, 1) := by decide +kernel
theorem dX7_init_18 : decode cX7_init 18 = .ok (.bipush 6, 2) := by decide +kernel
theorem dX7_init_20 : decode cX7_init 20 = .ok (.newarray .long, 2) := by decide +kernel
theorem dX7_init_22 : decode cX7_init 22 = .ok (.putfield 17, 3) := by decide +kernel
theorem dX7_init_25 : decode cX7_init 25 = .ok (.aload_n 0, 1) := by decide +kernel
theorem dX7_init_26 : decode cX7_init 26 = .ok (.bipush 36, 2) := by decide +kernel
theorem dX7_init_28 : decode cX7_init 28 = .ok (.newarray .int, 2) := by decide +kernel
theorem dX7_init_30 : decode cX7_init 30 = .ok (.putfield 21, 3) := by decide +kernel
theorem dX7_init_33 : decode cX7_init 33 = .ok (.aload_n 0, 1) := by decide +kernel
theorem dX7_init_34 : decode cX7_init 34 = .ok (.new 24, 3) := by decide +kernel
theorem dX7_init_37 : decode cX7_init 37 = .ok (.dup, 1) := by decide +kernel
theorem dX7_init_38 : decode cX7_init 38 = .ok (.invokespecial 26, 3) := by decide +kernel
theorem dX7_init_41 : decode cX7_init 41 = .ok (.putfield 27, 3) := by decide +kernel
theorem dX7_init_44 : decode cX7_init 44 = .ok (.aload_n 0, 1) := by decide +kernel
theorem dX7_init_45 : decode cX7_init 45 = .ok (.new 31, 3) := by decide +kernel
theorem dX7_init_48 : decode cX7_init 48 = .ok (.dup, 1) := by decide +kernel
theorem dX7_init_49 : decode cX7_init 49 = .ok (.invokespecial 33, 3) := by decide +kernel
theorem dX7_init_52 : decode cX7_init 52 = .ok (.putfield 34, 3) := by decide +kernel
theorem dX7_init_55 : decode cX7_init 55 = .ok (.aload_n 0, 1) := by decide +kernel
theorem dX7_init_56 : decode cX7_init 56 = .ok (.new 38, 3) := by decide +kernel
theorem dX7_init_59 : decode cX7_init 59 = .ok (.dup, 1) := by decide +kernel
theorem dX7_init_60 : decode cX7_init 60 = .ok (.invokespecial 40, 3) := by decide +kernel
theorem dX7_init_63 : decode cX7_init 63 = .ok (.putfield 41, 3) := by decide +kernel
theorem dX7_init_66 : decode cX7_init 66 = .ok (.aload_n 0, 1) := by decide +kernel
theorem dX7_init_67 : decode cX7_init 67 = .ok (.iconst 3, 1) := by decide +kernel
theorem dX7_init_68 : decode cX7_init 68 = .ok (.putfield 45, 3) := by decide +kernel
theorem dX7_init_71 : decode cX7_init 71 = .ok (.aload_n 0, 1) := by decide +kernel
theorem dX7_init_72 : decode cX7_init 72 = .ok (.iconst 3, 1) := by decide +kernel
theorem dX7_init_73 : decode cX7_init 73 = .ok (.putfield 48, 3) := by decide +kernel
theorem dX7_init_76 : decode cX7_init 76 = .ok (.aload_n 0, 1) := by decide +kernel
theorem dX7_init_77 : decode cX7_init 77 = .ok (.iconst 0, 1) := by decide +kernel
theorem dX7_init_78 : decode cX7_init 78 = .ok (.putfield 51, 3) := by decide +kernel
theorem dX7_init_81 : decode cX7_init 81 = .ok (.aload_n 0, 1) := by decide +kernel
theorem dX7_init_82 : decode cX7_init 82 = .ok (.invokevirtual 54, 3) := by decide +kernel
theorem dX7_init_85 : decode cX7_init 85 = .ok (.return_, 1) := by decide +kernel
theorem dX7_clear_0 : decode cX7_clear 0 = .ok (.aload_n 0, 1) := by decide +kernel
theorem dX7_clear_1 : decode cX7_clear 1 = .ok (.iconst 0, 1) := by decide +kernel
theorem dX7_clear_2 : decode cX7_clear 2 = .ok (.putfield 7, 3) := by decide +kernel
theorem dX7_clear_5 : decode cX7_clear 5 = .ok (.aload_n 0, 1) := by decide +kernel
theorem dX7_clear_6 : decode cX7_clear 6 = .ok (.getfield 27, 3) := by decide +kernel
theorem dX7_clear_9 : decode cX7_clear 9 = .ok (.invokevirtual 57, 3) := by decide +kernel
theorem dX7_clear_12 : decode cX7_clear 12 = .ok (.aload_n 0, 1) := by decide +kernel
theorem dX7_clear_13 : decode cX7_clear 13 = .ok (.getfield 27, 3) := by decide +kernel
theorem dX7_clear_16 : decode cX7_clear 16 = .ok (.iconst 2, 1) := by decide +kernel
theorem dX7_clear_17 : decode cX7_clear 17 = .ok (.iconst 3, 1) := by decide +kernel
theorem dX7_clear_18 : decode cX7_clear 18 = .ok (.invokevirtual 58, 3) := by decide +kernel
theorem dX7_clear_21 : decode cX7_clear 21 = .ok (.pop, 1) := by decide +kernel
theorem dX7_clear_22 : decode cX7_clear 22 = .ok (.aload_n 0, 1) := by decide +kernel
theorem dX7_clear_23 : decode cX7_clear 23 = .ok (.getfield 27, 3) := by decide +kernel
theorem dX7_clear_26 : decode cX7_clear 26 = .ok (.iconst 1, 1) := by decide +kernel
theorem dX7_clear_27 : decode cX7_clear 27 = .ok (.iconst 1, 1) := by decide +kernel
theorem dX7_clear_28 : decode cX7_clear 28 = .ok (.invokevirtual 58, 3) := by decide +kernel
theorem dX7_clear_31 : decode cX7_clear 31 = .ok (.pop, 1) := by decide +kernel
theorem dX7_clear_32 : decode cX7_clear 32 = .ok (.aload_n 0, 1) := by decide +kernel
theorem dX7_clear_33 : decode cX7_clear 33 = .ok (.getfield 27, 3) := by decide +kernel
theorem dX7_clear_36 : decode cX7_clear 36 = .ok (.bipush 43, 2) := by decide +kernel
theorem dX7_clear_38 : decode cX7_clear 38 = .ok (.iconst 0, 1) := by decide +kernel
theorem dX7_clear_39 : decode cX7_clear 39 = .ok (.invokevirtual 58, 3) := by decide +kernel
theorem dX7_clear_42 : decode cX7_clear 42 = .ok (.pop, 1) := by decide +kernel
theorem dX7_clear_43 : decode cX7_clear 43 = .ok (.aload_n 0, 1) := by decide +kernel
theorem dX7_clear_44 : decode cX7_clear 44 = .ok (.getfield 27, 3) := by decide +kernel
theorem dX7_clear_47 : decode cX7_clear 47 = .ok (.iconst 4, 1) := by decide +kernel
theorem dX7_clear_48 : decode cX7_clear 48 = .ok (.iconst 0, 1) := by decide +kernel
theorem dX7_clear_49 : decode cX7_clear 49 = .ok (.invokevirtual 58, 3) := by decide +kernel
theorem dX7_clear_52 : decode cX7_clear 52 = .ok (.pop, 1) := by decide +kernel
theorem dX7_clear_53 : decode cX7_clear 53 = .ok (.aload_n 0, 1) := by decide +kernel
theorem dX7_clear_54 : decode cX7_clear 54 = .ok (.getfield 34, 3) := by decide +kernel
theorem dX7_clear_57 : decode cX7_clear 57 = .ok (.invokevirtual 62, 3) := by decide +kernel
theorem dX7_clear_60 : decode cX7_clear 60 = .ok (.aload_n 0, 1) := by decide +kernel
theorem dX7_clear_61 : decode cX7_clear 61 = .ok (.getfield 41, 3) := by decide +kernel
theorem dX7_clear_64 : decode cX7_clear 64 = .ok (.invokevirtual 63, 3) := by decide +kernel
theorem dX7_clear_67 : decode cX7_clear 67 = .ok (.aload_n 0, 1) := by decide +kernel
theorem dX7_clear_68 : decode cX7_clear 68 = .ok (.iconst 3, 1) := by decide +kernel
theorem dX7_clear_69 : decode cX7_clear 69 = .ok (.putfield 45, 3) := by decide +kernel
theorem dX7_clear_72 : decode cX7_clear 72 = .ok (.aload_n 0, 1) := by decide +kernel
theorem dX7_clear_73 : decode cX7_clear 73 = .ok (.iconst 3, 1) := by decide +kernel
theorem dX7_clear_74 : decode cX7_clear 74 = .ok (.putfield 48, 3) := by decide +kernel
theorem dX7_clear_77 : decode cX7_clear 77 = .ok (.aload_n 0, 1) := by decide +kernel
theorem dX7_clear_78 : decode cX7_clear 78 = .ok (.iconst 0, 1) := by decide +kernel
theorem dX7_clear_79 : decode cX7_clear 79 = .ok (.putfield 51, 3) := by decide +kernel
theorem dX7_clear_82 : decode cX7_clear 82 = .ok (.return_, 1) := by decide +kernel
theorem dX7_isFullOf_0 : decode cX7_isFullOf 0 = .ok (.iload_n 1, 1) := by decide +kernel
theorem dX7_isFullOf_1 : decode cX7_isFullOf 1 = .ok (.tableswitch 90 256 261 #[39, 39, 90, 90, 54, 72], 39) := by decide +kernel
theorem dX7_isFullOf_40 : decode cX7_isFullOf 40 = .ok (.aload_n 0, 1) := by decide +kernel
theorem dX7_isFullOf_41 : decode cX7_isFullOf 41 = .ok (.getfield 7, 3) := by decide +kernel
theorem dX7_isFullOf_44 : decode cX7_isFullOf 44 = .ok (.bipush 6, 2) := by decide +kernel
theorem dX7_isFullOf_46 : decode cX7_isFullOf 46 = .ok (.if_icmp .lt 7, 3) := by decide +kernel
theorem dX7_isFullOf_49 : decode cX7_isFullOf 49 = .ok (.iconst 1, 1) := by decide +kernel
theorem dX7_isFullOf_50 : decode cX7_isFullOf 50 = .ok (.goto 4, 3) := by decide +kernel
theorem dX7_isFullOf_53 : decode cX7_isFullOf 53 = .ok (.iconst 0, 1) := by decide +kernel
theorem dX7_isFullOf_54 : decode cX7_isFullOf 54 = .ok (.ireturn, 1) := by decide +kernel
theorem dX7_isFullOf_55 : decode cX7_isFullOf 55 = .ok (.aload_n 0, 1) := by decide +kernel
theorem dX7_isFullOf_56 : decode cX7_isFullOf 56 = .ok (.getfield 34, 3) := by decide +kernel
theorem dX7_isFullOf_59 : decode cX7_isFullOf 59 = .ok (.getfield 64, 3) := by decide +kernel
theorem dX7_isFullOf_62 : decode cX7_isFullOf 62 = .ok (.bipush 8, 2) := by decide +kernel
theorem dX7_isFullOf_64 : decode cX7_isFullOf 64 = .ok (.if_icmp .lt 7, 3) := by decide +kernel
theorem dX7_isFullOf_67 : decode cX7_isFullOf 67 = .ok (.iconst 1, 1) := by decide +kernel
theorem dX7_isFullOf_68 : decode cX7_isFullOf 68 = .ok (.goto 4, 3) := by decide +kernel
theorem dX7_isFullOf_71 : decode cX7_isFullOf 71 = .ok (.iconst 0, 1) := by decide +kernel
theorem dX7_isFullOf_72 : decode cX7_isFullOf 72 = .ok (.ireturn, 1) := by decide +kernel
theorem dX7_isFullOf_73 : decode cX7_isFullOf 73 = .ok (.aload_n 0, 1) := by decide +kernel
theorem dX7_isFullOf_74 : decode cX7_isFullOf 74 = .ok (.getfield 41, 3) := by decide +kernel
theorem dX7_isFullOf_77 : decode cX7_isFullOf 77 = .ok (.getfield 67, 3) := by decide +kernel
theorem dX7_isFullOf_80 : decode cX7_isFullOf 80 = .ok (.bipush 9, 2) := by decide +kernel
theorem dX7_isFullOf_82 : decode cX7_isFullOf 82 = .ok (.if_icmp .lt 7, 3) := by decide +kernel
theorem dX7_isFullOf_85 : decode cX7_isFullOf 85 = .ok (.iconst 1, 1) := by decide +kernel
theorem dX7_isFullOf_86 : decode cX7_isFullOf 86 = .ok (.goto 4, 3) := by decide +kernel
theorem dX7_isFullOf_89 : decode cX7_isFullOf 89 = .ok (.iconst 0, 1) := by decide +kernel
theorem dX7_isFullOf_90 : decode cX7_isFullOf 90 = .ok (.ireturn, 1) := by decide +kernel
theorem dX7_isFullOf_91 : decode cX7_isFullOf 91 = .ok (.iconst 0, 1) := by decide +kernel
theorem dX7_isFullOf_92 : decode cX7_isFullOf 92 = .ok (.ireturn, 1) := by decide +kernel
theorem dX7_tellName_0 : decode cX7_tellName 0 = .ok (.iconst 1, 1) := by decide +kernel
theorem dX7_tellName_1 : decode cX7_tellName 1 = .ok (.istore_n 3, 1) := by decide +kernel
theorem dX7_tellName_2 : decode cX7_tellName 2 = .ok (.iconst 0, 1) := by decide +kernel
theorem dX7_tellName_3 : decode cX7_tellName 3 = .ok (.istore 4, 2) := by decide +kernel
theorem dX7_tellName_5 : decode cX7_tellName 5 = .ok (.iload 4, 2) := by decide +kernel
theorem dX7_tellName_7 : decode cX7_tellName 7 = .ok (.aload_n 0, 1) := by decide +kernel
theorem dX7_tellName_8 : decode cX7_tellName 8 = .ok (.getfield 7, 3) := by decide +kernel
theorem dX7_tellName_11 : decode cX7_tellName 11 = .ok (.if_icmp .ge 23, 3) := by decide +kernel
theorem dX7_tellName_14 : decode cX7_tellName 14 = .ok (.aload_n 0, 1) := by decide +kernel
theorem dX7_tellName_15 : decode cX7_tellName 15 = .ok (.getfield 17, 3) := by decide +kernel
theorem dX7_tellName_18 : decode cX7_tellName 18 = .ok (.iload 4, 2) := by decide +kernel
theorem dX7_tellName_20 : decode cX7_tellName 20 = .ok (.laload, 1) := by decide +kernel
theorem dX7_tellName_21 : decode cX7_tellName 21 = .ok (.lload_n 1, 1) := by decide +kernel
theorem dX7_tellName_22 : decode cX7_tellName 22 = .ok (.lcmp, 1) := by decide +kernel
theorem dX7_tellName_23 : decode cX7_tellName 23 = .ok (.ifCond .ne 5, 3) := by decide +kernel
theorem dX7_tellName_26 : decode cX7_tellName 26 = .ok (.iconst 0, 1) := by decide +kernel
theorem dX7_tellName_27 : decode cX7_tellName 27 = .ok (.istore_n 3, 1) := by decide +kernel
theorem dX7_tellName_28 : decode cX7_tellName 28 = .ok (.iinc 4 1, 3) := by decide +kernel
theorem dX7_tellName_31 : decode cX7_tellName 31 = .ok (.goto (-26), 3) := by decide +kernel
theorem dX7_tellName_34 : decode cX7_tellName 34 = .ok (.aload_n 0, 1) := by decide +kernel
theorem dX7_tellName_35 : decode cX7_tellName 35 = .ok (.getfield 7, 3) := by decide +kernel
theorem dX7_tellName_38 : decode cX7_tellName 38 = .ok (.bipush 6, 2) := by decide +kernel
theorem dX7_tellName_40 : decode cX7_tellName 40 = .ok (.if_icmp .ge 13, 3) := by decide +kernel
theorem dX7_tellName_43 : decode cX7_tellName 43 = .ok (.aload_n 0, 1) := by decide +kernel
theorem dX7_tellName_44 : decode cX7_tellName 44 = .ok (.getfield 17, 3) := by decide +kernel
theorem dX7_tellName_47 : decode cX7_tellName 47 = .ok (.aload_n 0, 1) := by decide +kernel
theorem dX7_tellName_48 : decode cX7_tellName 48 = .ok (.getfield 7, 3) := by decide +kernel
theorem dX7_tellName_51 : decode cX7_tellName 51 = .ok (.lload_n 1, 1) := by decide +kernel
theorem dX7_tellName_52 : decode cX7_tellName 52 = .ok (.lastore, 1) := by decide +kernel
theorem dX7_tellName_53 : decode cX7_tellName 53 = .ok (.iload_n 3, 1) := by decide +kernel
theorem dX7_tellName_54 : decode cX7_tellName 54 = .ok (.ireturn, 1) := by decide +kernel
theorem dX7_tellNumber_0 : decode cX7_tellNumber 0 = .ok (.aload_n 0, 1) := by decide +kernel
theorem dX7_tellNumber_1 : decode cX7_tellNumber 1 = .ok (.getfield 7, 3) := by decide +kernel
theorem dX7_tellNumber_4 : decode cX7_tellNumber 4 = .ok (.bipush 6, 2) := by decide +kernel
theorem dX7_tellNumber_6 : decode cX7_tellNumber 6 = .ok (.if_icmp .ge 24, 3) := by decide +kernel
theorem dX7_tellNumber_9 : decode cX7_tellNumber 9 = .ok (.iload_n 1, 1) := by decide +kernel
theorem dX7_tellNumber_10 : decode cX7_tellNumber 10 = .ok (.bipush 6, 2) := by decide +kernel
theorem dX7_tellNumber_12 : decode cX7_tellNumber 12 = .ok (.if_icmp .ge 18, 3) := by decide +kernel
theorem dX7_tellNumber_15 : decode cX7_tellNumber 15 = .ok (.aload_n 0, 1) := by decide +kernel
theorem dX7_tellNumber_16 : decode cX7_tellNumber 16 = .ok (.getfield 21, 3) := by decide +kernel
theorem dX7_tellNumber_19 : decode cX7_tellNumber 19 = .ok (.aload_n 0, 1) := by decide +kernel
theorem dX7_tellNumber_20 : decode cX7_tellNumber 20 = .ok (.getfield 7, 3) := by decide +kernel
theorem dX7_tellNumber_23 : decode cX7_tellNumber 23 = .ok (.bipush 6, 2) := by decide +kernel
theorem dX7_tellNumber_25 : decode cX7_tellNumber 25 = .ok (.imul, 1) := by decide +kernel
theorem dX7_tellNumber_26 : decode cX7_tellNumber 26 = .ok (.iload_n 1, 1) := by decide +kernel
theorem dX7_tellNumber_27 : decode cX7_tellNumber 27 = .ok (.iadd, 1) := by decide +kernel
theorem dX7_tellNumber_28 : decode cX7_tellNumber 28 = .ok (.iload_n 2, 1) := by decide +kernel
theorem dX7_tellNumber_29 : decode cX7_tellNumber 29 = .ok (.iastore, 1) := by decide +kernel
theorem dX7_tellNumber_30 : decode cX7_tellNumber 30 = .ok (.return_, 1) := by decide +kernel
theorem dX7_endRow_0 : decode cX7_endRow 0 = .ok (.aload_n 0, 1) := by decide +kernel
theorem dX7_endRow_1 : decode cX7_endRow 1 = .ok (.getfield 7, 3) := by decide +kernel
theorem dX7_endRow_4 : decode cX7_endRow 4 = .ok (.bipush 6, 2) := by decide +kernel
theorem dX7_endRow_6 : decode cX7_endRow 6 = .ok (.if_icmp .ge 23, 3) := by decide +kernel
theorem dX7_endRow_9 : decode cX7_endRow 9 = .ok (.aload_n 0, 1) := by decide +kernel
theorem dX7_endRow_10 : decode cX7_endRow 10 = .ok (.getfield 13, 3) := by decide +kernel
theorem dX7_endRow_13 : decode cX7_endRow 13 = .ok (.aload_n 0, 1) := by decide +kernel
theorem dX7_endRow_14 : decode cX7_endRow 14 = .ok (.getfield 7, 3) := by decide +kernel
theorem dX7_endRow_17 : decode cX7_endRow 17 = .ok (.iload_n 1, 1) := by decide +kernel
theorem dX7_endRow_18 : decode cX7_endRow 18 = .ok (.iastore, 1) := by decide +kernel
theorem dX7_endRow_19 : decode cX7_endRow 19 = .ok (.aload_n 0, 1) := by decide +kernel
theorem dX7_endRow_20 : decode cX7_endRow 20 = .ok (.dup, 1) := by decide +kernel
theorem dX7_endRow_21 : decode cX7_endRow 21 = .ok (.getfield 7, 3) := by decide +kernel
theorem dX7_endRow_24 : decode cX7_endRow 24 = .ok (.iconst 1, 1) := by decide +kernel
theorem dX7_endRow_25 : decode cX7_endRow 25 = .ok (.iadd, 1) := by decide +kernel
theorem dX7_endRow_26 : decode cX7_endRow 26 = .ok (.putfield 7, 3) := by decide +kernel
theorem dX7_endRow_29 : decode cX7_endRow 29 = .ok (.return_, 1) := by decide +kernel
theorem dX7_numberAt_0 : decode cX7_numberAt 0 = .ok (.iload_n 1, 1) := by decide +kernel
theorem dX7_numberAt_1 : decode cX7_numberAt 1 = .ok (.ifCond .lt 29, 3) := by decide +kernel
theorem dX7_numberAt_4 : decode cX7_numberAt 4 = .ok (.iload_n 1, 1) := by decide +kernel
theorem dX7_numberAt_5 : decode cX7_numberAt 5 = .ok (.aload_n 0, 1) := by decide +kernel
theorem dX7_numberAt_6 : decode cX7_numberAt 6 = .ok (.getfield 7, 3) := by decide +kernel
theorem dX7_numberAt_9 : decode cX7_numberAt 9 = .ok (.if_icmp .ge 21, 3) := by decide +kernel
theorem dX7_numberAt_12 : decode cX7_numberAt 12 = .ok (.iload_n 2, 1) := by decide +kernel
theorem dX7_numberAt_13 : decode cX7_numberAt 13 = .ok (.ifCond .lt 17, 3) := by decide +kernel
theorem dX7_numberAt_16 : decode cX7_numberAt 16 = .ok (.iload_n 2, 1) := by decide +kernel
theorem dX7_numberAt_17 : decode cX7_numberAt 17 = .ok (.aload_n 0, 1) := by decide +kernel
theorem dX7_numberAt_18 : decode cX7_numberAt 18 = .ok (.getfield 13, 3) := by decide +kernel
theorem dX7_numberAt_21 : decode cX7_numberAt 21 = .ok (.iload_n 1, 1) := by decide +kernel
theorem dX7_numberAt_22 : decode cX7_numberAt 22 = .ok (.iaload, 1) := by decide +kernel
theorem dX7_numberAt_23 : decode cX7_numberAt 23 = .ok (.if_icmp .ge 7, 3) := by decide +kernel
theorem dX7_numberAt_26 : decode cX7_numberAt 26 = .ok (.iconst 1, 1) := by decide +kernel
theorem dX7_numberAt_27 : decode cX7_numberAt 27 = .ok (.goto 4, 3) := by decide +kernel
theorem dX7_numberAt_30 : decode cX7_numberAt 30 = .ok (.iconst 0, 1) := by decide +kernel
theorem dX7_numberAt_31 : decode cX7_numberAt 31 = .ok (.istore_n 3, 1) := by decide +kernel
theorem dX7_numberAt_32 : decode cX7_numberAt 32 = .ok (.iload_n 3, 1) := by decide +kernel
theorem dX7_numberAt_33 : decode cX7_numberAt 33 = .ok (.ifCond .eq 17, 3) := by decide +kernel
theorem dX7_numberAt_36 : decode cX7_numberAt 36 = .ok (.aload_n 0, 1) := by decide +kernel
theorem dX7_numberAt_37 : decode cX7_numberAt 37 = .ok (.getfield 21, 3) := by decide +kernel
theorem dX7_numberAt_40 : decode cX7_numberAt 40 = .ok (.iload_n 1, 1) := by decide +kernel
theorem dX7_numberAt_41 : decode cX7_numberAt 41 = .ok (.bipush 6, 2) := by decide +kernel
theorem dX7_numberAt_43 : decode cX7_numberAt 43 = .ok (.imul, 1) := by decide +kernel
theorem dX7_numberAt_44 : decode cX7_numberAt 44 = .ok (.iload_n 2, 1) := by decide +kernel
theorem dX7_numberAt_45 : decode cX7_numberAt 45 = .ok (.iadd, 1) := by decide +kernel
theorem dX7_numberAt_46 : decode cX7_numberAt 46 = .ok (.iaload, 1) := by decide +kernel
theorem dX7_numberAt_47 : decode cX7_numberAt 47 = .ok (.goto 4, 3) := by decide +kernel
theorem dX7_numberAt_50 : decode cX7_numberAt 50 = .ok (.iconst 0, 1) := by decide +kernel
theorem dX7_numberAt_51 : decode cX7_numberAt 51 = .ok (.ireturn, 1) := by decide +kernel
theorem dX7_comesTo_0 : decode cX7_comesTo 0 = .ok (.lconst 0, 1) := by decide +kernel
theorem dX7_comesTo_1 : decode cX7_comesTo 1 = .ok (.lstore 4, 2) := by decide +kernel
theorem dX7_comesTo_3 : decode cX7_comesTo 3 = .ok (.iconst 5, 1) := by decide +kernel
theorem dX7_comesTo_4 : decode cX7_comesTo 4 = .ok (.istore 6, 2) := by decide +kernel
theorem dX7_comesTo_6 : decode cX7_comesTo 6 = .ok (.iload 6, 2) := by decide +kernel
theorem dX7_comesTo_8 : decode cX7_comesTo 8 = .ok (.ifCond .lt 24, 3) := by decide +kernel
theorem dX7_comesTo_11 : decode cX7_comesTo 11 = .ok (.lload 4, 2) := by decide +kernel
theorem dX7_comesTo_13 : decode cX7_comesTo 13 = .ok (.lload_n 2, 1) := by decide +kernel
theorem dX7_comesTo_14 : decode cX7_comesTo 14 = .ok (.lmul, 1) := by decide +kernel
theorem dX7_comesTo_15 : decode cX7_comesTo 15 = .ok (.aload_n 0, 1) := by decide +kernel
theorem dX7_comesTo_16 : decode cX7_comesTo 16 = .ok (.iload_n 1, 1) := by decide +kernel
theorem dX7_comesTo_17 : decode cX7_comesTo 17 = .ok (.iload 6, 2) := by decide +kernel
theorem dX7_comesTo_19 : decode cX7_comesTo 19 = .ok (.invokevirtual 68, 3) := by decide +kernel
theorem dX7_comesTo_22 : decode cX7_comesTo 22 = .ok (.i2l, 1) := by decide +kernel
theorem dX7_comesTo_23 : decode cX7_comesTo 23 = .ok (.ladd, 1) := by decide +kernel
theorem dX7_comesTo_24 : decode cX7_comesTo 24 = .ok (.lstore 4, 2) := by decide +kernel
theorem dX7_comesTo_26 : decode cX7_comesTo 26 = .ok (.iinc 6 (-1), 3) := by decide +kernel
theorem dX7_comesTo_29 : decode cX7_comesTo 29 = .ok (.goto (-23), 3) := by decide +kernel
theorem dX7_comesTo_32 : decode cX7_comesTo 32 = .ok (.lload 4, 2) := by decide +kernel
theorem dX7_comesTo_34 : decode cX7_comesTo 34 = .ok (.lreturn, 1) := by decide +kernel
theorem dX7_isSomeBelowZero_0 : decode cX7_isSomeBelowZero 0 = .ok (.iconst 0, 1) := by decide +kernel
theorem dX7_isSomeBelowZero_1 : decode cX7_isSomeBelowZero 1 = .ok (.istore_n 2, 1) := by decide +kernel
theorem dX7_isSomeBelowZero_2 : decode cX7_isSomeBelowZero 2 = .ok (.iload_n 2, 1) := by decide +kernel
theorem dX7_isSomeBelowZero_3 : decode cX7_isSomeBelowZero 3 = .ok (.bipush 6, 2) := by decide +kernel
theorem dX7_isSomeBelowZero_5 : decode cX7_isSomeBelowZero 5 = .ok (.if_icmp .ge 20, 3) := by decide +kernel
theorem dX7_isSomeBelowZero_8 : decode cX7_isSomeBelowZero 8 = .ok (.aload_n 0, 1) := by decide +kernel
theorem dX7_isSomeBelowZero_9 : decode cX7_isSomeBelowZero 9 = .ok (.iload_n 1, 1) := by decide +kernel
theorem dX7_isSomeBelowZero_10 : decode cX7_isSomeBelowZero 10 = .ok (.iload_n 2, 1) := by decide +kernel
theorem dX7_isSomeBelowZero_11 : decode cX7_isSomeBelowZero 11 = .ok (.invokevirtual 68, 3) := by decide +kernel
theorem dX7_isSomeBelowZero_14 : decode cX7_isSomeBelowZero 14 = .ok (.ifCond .ge 5, 3) := by decide +kernel
theorem dX7_isSomeBelowZero_17 : decode cX7_isSomeBelowZero 17 = .ok (.iconst 1, 1) := by decide +kernel
theorem dX7_isSomeBelowZero_18 : decode cX7_isSomeBelowZero 18 = .ok (.ireturn, 1) := by decide +kernel
theorem dX7_isSomeBelowZero_19 : decode cX7_isSomeBelowZero 19 = .ok (.iinc 2 1, 3) := by decide +kernel
theorem dX7_isSomeBelowZero_22 : decode cX7_isSomeBelowZero 22 = .ok (.goto (-20), 3) := by decide +kernel
theorem dX7_isSomeBelowZero_25 : decode cX7_isSomeBelowZero 25 = .ok (.iconst 0, 1) := by decide +kernel
theorem dX7_isSomeBelowZero_26 : decode cX7_isSomeBelowZero 26 = .ok (.ireturn, 1) := by decide +kernel
theorem dX8_init_0 : decode cX8_init 0 = .ok (.aload_n 0, 1) := by decide +kernel
theorem dX8_init_1 : decode cX8_init 1 = .ok (.invokespecial 1, 3) := by decide +kernel
theorem dX8_init_4 : decode cX8_init 4 = .ok (.aload_n 0, 1) := by decide +kernel
theorem dX8_init_5 : decode cX8_init 5 = .ok (.sipush 402, 3) := by decide +kernel
theorem dX8_init_8 : decode cX8_init 8 = .ok (.newarray .int, 2) := by decide +kernel
theorem dX8_init_10 : decode cX8_init 10 = .ok (.putfield 9, 3) := by decide +kernel
theorem dX8_init_13 : decode cX8_init 13 = .ok (.aload_n 0, 1) := by decide +kernel
theorem dX8_init_14 : decode cX8_init 14 = .ok (.sipush 402, 3) := by decide +kernel
theorem dX8_init_17 : decode cX8_init 17 = .ok (.newarray .int, 2) := by decide +kernel
theorem dX8_init_19 : decode cX8_init 19 = .ok (.putfield 13, 3) := by decide +kernel
theorem dX8_init_22 : decode cX8_init 22 = .ok (.aload_n 0, 1) := by decide +kernel
theorem dX8_init_23 : decode cX8_init 23 = .ok (.sipush 402, 3) := by decide +kernel
theorem dX8_init_26 : decode cX8_init 26 = .ok (.newarray .long, 2) := by decide +kernel
theorem dX8_init_28 : decode cX8_init 28 = .ok (.putfield 16, 3) := by decide +kernel
theorem dX8_init_31 : decode cX8_init 31 = .ok (.aload_n 0, 1) := by decide +kernel
theorem dX8_init_32 : decode cX8_init 32 = .ok (.bipush 17, 2) := by decide +kernel
theorem dX8_init_34 : decode cX8_init 34 = .ok (.newarray .long, 2) := by decide +kernel
theorem dX8_init_36 : decode cX8_init 36 = .ok (.putfield 20, 3) := by decide +kernel
theorem dX8_init_39 : decode cX8_init 39 = .ok (.aload_n 0, 1) := by decide +kernel
theorem dX8_init_40 : decode cX8_init 40 = .ok (.iconst 0, 1) := by decide +kernel
theorem dX8_init_41 : decode cX8_init 41 = .ok (.putfield 23, 3) := by decide +kernel
theorem dX8_init_44 : decode cX8_init 44 = .ok (.iconst 0, 1) := by decide +kernel
theorem dX8_init_45 : decode cX8_init 45 = .ok (.istore_n 1, 1) := by decide +kernel
theorem dX8_init_46 : decode cX8_init 46 = .ok (.iload_n 1, 1) := by decide +kernel
theorem dX8_init_47 : decode cX8_init 47 = .ok (.bipush 17, 2) := by decide +kernel
theorem dX8_init_49 : decode cX8_init 49 = .ok (.if_icmp .ge 56, 3) := by decide +kernel
theorem dX8_init_52 : decode cX8_init 52 = .ok (.sipush 256, 3) := by decide +kernel
theorem dX8_init_55 : decode cX8_init 55 = .ok (.iload_n 1, 1) := by decide +kernel
theorem dX8_init_56 : decode cX8_init 56 = .ok (.iadd, 1) := by decide +kernel
theorem dX8_init_57 : decode cX8_init 57 = .ok (.invokestatic 27, 3) := by decide +kernel
theorem dX8_init_60 : decode cX8_init 60 = .ok (.astore_n 2, 1) := by decide +kernel
theorem dX8_init_61 : decode cX8_init 61 = .ok (.lconst 0, 1) := by decide +kernel
theorem dX8_init_62 : decode cX8_init 62 = .ok (.lstore_n 3, 1) := by decide +kernel
theorem dX8_init_63 : decode cX8_init 63 = .ok (.iconst 0, 1) := by decide +kernel
theorem dX8_init_64 : decode cX8_init 64 = .ok (.istore 5, 2) := by decide +kernel
theorem dX8_init_66 : decode cX8_init 66 = .ok (.iload 5, 2) := by decide +kernel
theorem dX8_init_68 : decode cX8_init 68 = .ok (.aload_n 2, 1) := by decide +kernel
theorem dX8_init_69 : decode cX8_init 69 = .ok (.invokevirtual 31, 3) := by decide +kernel
theorem dX8_init_72 : decode cX8_init 72 = .ok (.if_icmp .ge 20, 3) := by decide +kernel
theorem dX8_init_75 : decode cX8_init 75 = .ok (.lload_n 3, 1) := by decide +kernel
theorem dX8_init_76 : decode cX8_init 76 = .ok (.aload_n 2, 1) := by decide +kernel
theorem dX8_init_77 : decode cX8_init 77 = .ok (.iload 5, 2) := by decide +kernel
theorem dX8_init_79 : decode cX8_init 79 = .ok (.invokevirtual 37, 3) := by decide +kernel
theorem dX8_init_82 : decode cX8_init 82 = .ok (.invokestatic 41, 3) := by decide +kernel
theorem dX8_init_85 : decode cX8_init 85 = .ok (.lstore_n 3, 1) := by decide +kernel
theorem dX8_init_86 : decode cX8_init 86 = .ok (.iinc 5 1, 3) := by decide +kernel
theorem dX8_init_89 : decode cX8_init 89 = .ok (.goto (-23), 3) := by decide +kernel
theorem dX8_init_92 : decode cX8_init 92 = .ok (.aload_n 0, 1) := by decide +kernel
theorem dX8_init_93 : decode cX8_init 93 = .ok (.getfield 20, 3) := by decide +kernel
theorem dX8_init_96 : decode cX8_init 96 = .ok (.iload_n 1, 1) := by decide +kernel
theorem dX8_init_97 : decode cX8_init 97 = .ok (.lload_n 3, 1) := by decide +kernel
theorem dX8_init_98 : decode cX8_init 98 = .ok (.lastore, 1) := by decide +kernel
theorem dX8_init_99 : decode cX8_init 99 = .ok (.iinc 1 1, 3) := by decide +kernel
theorem dX8_init_102 : decode cX8_init 102 = .ok (.goto (-56), 3) := by decide +kernel
theorem dX8_init_105 : decode cX8_init 105 = .ok (.return_, 1) := by decide +kernel
theorem dX8_wordText_0 : decode cX8_wordText 0 = .ok (.iload_n 0, 1) := by decide +kernel
theorem dX8_wordText_1 : decode cX8_wordText 1 = .ok (.tableswitch 127 256 271 #[79, 82, 85, 88, 91, 94, 97, 100, 103, 106, 109, 112, 115, 118, 121, 124], 79) := by decide +kernel
theorem dX8_wordText_80 : decode cX8_wordText 80 = .ok (.ldc 45, 2) := by decide +kernel
theorem dX8_wordText_82 : decode cX8_wordText 82 = .ok (.areturn, 1) := by decide +kernel
theorem dX8_wordText_83 : decode cX8_wordText 83 = .ok (.ldc 47, 2) := by decide +kernel
theorem dX8_wordText_85 : decode cX8_wordText 85 = .ok (.areturn, 1) := by decide +kernel
theorem dX8_wordText_86 : decode cX8_wordText 86 = .ok (.ldc 49, 2) := by decide +kernel
theorem dX8_wordText_88 : decode cX8_wordText 88 = .ok (.areturn, 1) := by decide +kernel
theorem dX8_wordText_89 : decode cX8_wordText 89 = .ok (.ldc 51, 2) := by decide +kernel
theorem dX8_wordText_91 : decode cX8_wordText 91 = .ok (.areturn, 1) := by decide +kernel
theorem dX8_wordText_92 : decode cX8_wordText 92 = .ok (.ldc 53, 2) := by decide +kernel
theorem dX8_wordText_94 : decode cX8_wordText 94 = .ok (.areturn, 1) := by decide +kernel
theorem dX8_wordText_95 : decode cX8_wordText 95 = .ok (.ldc 55, 2) := by decide +kernel
theorem dX8_wordText_97 : decode cX8_wordText 97 = .ok (.areturn, 1) := by decide +kernel
theorem dX8_wordText_98 : decode cX8_wordText 98 = .ok (.ldc 57, 2) := by decide +kernel
theorem dX8_wordText_100 : decode cX8_wordText 100 = .ok (.areturn, 1) := by decide +kernel
theorem dX8_wordText_101 : decode cX8_wordText 101 = .ok (.ldc 59, 2) := by decide +kernel
theorem dX8_wordText_103 : decode cX8_wordText 103 = .ok (.areturn, 1) := by decide +kernel
theorem dX8_wordText_104 : decode cX8_wordText 104 = .ok (.ldc 61, 2) := by decide +kernel
theorem dX8_wordText_106 : decode cX8_wordText 106 = .ok (.areturn, 1) := by decide +kernel
theorem dX8_wordText_107 : decode cX8_wordText 107 = .ok (.ldc 63, 2) := by decide +kernel
theorem dX8_wordText_109 : decode cX8_wordText 109 = .ok (.areturn, 1) := by decide +kernel
theorem dX8_wordText_110 : decode cX8_wordText 110 = .ok (.ldc 65, 2) := by decide +kernel
theorem dX8_wordText_112 : decode cX8_wordText 112 = .ok (.areturn, 1) := by decide +kernel
theorem dX8_wordText_113 : decode cX8_wordText 113 = .ok (.ldc 67, 2) := by decide +kernel
theorem dX8_wordText_115 : decode cX8_wordText 115 = .ok (.areturn, 1) := by decide +kernel
theorem dX8_wordText_116 : decode cX8_wordText 116 = .ok (.ldc 69, 2) := by decide +kernel
theorem dX8_wordText_118 : decode cX8_wordText 118 = .ok (.areturn, 1) := by decide +kernel
theorem dX8_wordText_119 : decode cX8_wordText 119 = .ok (.ldc 71, 2) := by decide +kernel
theorem dX8_wordText_121 : decode cX8_wordText 121 = .ok (.areturn, 1) := by decide +kernel
theorem dX8_wordText_122 : decode cX8_wordText 122 = .ok (.ldc 72, 2) := by decide +kernel
theorem dX8_wordText_124 : decode cX8_wordText 124 = .ok (.areturn, 1) := by decide +kernel
theorem dX8_wordText_125 : decode cX8_wordText 125 = .ok (.ldc 74, 2) := by decide +kernel
theorem dX8_wordText_127 : decode cX8_wordText 127 = .ok (.areturn, 1) := by decide +kernel
theorem dX8_wordText_128 : decode cX8_wordText 128 = .ok (.ldc 76, 2) := by decide +kernel
theorem dX8_wordText_130 : decode cX8_wordText 130 = .ok (.areturn, 1) := by decide +kernel
theorem dX8_withLetter_0 : decode cX8_withLetter 0 = .ok (.lload_n 0, 1) := by decide +kernel
theorem dX8_withLetter_1 : decode cX8_withLetter 1 = .ok (.ldc2_w 78, 3) := by decide +kernel
theorem dX8_withLetter_4 : decode cX8_withLetter 4 = .ok (.lmul, 1) := by decide +kernel
theorem dX8_withLetter_5 : decode cX8_withLetter 5 = .ok (.iload_n 2, 1) := by decide +kernel
theorem dX8_withLetter_6 : decode cX8_withLetter 6 = .ok (.bipush 97, 2) := by decide +kernel
theorem dX8_withLetter_8 : decode cX8_withLetter 8 = .ok (.isub, 1) := by decide +kernel
theorem dX8_withLetter_9 : decode cX8_withLetter 9 = .ok (.iconst 1, 1) := by decide +kernel
theorem dX8_withLetter_10 : decode cX8_withLetter 10 = .ok (.iadd, 1) := by decide +kernel
theorem dX8_withLetter_11 : decode cX8_withLetter 11 = .ok (.i2l, 1) := by decide +kernel
theorem dX8_withLetter_12 : decode cX8_withLetter 12 = .ok (.ladd, 1) := by decide +kernel
theorem dX8_withLetter_13 : decode cX8_withLetter 13 = .ok (.lreturn, 1) := by decide +kernel
theorem dX8_cut_0 : decode cX8_cut 0 = .ok (.aload_n 0, 1) := by decide +kernel
theorem dX8_cut_1 : decode cX8_cut 1 = .ok (.iconst 0, 1) := by decide +kernel
theorem dX8_cut_2 : decode cX8_cut 2 = .ok (.putfield 23, 3) := by decide +kernel
theorem dX8_cut_5 : decode cX8_cut 5 = .ok (.iconst 0, 1) := by decide +kernel
theorem dX8_cut_6 : decode cX8_cut 6 = .ok (.istore_n 3, 1) := by decide +kernel
theorem dX8_cut_7 : decode cX8_cut 7 = .ok (.iconst 0, 1) := by decide +kernel
theorem dX8_cut_8 : decode cX8_cut 8 = .ok (.istore 4, 2) := by decide +kernel
theorem dX8_cut_10 : decode cX8_cut 10 = .ok (.iload 4, 2) := by decide +kernel
theorem dX8_cut_12 : decode cX8_cut 12 = .ok (.iload_n 2, 1) := by decide +kernel
theorem dX8_cut_13 : decode cX8_cut 13 = .ok (.if_icmp .ge 48, 3) := by decide +kernel
theorem dX8_cut_16 : decode cX8_cut 16 = .ok (.aload_n 0, 1) := by decide +kernel
theorem dX8_cut_17 : decode cX8_cut 17 = .ok (.getfield 23, 3) := by decide +kernel
theorem dX8_cut_20 : decode cX8_cut 20 = .ok (.sipush 401, 3) := by decide +kernel
theorem dX8_cut_23 : decode cX8_cut 23 = .ok (.if_icmp .ge 38, 3) := by decide +kernel
theorem dX8_cut_26 : decode cX8_cut 26 = .ok (.aload_n 1, 1) := by decide +kernel
theorem dX8_cut_27 : decode cX8_cut 27 = .ok (.iload 4, 2) := by decide +kernel
theorem dX8_cut_29 : decode cX8_cut 29 = .ok (.baload, 1) := by decide +kernel
theorem dX8_cut_30 : decode cX8_cut 30 = .ok (.istore 5, 2) := by decide +kernel
theorem dX8_cut_32 : decode cX8_cut 32 = .ok (.iload 4, 2) := by decide +kernel
theorem dX8_cut_34 : decode cX8_cut 34 = .ok (.iload_n 3, 1) := by decide +kernel
theorem dX8_cut_35 : decode cX8_cut 35 = .ok (.if_icmp .lt 20, 3) := by decide +kernel
theorem dX8_cut_38 : decode cX8_cut 38 = .ok (.iload 5, 2) := by decide +kernel
theorem dX8_cut_40 : decode cX8_cut 40 = .ok (.invokestatic 80, 3) := by decide +kernel
theorem dX8_cut_43 : decode cX8_cut 43 = .ok (.ifCond .ne 12, 3) := by decide +kernel
theorem dX8_cut_46 : decode cX8_cut 46 = .ok (.aload_n 0, 1) := by decide +kernel
theorem dX8_cut_47 : decode cX8_cut 47 = .ok (.aload_n 1, 1) := by decide +kernel
theorem dX8_cut_48 : decode cX8_cut 48 = .ok (.iload_n 2, 1) := by decide +kernel
theorem dX8_cut_49 : decode cX8_cut 49 = .ok (.iload 4, 2) := by decide +kernel
theorem dX8_cut_51 : decode cX8_cut 51 = .ok (.invokevirtual 84, 3) := by decide +kernel
theorem dX8_cut_54 : decode cX8_cut 54 = .ok (.istore_n 3, 1) := by decide +kernel
theorem dX8_cut_55 : decode cX8_cut 55 = .ok (.iinc 4 1, 3) := by decide +kernel
theorem dX8_cut_58 : decode cX8_cut 58 = .ok (.goto (-48), 3) := by decide +kernel
theorem dX8_cut_61 : decode cX8_cut 61 = .ok (.aload_n 0, 1) := by decide +kernel
theorem dX8_cut_62 : decode cX8_cut 62 = .ok (.getfield 9, 3) := by decide +kernel
theorem dX8_cut_65 : decode cX8_cut 65 = .ok (.aload_n 0, 1) := by decide +kernel
theorem dX8_cut_66 : decode cX8_cut 66 = .ok (.getfield 23, 3) := by decide +kernel
theorem dX8_cut_69 : decode cX8_cut 69 = .ok (.iconst 0, 1) := by decide +kernel
theorem dX8_cut_70 : decode cX8_cut 70 = .ok (.iastore, 1) := by decide +kernel
theorem dX8_cut_71 : decode cX8_cut 71 = .ok (.aload_n 0, 1) := by decide +kernel
theorem dX8_cut_72 : decode cX8_cut 72 = .ok (.getfield 13, 3) := by decide +kernel
theorem dX8_cut_75 : decode cX8_cut 75 = .ok (.aload_n 0, 1) := by decide +kernel
theorem dX8_cut_76 : decode cX8_cut 76 = .ok (.getfield 23, 3) := by decide +kernel
theorem dX8_cut_79 : decode cX8_cut 79 = .ok (.iload_n 2, 1) := by decide +kernel
theorem dX8_cut_80 : decode cX8_cut 80 = .ok (.iastore, 1) := by decide +kernel
theorem dX8_cut_81 : decode cX8_cut 81 = .ok (.return_, 1) := by decide +kernel
theorem dX8_cutOne_0 : decode cX8_cutOne 0 = .ok (.aload_n 1, 1) := by decide +kernel
theorem dX8_cutOne_1 : decode cX8_cutOne 1 = .ok (.iload_n 3, 1) := by decide +kernel
theorem dX8_cutOne_2 : decode cX8_cutOne 2 = .ok (.baload, 1) := by decide +kernel
theorem dX8_cutOne_3 : decode cX8_cutOne 3 = .ok (.istore 4, 2) := by decide +kernel
theorem dX8_cutOne_5 : decode cX8_cutOne 5 = .ok (.iload 4, 2) := by decide +kernel
theorem dX8_cutOne_7 : decode cX8_cutOne 7 = .ok (.invokestatic 88, 3) := by decide +kernel
theorem dX8_cutOne_10 : decode cX8_cutOne 10 = .ok (.ifCond .eq 11, 3) := by decide +kernel
theorem dX8_cutOne_13 : decode cX8_cutOne 13 = .ok (.aload_n 0, 1) := by decide +kernel
theorem dX8_cutOne_14 : decode cX8_cutOne 14 = .ok (.aload_n 1, 1) := by decide +kernel
theorem dX8_cutOne_15 : decode cX8_cutOne 15 = .ok (.iload_n 2, 1) := by decide +kernel
theorem dX8_cutOne_16 : decode cX8_cutOne 16 = .ok (.iload_n 3, 1) := by decide +kernel
theorem dX8_cutOne_17 : decode cX8_cutOne 17 = .ok (.invokevirtual 91, 3) := by decide +kernel
theorem dX8_cutOne_20 : decode cX8_cutOne 20 = .ok (.ireturn, 1) := by decide +kernel
theorem dX8_cutOne_21 : decode cX8_cutOne 21 = .ok (.iload 4, 2) := by decide +kernel
theorem dX8_cutOne_23 : decode cX8_cutOne 23 = .ok (.invokestatic 94, 3) := by decide +kernel
theorem dX8_cutOne_26 : decode cX8_cutOne 26 = .ok (.ifCond .eq 11, 3) := by decide +kernel
theorem dX8_cutOne_29 : decode cX8_cutOne 29 = .ok (.aload_n 0, 1) := by decide +kernel
theorem dX8_cutOne_30 : decode cX8_cutOne 30 = .ok (.aload_n 1, 1) := by decide +kernel
theorem dX8_cutOne_31 : decode cX8_cutOne 31 = .ok (.iload_n 2, 1) := by decide +kernel
theorem dX8_cutOne_32 : decode cX8_cutOne 32 = .ok (.iload_n 3, 1) := by decide +kernel
theorem dX8_cutOne_33 : decode cX8_cutOne 33 = .ok (.invokevirtual 97, 3) := by decide +kernel
theorem dX8_cutOne_36 : decode cX8_cutOne 36 = .ok (.ireturn, 1) := by decide +kernel
theorem dX8_cutOne_37 : decode cX8_cutOne 37 = .ok (.aload_n 0, 1) := by decide +kernel
theorem dX8_cutOne_38 : decode cX8_cutOne 38 = .ok (.iload 4, 2) := by decide +kernel
theorem dX8_cutOne_40 : decode cX8_cutOne 40 = .ok (.invokestatic 100, 3) := by decide +kernel
theorem dX8_cutOne_43 : decode cX8_cutOne 43 = .ok (.ifCond .eq 8, 3) := by decide +kernel
theorem dX8_cutOne_46 : decode cX8_cutOne 46 = .ok (.iload 4, 2) := by decide +kernel
theorem dX8_cutOne_48 : decode cX8_cutOne 48 = .ok (.goto 4, 3) := by decide +kernel
theorem dX8_cutOne_51 : decode cX8_cutOne 51 = .ok (.iconst 1, 1) := by decide +kernel
theorem dX8_cutOne_52 : decode cX8_cutOne 52 = .ok (.iload_n 3, 1) := by decide +kernel
theorem dX8_cutOne_53 : decode cX8_cutOne 53 = .ok (.lconst 0, 1) := by decide +kernel
theorem dX8_cutOne_54 : decode cX8_cutOne 54 = .ok (.invokevirtual 103, 3) := by decide +kernel
theorem dX8_cutOne_57 : decode cX8_cutOne 57 = .ok (.iload_n 3, 1) := by decide +kernel
theorem dX8_cutOne_58 : decode cX8_cutOne 58 = .ok (.iconst 1, 1) := by decide +kernel
theorem dX8_cutOne_59 : decode cX8_cutOne 59 = .ok (.iadd, 1) := by decide +kernel
theorem dX8_cutOne_60 : decode cX8_cutOne 60 = .ok (.ireturn, 1) := by decide +kernel
theorem dX8_isBlank_0 : decode cX8_isBlank 0 = .ok (.iload_n 0, 1) := by decide +kernel
theorem dX8_isBlank_1 : decode cX8_isBlank 1 = .ok (.bipush 9, 2) := by decide +kernel
theorem dX8_isBlank_3 : decode cX8_isBlank 3 = .ok (.if_icmp .eq 21, 3) := by decide +kernel
theorem dX8_isBlank_6 : decode cX8_isBlank 6 = .ok (.iload_n 0, 1) := by decide +kernel
theorem dX8_isBlank_7 : decode cX8_isBlank 7 = .ok (.bipush 10, 2) := by decide +kernel
theorem dX8_isBlank_9 : decode cX8_isBlank 9 = .ok (.if_icmp .eq 15, 3) := by decide +kernel
theorem dX8_isBlank_12 : decode cX8_isBlank 12 = .ok (.iload_n 0, 1) := by decide +kernel
theorem dX8_isBlank_13 : decode cX8_isBlank 13 = .ok (.bipush 13, 2) := by decide +kernel
theorem dX8_isBlank_15 : decode cX8_isBlank 15 = .ok (.if_icmp .eq 9, 3) := by decide +kernel
theorem dX8_isBlank_18 : decode cX8_isBlank 18 = .ok (.iload_n 0, 1) := by decide +kernel
theorem dX8_isBlank_19 : decode cX8_isBlank 19 = .ok (.bipush 32, 2) := by decide +kernel
theorem dX8_isBlank_21 : decode cX8_isBlank 21 = .ok (.if_icmp .ne 7, 3) := by decide +kernel
theorem dX8_isBlank_24 : decode cX8_isBlank 24 = .ok (.iconst 1, 1) := by decide +kernel
theorem dX8_isBlank_25 : decode cX8_isBlank 25 = .ok (.goto 4, 3) := by decide +kernel
theorem dX8_isBlank_28 : decode cX8_isBlank 28 = .ok (.iconst 0, 1) := by decide +kernel
theorem dX8_isBlank_29 : decode cX8_isBlank 29 = .ok (.ireturn, 1) := by decide +kernel
theorem dX8_isLetter_0 : decode cX8_isLetter 0 = .ok (.iload_n 0, 1) := by decide +kernel
theorem dX8_isLetter_1 : decode cX8_isLetter 1 = .ok (.bipush 97, 2) := by decide +kernel
theorem dX8_isLetter_3 : decode cX8_isLetter 3 = .ok (.if_icmp .lt 13, 3) := by decide +kernel
theorem dX8_isLetter_6 : decode cX8_isLetter 6 = .ok (.iload_n 0, 1) := by decide +kernel
theorem dX8_isLetter_7 : decode cX8_isLetter 7 = .ok (.bipush 122, 2) := by decide +kernel
theorem dX8_isLetter_9 : decode cX8_isLetter 9 = .ok (.if_icmp .gt 7, 3) := by decide +kernel
theorem dX8_isLetter_12 : decode cX8_isLetter 12 = .ok (.iconst 1, 1) := by decide +kernel
theorem dX8_isLetter_13 : decode cX8_isLetter 13 = .ok (.goto 4, 3) := by decide +kernel
theorem dX8_isLetter_16 : decode cX8_isLetter 16 = .ok (.iconst 0, 1) := by decide +kernel
theorem dX8_isLetter_17 : decode cX8_isLetter 17 = .ok (.ireturn, 1) := by decide +kernel
theorem dX8_isDigit_0 : decode cX8_isDigit 0 = .ok (.iload_n 0, 1) := by decide +kernel
theorem dX8_isDigit_1 : decode cX8_isDigit 1 = .ok (.bipush 48, 2) := by decide +kernel
theorem dX8_isDigit_3 : decode cX8_isDigit 3 = .ok (.if_icmp .lt 13, 3) := by decide +kernel
theorem dX8_isDigit_6 : decode cX8_isDigit 6 = .ok (.iload_n 0, 1) := by decide +kernel
theorem dX8_isDigit_7 : decode cX8_isDigit 7 = .ok (.bipush 57, 2) := by decide +kernel
theorem dX8_isDigit_9 : decode cX8_isDigit 9 = .ok (.if_icmp .gt 7, 3) := by decide +kernel
theorem dX8_isDigit_12 : decode cX8_isDigit 12 = .ok (.iconst 1, 1) := by decide +kernel
theorem dX8_isDigit_13 : decode cX8_isDigit 13 = .ok (.goto 4, 3) := by decide +kernel
theorem dX8_isDigit_16 : decode cX8_isDigit 16 = .ok (.iconst 0, 1) := by decide +kernel
theorem dX8_isDigit_17 : decode cX8_isDigit 17 = .ok (.ireturn, 1) := by decide +kernel
theorem dX8_isSign_0 : decode cX8_isSign 0 = .ok (.iload_n 0, 1) := by decide +kernel
theorem dX8_isSign_1 : decode cX8_isSign 1 = .ok (.tableswitch 105 40 61 #[103, 103, 103, 103, 105, 103, 105, 103, 105, 105, 105, 105, 105, 105, 105, 105, 105, 105, 105, 103, 103, 103], 103) := by decide +kernel
theorem dX8_isSign_104 : decode cX8_isSign 104 = .ok (.iconst 1, 1) := by decide +kernel
theorem dX8_isSign_105 : decode cX8_isSign 105 = .ok (.ireturn, 1) := by decide +kernel
theorem dX8_isSign_106 : decode cX8_isSign 106 = .ok (.iconst 0, 1) := by decide +kernel
theorem dX8_isSign_107 : decode cX8_isSign 107 = .ok (.ireturn, 1) := by decide +kernel
theorem dX8_add_0 : decode cX8_add 0 = .ok (.aload_n 0, 1) := by decide +kernel
theorem dX8_add_1 : decode cX8_add 1 = .ok (.getfield 23, 3) := by decide +kernel
theorem dX8_add_4 : decode cX8_add 4 = .ok (.sipush 401, 3) := by decide +kernel
theorem dX8_add_7 : decode cX8_add 7 = .ok (.if_icmp .ge 43, 3) := by decide +kernel
theorem dX8_add_10 : decode cX8_add 10 = .ok (.aload_n 0, 1) := by decide +kernel
theorem dX8_add_11 : decode cX8_add 11 = .ok (.getfield 9, 3) := by decide +kernel
theorem dX8_add_14 : decode cX8_add 14 = .ok (.aload_n 0, 1) := by decide +kernel
theorem dX8_add_15 : decode cX8_add 15 = .ok (.getfield 23, 3) := by decide +kernel
theorem dX8_add_18 : decode cX8_add 18 = .ok (.iload_n 1, 1) := by decide +kernel
theorem dX8_add_19 : decode cX8_add 19 = .ok (.iastore, 1) := by decide +kernel
theorem dX8_add_20 : decode cX8_add 20 = .ok (.aload_n 0, 1) := by decide +kernel
theorem dX8_add_21 : decode cX8_add 21 = .ok (.getfield 13, 3) := by decide +kernel
theorem dX8_add_24 : decode cX8_add 24 = .ok (.aload_n 0, 1) := by decide +kernel
theorem dX8_add_25 : decode cX8_add 25 = .ok (.getfield 23, 3) := by decide +kernel
theorem dX8_add_28 : decode cX8_add 28 = .ok (.iload_n 2, 1) := by decide +kernel
theorem dX8_add_29 : decode cX8_add 29 = .ok (.iastore, 1) := by decide +kernel
theorem dX8_add_30 : decode cX8_add 30 = .ok (.aload_n 0, 1) := by decide +kernel
theorem dX8_add_31 : decode cX8_add 31 = .ok (.getfield 16, 3) := by decide +kernel
theorem dX8_add_34 : decode cX8_add 34 = .ok (.aload_n 0, 1) := by decide +kernel
theorem dX8_add_35 : decode cX8_add 35 = .ok (.getfield 23, 3) := by decide +kernel
theorem dX8_add_38 : decode cX8_add 38 = .ok (.lload_n 3, 1) := by decide +kernel
theorem dX8_add_39 : decode cX8_add 39 = .ok (.lastore, 1) := by decide +kernel
theorem dX8_add_40 : decode cX8_add 40 = .ok (.aload_n 0, 1) := by decide +kernel
theorem dX8_add_41 : decode cX8_add 41 = .ok (.dup, 1) := by decide +kernel
theorem dX8_add_42 : decode cX8_add 42 = .ok (.getfield 23, 3) := by decide +kernel
theorem dX8_add_45 : decode cX8_add 45 = .ok (.iconst 1, 1) := by decide +kernel
theorem dX8_add_46 : decode cX8_add 46 = .ok (.iadd, 1) := by decide +kernel
theorem dX8_add_47 : decode cX8_add 47 = .ok (.putfield 23, 3) := by decide +kernel
theorem dX8_add_50 : decode cX8_add 50 = .ok (.return_, 1) := by decide +kernel
theorem dX8_cutName_0 : decode cX8_cutName 0 = .ok (.iload_n 3, 1) := by decide +kernel
theorem dX8_cutName_1 : decode cX8_cutName 1 = .ok (.istore 4, 2) := by decide +kernel
theorem dX8_cutName_3 : decode cX8_cutName 3 = .ok (.lconst 0, 1) := by decide +kernel
theorem dX8_cutName_4 : decode cX8_cutName 4 = .ok (.lstore 5, 2) := by decide +kernel
theorem dX8_cutName_6 : decode cX8_cutName 6 = .ok (.iload 4, 2) := by decide +kernel
theorem dX8_cutName_8 : decode cX8_cutName 8 = .ok (.iload_n 2, 1) := by decide +kernel
theorem dX8_cutName_9 : decode cX8_cutName 9 = .ok (.if_icmp .ge 30, 3) := by decide +kernel
theorem dX8_cutName_12 : decode cX8_cutName 12 = .ok (.aload_n 1, 1) := by decide +kernel
theorem dX8_cutName_13 : decode cX8_cutName 13 = .ok (.iload 4, 2) := by decide +kernel
theorem dX8_cutName_15 : decode cX8_cutName 15 = .ok (.baload, 1) := by decide +kernel
theorem dX8_cutName_16 : decode cX8_cutName 16 = .ok (.invokestatic 88, 3) := by decide +kernel
theorem dX8_cutName_19 : decode cX8_cutName 19 = .ok (.ifCond .eq 20, 3) := by decide +kernel
theorem dX8_cutName_22 : decode cX8_cutName 22 = .ok (.lload 5, 2) := by decide +kernel
theorem dX8_cutName_24 : decode cX8_cutName 24 = .ok (.aload_n 1, 1) := by decide +kernel
theorem dX8_cutName_25 : decode cX8_cutName 25 = .ok (.iload 4, 2) := by decide +kernel
theorem dX8_cutName_27 : decode cX8_cutName 27 = .ok (.baload, 1) := by decide +kernel
theorem dX8_cutName_28 : decode cX8_cutName 28 = .ok (.invokestatic 41, 3) := by decide +kernel
theorem dX8_cutName_31 : decode cX8_cutName 31 = .ok (.lstore 5, 2) := by decide +kernel
theorem dX8_cutName_33 : decode cX8_cutName 33 = .ok (.iinc 4 1, 3) := by decide +kernel
theorem dX8_cutName_36 : decode cX8_cutName 36 = .ok (.goto (-30), 3) := by decide +kernel
theorem dX8_cutName_39 : decode cX8_cutName 39 = .ok (.aload_n 0, 1) := by decide +kernel
theorem dX8_cutName_40 : decode cX8_cutName 40 = .ok (.iload 4, 2) := by decide +kernel
theorem dX8_cutName_42 : decode cX8_cutName 42 = .ok (.iload_n 3, 1) := by decide +kernel
theorem dX8_cutName_43 : decode cX8_cutName 43 = .ok (.isub, 1) := by decide +kernel
theorem dX8_cutName_44 : decode cX8_cutName 44 = .ok (.bipush 8, 2) := by decide +kernel
theorem dX8_cutName_46 : decode cX8_cutName 46 = .ok (.if_icmp .le 7, 3) := by decide +kernel
theorem dX8_cutName_49 : decode cX8_cutName 49 = .ok (.iconst 1, 1) := by decide +kernel
theorem dX8_cutName_50 : decode cX8_cutName 50 = .ok (.goto 9, 3) := by decide +kernel
theorem dX8_cutName_53 : decode cX8_cutName 53 = .ok (.aload_n 0, 1) := by decide +kernel
theorem dX8_cutName_54 : decode cX8_cutName 54 = .ok (.lload 5, 2) := by decide +kernel
theorem dX8_cutName_56 : decode cX8_cutName 56 = .ok (.invokevirtual 107, 3) := by decide +kernel
theorem dX8_cutName_59 : decode cX8_cutName 59 = .ok (.iload_n 3, 1) := by decide +kernel
theorem dX8_cutName_60 : decode cX8_cutName 60 = .ok (.lload 5, 2) := by decide +kernel
theorem dX8_cutName_62 : decode cX8_cutName 62 = .ok (.invokevirtual 103, 3) := by decide +kernel
theorem dX8_cutName_65 : decode cX8_cutName 65 = .ok (.iload 4, 2) := by decide +kernel
theorem dX8_cutName_67 : decode cX8_cutName 67 = .ok (.ireturn, 1) := by decide +kernel
theorem dX8_kindOf_0 : decode cX8_kindOf 0 = .ok (.iconst 0, 1) := by decide +kernel
theorem dX8_kindOf_1 : decode cX8_kindOf 1 = .ok (.istore_n 3, 1) := by decide +kernel
theorem dX8_kindOf_2 : decode cX8_kindOf 2 = .ok (.iload_n 3, 1) := by decide +kernel
theorem dX8_kindOf_3 : decode cX8_kindOf 3 = .ok (.bipush 17, 2) := by decide +kernel
theorem dX8_kindOf_5 : decode cX8_kindOf 5 = .ok (.if_icmp .ge 26, 3) := by decide +kernel
theorem dX8_kindOf_8 : decode cX8_kindOf 8 = .ok (.aload_n 0, 1) := by decide +kernel
theorem dX8_kindOf_9 : decode cX8_kindOf 9 = .ok (.getfield 20, 3) := by decide +kernel
theorem dX8_kindOf_12 : decode cX8_kindOf 12 = .ok (.iload_n 3, 1) := by decide +kernel
theorem dX8_kindOf_13 : decode cX8_kindOf 13 = .ok (.laload, 1) := by decide +kernel
theorem dX8_kindOf_14 : decode cX8_kindOf 14 = .ok (.lload_n 1, 1) := by decide +kernel
theorem dX8_kindOf_15 : decode cX8_kindOf 15 = .ok (.lcmp, 1) := by decide +kernel
theorem dX8_kindOf_16 : decode cX8_kindOf 16 = .ok (.ifCond .ne 9, 3) := by decide +kernel
theorem dX8_kindOf_19 : decode cX8_kindOf 19 = .ok (.sipush 256, 3) := by decide +kernel
theorem dX8_kindOf_22 : decode cX8_kindOf 22 = .ok (.iload_n 3, 1) := by decide +kernel
theorem dX8_kindOf_23 : decode cX8_kindOf 23 = .ok (.iadd, 1) := by decide +kernel
theorem dX8_kindOf_24 : decode cX8_kindOf 24 = .ok (.ireturn, 1) := by decide +kernel
theorem dX8_kindOf_25 : decode cX8_kindOf 25 = .ok (.iinc 3 1, 3) := by decide +kernel
theorem dX8_kindOf_28 : decode cX8_kindOf 28 = .ok (.goto (-26), 3) := by decide +kernel
theorem dX8_kindOf_31 : decode cX8_kindOf 31 = .ok (.iconst 2, 1) := by decide +kernel
theorem dX8_kindOf_32 : decode cX8_kindOf 32 = .ok (.ireturn, 1) := by decide +kernel
theorem dX8_cutInt_0 : decode cX8_cutInt 0 = .ok (.iload_n 3, 1) := by decide +kernel
theorem dX8_cutInt_1 : decode cX8_cutInt 1 = .ok (.istore 4, 2) := by decide +kernel
theorem dX8_cutInt_3 : decode cX8_cutInt 3 = .ok (.iconst 0, 1) := by decide +kernel
theorem dX8_cutInt_4 : decode cX8_cutInt 4 = .ok (.istore 5, 2) := by decide +kernel
theorem dX8_cutInt_6 : decode cX8_cutInt 6 = .ok (.iload 4, 2) := by decide +kernel
theorem dX8_cutInt_8 : decode cX8_cutInt 8 = .ok (.iload_n 2, 1) := by decide +kernel
theorem dX8_cutInt_9 : decode cX8_cutInt 9 = .ok (.if_icmp .ge 34, 3) := by decide +kernel
theorem dX8_cutInt_12 : decode cX8_cutInt 12 = .ok (.aload_n 1, 1) := by decide +kernel
theorem dX8_cutInt_13 : decode cX8_cutInt 13 = .ok (.iload 4, 2) := by decide +kernel
theorem dX8_cutInt_15 : decode cX8_cutInt 15 = .ok (.baload, 1) := by decide +kernel
theorem dX8_cutInt_16 : decode cX8_cutInt 16 = .ok (.invokestatic 94, 3) := by decide +kernel
theorem dX8_cutInt_19 : decode cX8_cutInt 19 = .ok (.ifCond .eq 24, 3) := by decide +kernel
theorem dX8_cutInt_22 : decode cX8_cutInt 22 = .ok (.iload 5, 2) := by decide +kernel
theorem dX8_cutInt_24 : decode cX8_cutInt 24 = .ok (.bipush 10, 2) := by decide +kernel
theorem dX8_cutInt_26 : decode cX8_cutInt 26 = .ok (.imul, 1) := by decide +kernel
theorem dX8_cutInt_27 : decode cX8_cutInt 27 = .ok (.aload_n 1, 1) := by decide +kernel
theorem dX8_cutInt_28 : decode cX8_cutInt 28 = .ok (.iload 4, 2) := by decide +kernel
theorem dX8_cutInt_30 : decode cX8_cutInt 30 = .ok (.baload, 1) := by decide +kernel
theorem dX8_cutInt_31 : decode cX8_cutInt 31 = .ok (.bipush 48, 2) := by decide +kernel
theorem dX8_cutInt_33 : decode cX8_cutInt 33 = .ok (.isub, 1) := by decide +kernel
theorem dX8_cutInt_34 : decode cX8_cutInt 34 = .ok (.iadd, 1) := by decide +kernel
theorem dX8_cutInt_35 : decode cX8_cutInt 35 = .ok (.istore 5, 2) := by decide +kernel
theorem dX8_cutInt_37 : decode cX8_cutInt 37 = .ok (.iinc 4 1, 3) := by decide +kernel
theorem dX8_cutInt_40 : decode cX8_cutInt 40 = .ok (.goto (-34), 3) := by decide +kernel
theorem dX8_cutInt_43 : decode cX8_cutInt 43 = .ok (.aload_n 0, 1) := by decide +kernel
theorem dX8_cutInt_44 : decode cX8_cutInt 44 = .ok (.iload 4, 2) := by decide +kernel
theorem dX8_cutInt_46 : decode cX8_cutInt 46 = .ok (.iload_n 3, 1) := by decide +kernel
theorem dX8_cutInt_47 : decode cX8_cutInt 47 = .ok (.isub, 1) := by decide +kernel
theorem dX8_cutInt_48 : decode cX8_cutInt 48 = .ok (.iconst 4, 1) := by decide +kernel
theorem dX8_cutInt_49 : decode cX8_cutInt 49 = .ok (.if_icmp .le 7, 3) := by decide +kernel
theorem dX8_cutInt_52 : decode cX8_cutInt 52 = .ok (.iconst 1, 1) := by decide +kernel
theorem dX8_cutInt_53 : decode cX8_cutInt 53 = .ok (.goto 4, 3) := by decide +kernel
theorem dX8_cutInt_56 : decode cX8_cutInt 56 = .ok (.iconst 3, 1) := by decide +kernel
theorem dX8_cutInt_57 : decode cX8_cutInt 57 = .ok (.iload_n 3, 1) := by decide +kernel
theorem dX8_cutInt_58 : decode cX8_cutInt 58 = .ok (.iload 5, 2) := by decide +kernel
theorem dX8_cutInt_60 : decode cX8_cutInt 60 = .ok (.i2l, 1) := by decide +kernel
theorem dX8_cutInt_61 : decode cX8_cutInt 61 = .ok (.invokevirtual 103, 3) := by decide +kernel
theorem dX8_cutInt_64 : decode cX8_cutInt 64 = .ok (.iload 4, 2) := by decide +kernel
theorem dX8_cutInt_66 : decode cX8_cutInt 66 = .ok (.ireturn, 1) := by decide +kernel
theorem dX9_init_0 : decode cX9_init 0 = .ok (.aload_n 0, 1) := by decide +kernel
theorem dX9_init_1 : decode cX9_init 1 = .ok (.invokespecial 1, 3) := by decide +kernel
theorem dX9_init_4 : decode cX9_init 4 = .ok (.aload_n 0, 1) := by decide +kernel
theorem dX9_init_5 : decode cX9_init 5 = .ok (.iconst 0, 1) := by decide +kernel
theorem dX9_init_6 : decode cX9_init 6 = .ok (.putfield 7, 3) := by decide +kernel
theorem dX9_init_9 : decode cX9_init 9 = .ok (.aload_n 0, 1) := by decide +kernel
theorem dX9_init_10 : decode cX9_init 10 = .ok (.bipush 20, 2) := by decide +kernel
theorem dX9_init_12 : decode cX9_init 12 = .ok (.newarray .int, 2) := by decide +kernel
theorem dX9_init_14 : decode cX9_init 14 = .ok (.putfield 13, 3) := by decide +kernel
theorem dX9_init_17 : decode cX9_init 17 = .ok (.aload_n 0, 1) := by decide +kernel
theorem dX9_init_18 : decode cX9_init 18 = .ok (.bipush 20, 2) := by decide +kernel
theorem dX9_init_20 : decode cX9_init 20 = .ok (.newarray .long, 2) := by decide +kernel
theorem dX9_init_22 : decode cX9_init 22 = .ok (.putfield 17, 3) := by decide +kernel
theorem dX9_init_25 : decode cX9_init 25 = .ok (.aload_n 0, 1) := by decide +kernel
theorem dX9_init_26 : decode cX9_init 26 = .ok (.iconst 0, 1) := by decide +kernel
theorem dX9_init_27 : decode cX9_init 27 = .ok (.putfield 21, 3) := by decide +kernel
theorem dX9_init_30 : decode cX9_init 30 = .ok (.return_, 1) := by decide +kernel
theorem dX9_clear_0 : decode cX9_clear 0 = .ok (.aload_n 0, 1) := by decide +kernel
theorem dX9_clear_1 : decode cX9_clear 1 = .ok (.iconst 0, 1) := by decide +kernel
theorem dX9_clear_2 : decode cX9_clear 2 = .ok (.putfield 7, 3) := by decide +kernel
theorem dX9_clear_5 : decode cX9_clear 5 = .ok (.return_, 1) := by decide +kernel
theorem dX9_isFull_0 : decode cX9_isFull 0 = .ok (.aload_n 0, 1) := by decide +kernel
theorem dX9_isFull_1 : decode cX9_isFull 1 = .ok (.getfield 7, 3) := by decide +kernel
theorem dX9_isFull_4 : decode cX9_isFull 4 = .ok (.bipush 20, 2) := by decide +kernel
theorem dX9_isFull_6 : decode cX9_isFull 6 = .ok (.if_icmp .lt 7, 3) := by decide +kernel
theorem dX9_isFull_9 : decode cX9_isFull 9 = .ok (.iconst 1, 1) := by decide +kernel
theorem dX9_isFull_10 : decode cX9_isFull 10 = .ok (.goto 4, 3) := by decide +kernel
theorem dX9_isFull_13 : decode cX9_isFull 13 = .ok (.iconst 0, 1) := by decide +kernel
theorem dX9_isFull_14 : decode cX9_isFull 14 = .ok (.ireturn, 1) := by decide +kernel
theorem dX9_add_0 : decode cX9_add 0 = .ok (.aload_n 0, 1) := by decide +kernel
theorem dX9_add_1 : decode cX9_add 1 = .ok (.getfield 7, 3) := by decide +kernel
theorem dX9_add_4 : decode cX9_add 4 = .ok (.bipush 20, 2) := by decide +kernel
theorem dX9_add_6 : decode cX9_add 6 = .ok (.if_icmp .ge 33, 3) := by decide +kernel
theorem dX9_add_9 : decode cX9_add 9 = .ok (.aload_n 0, 1) := by decide +kernel
theorem dX9_add_10 : decode cX9_add 10 = .ok (.getfield 13, 3) := by decide +kernel
theorem dX9_add_13 : decode cX9_add 13 = .ok (.aload_n 0, 1) := by decide +kernel
theorem dX9_add_14 : decode cX9_add 14 = .ok (.getfield 7, 3) := by decide +kernel
theorem dX9_add_17 : decode cX9_add 17 = .ok (.iload_n 1, 1) := by decide +kernel
theorem dX9_add_18 : decode cX9_add 18 = .ok (.iastore, 1) := by decide +kernel
theorem dX9_add_19 : decode cX9_add 19 = .ok (.aload_n 0, 1) := by decide +kernel
theorem dX9_add_20 : decode cX9_add 20 = .ok (.getfield 17, 3) := by decide +kernel
theorem dX9_add_23 : decode cX9_add 23 = .ok (.aload_n 0, 1) := by decide +kernel
theorem dX9_add_24 : decode cX9_add 24 = .ok (.getfield 7, 3) := by decide +kernel
theorem dX9_add_27 : decode cX9_add 27 = .ok (.lload_n 2, 1) := by decide +kernel
theorem dX9_add_28 : decode cX9_add 28 = .ok (.lastore, 1) := by decide +kernel
theorem dX9_add_29 : decode cX9_add 29 = .ok (.aload_n 0, 1) := by decide +kernel
theorem dX9_add_30 : decode cX9_add 30 = .ok (.dup, 1) := by decide +kernel
theorem dX9_add_31 : decode cX9_add 31 = .ok (.getfield 7, 3) := by decide +kernel
theorem dX9_add_34 : decode cX9_add 34 = .ok (.iconst 1, 1) := by decide +kernel
theorem dX9_add_35 : decode cX9_add 35 = .ok (.iadd, 1) := by decide +kernel
theorem dX9_add_36 : decode cX9_add 36 = .ok (.putfield 7, 3) := by decide +kernel
theorem dX9_add_39 : decode cX9_add 39 = .ok (.return_, 1) := by decide +kernel
theorem dX9_copy_0 : decode cX9_copy 0 = .ok (.aload_n 0, 1) := by decide +kernel
theorem dX9_copy_1 : decode cX9_copy 1 = .ok (.aload_n 1, 1) := by decide +kernel
theorem dX9_copy_2 : decode cX9_copy 2 = .ok (.getfield 7, 3) := by decide +kernel
theorem dX9_copy_5 : decode cX9_copy 5 = .ok (.putfield 7, 3) := by decide +kernel
theorem dX9_copy_8 : decode cX9_copy 8 = .ok (.aload_n 1, 1) := by decide +kernel
theorem dX9_copy_9 : decode cX9_copy 9 = .ok (.getfield 13, 3) := by decide +kernel
theorem dX9_copy_12 : decode cX9_copy 12 = .ok (.iconst 0, 1) := by decide +kernel
theorem dX9_copy_13 : decode cX9_copy 13 = .ok (.aload_n 0, 1) := by decide +kernel
theorem dX9_copy_14 : decode cX9_copy 14 = .ok (.getfield 13, 3) := by decide +kernel
theorem dX9_copy_17 : decode cX9_copy 17 = .ok (.iconst 0, 1) := by decide +kernel
theorem dX9_copy_18 : decode cX9_copy 18 = .ok (.bipush 20, 2) := by decide +kernel
theorem dX9_copy_20 : decode cX9_copy 20 = .ok (.invokestatic 25, 3) := by decide +kernel
theorem dX9_copy_23 : decode cX9_copy 23 = .ok (.aload_n 1, 1) := by decide +kernel
theorem dX9_copy_24 : decode cX9_copy 24 = .ok (.getfield 17, 3) := by decide +kernel
theorem dX9_copy_27 : decode cX9_copy 27 = .ok (.iconst 0, 1) := by decide +kernel
theorem dX9_copy_28 : decode cX9_copy 28 = .ok (.aload_n 0, 1) := by decide +kernel
theorem dX9_copy_29 : decode cX9_copy 29 = .ok (.getfield 17, 3) := by decide +kernel
theorem dX9_copy_32 : decode cX9_copy 32 = .ok (.iconst 0, 1) := by decide +kernel
theorem dX9_copy_33 : decode cX9_copy 33 = .ok (.bipush 20, 2) := by decide +kernel
theorem dX9_copy_35 : decode cX9_copy 35 = .ok (.invokestatic 25, 3) := by decide +kernel
theorem dX9_copy_38 : decode cX9_copy 38 = .ok (.return_, 1) := by decide +kernel
theorem dX10_init_0 : decode cX10_init 0 = .ok (.aload_n 0, 1) := by decide +kernel
theorem dX10_init_1 : decode cX10_init 1 = .ok (.invokespecial 3, 3) := by decide +kernel
theorem dX10_init_4 : decode cX10_init 4 = .ok (.aload_n 0, 1) := by decide +kernel
theorem dX10_init_5 : decode cX10_init 5 = .ok (.iconst 0, 1) := by decide +kernel
theorem dX10_init_6 : decode cX10_init 6 = .ok (.putfield 9, 3) := by decide +kernel
theorem dX10_init_9 : decode cX10_init 9 = .ok (.aload_n 0, 1) := by decide +kernel
theorem dX10_init_10 : decode cX10_init 10 = .ok (.iconst 1, 1) := by decide +kernel
theorem dX10_init_11 : decode cX10_init 11 = .ok (.putfield 15, 3) := by decide +kernel
theorem dX10_init_14 : decode cX10_init 14 = .ok (.aload_n 0, 1) := by decide +kernel
theorem dX10_init_15 : decode cX10_init 15 = .ok (.iconst 0, 1) := by decide +kernel
theorem dX10_init_16 : decode cX10_init 16 = .ok (.putfield 18, 3) := by decide +kernel
theorem dX10_init_19 : decode cX10_init 19 = .ok (.aload_n 0, 1) := by decide +kernel
theorem dX10_init_20 : decode cX10_init 20 = .ok (.sipush 10000, 3) := by decide +kernel
theorem dX10_init_23 : decode cX10_init 23 = .ok (.newarray .long, 2) := by decide +kernel
theorem dX10_init_25 : decode cX10_init 25 = .ok (.putfield 21, 3) := by decide +kernel
theorem dX10_init_28 : decode cX10_init 28 = .ok (.aload_n 0, 1) := by decide +kernel
theorem dX10_init_29 : decode cX10_init 29 = .ok (.sipush 10000, 3) := by decide +kernel
theorem dX10_init_32 : decode cX10_init 32 = .ok (.newarray .int, 2) := by decide +kernel
theorem dX10_init_34 : decode cX10_init 34 = .ok (.putfield 25, 3) := by decide +kernel
theorem dX10_init_37 : decode cX10_init 37 = .ok (.aload_n 0, 1) := by decide +kernel
theorem dX10_init_38 : decode cX10_init 38 = .ok (.sipush 10000, 3) := by decide +kernel
theorem dX10_init_41 : decode cX10_init 41 = .ok (.newarray .int, 2) := by decide +kernel
theorem dX10_init_43 : decode cX10_init 43 = .ok (.putfield 29, 3) := by decide +kernel
theorem dX10_init_46 : decode cX10_init 46 = .ok (.aload_n 0, 1) := by decide +kernel
theorem dX10_init_47 : decode cX10_init 47 = .ok (.new 32, 3) := by decide +kernel
theorem dX10_init_50 : decode cX10_init 50 = .ok (.dup, 1) := by decide +kernel
theorem dX10_init_51 : decode cX10_init 51 = .ok (.invokespecial 34, 3) := by decide +kernel
theorem dX10_init_54 : decode cX10_init 54 = .ok (.putfield 35, 3) := by decide +kernel
theorem dX10_init_57 : decode cX10_init 57 = .ok (.return_, 1) := by decide +kernel
theorem dX10_settle_0 : decode cX10_settle 0 = .ok (.aload_n 0, 1) := by decide +kernel
theorem dX10_settle_1 : decode cX10_settle 1 = .ok (.iload_n 1, 1) := by decide +kernel
theorem dX10_settle_2 : decode cX10_settle 2 = .ok (.putfield 9, 3) := by decide +kernel
theorem dX10_settle_5 : decode cX10_settle 5 = .ok (.aload_n 0, 1) := by decide +kernel
theorem dX10_settle_6 : decode cX10_settle 6 = .ok (.iload_n 2, 1) := by decide +kernel
theorem dX10_settle_7 : decode cX10_settle 7 = .ok (.putfield 18, 3) := by decide +kernel
theorem dX10_settle_10 : decode cX10_settle 10 = .ok (.iconst 1, 1) := by decide +kernel
theorem dX10_settle_11 : decode cX10_settle 11 = .ok (.istore_n 3, 1) := by decide +kernel
theorem dX10_settle_12 : decode cX10_settle 12 = .ok (.aload_n 0, 1) := by decide +kernel
theorem dX10_settle_13 : decode cX10_settle 13 = .ok (.getfield 25, 3) := by decide +kernel
theorem dX10_settle_16 : decode cX10_settle 16 = .ok (.iconst 0, 1) := by decide +kernel
theorem dX10_settle_17 : decode cX10_settle 17 = .ok (.iconst 0, 1) := by decide +kernel
theorem dX10_settle_18 : decode cX10_settle 18 = .ok (.iastore, 1) := by decide +kernel
theorem dX10_settle_19 : decode cX10_settle 19 = .ok (.iconst 0, 1) := by decide +kernel
theorem dX10_settle_20 : decode cX10_settle 20 = .ok (.istore 4, 2) := by decide +kernel
theorem dX10_settle_22 : decode cX10_settle 22 = .ok (.iload 4, 2) := by decide +kernel
theorem dX10_settle_24 : decode cX10_settle 24 = .ok (.aload_n 0, 1) := by decide +kernel
theorem dX10_settle_25 : decode cX10_settle 25 = .ok (.getfield 9, 3) := by decide +kernel
theorem dX10_settle_28 : decode cX10_settle 28 = .ok (.if_icmp .ge 66, 3) := by decide +kernel
theorem dX10_settle_31 : decode cX10_settle 31 = .ok (.iload_n 3, 1) := by decide +kernel
theorem dX10_settle_32 : decode cX10_settle 32 = .ok (.istore 5, 2) := by decide +kernel
theorem dX10_settle_34 : decode cX10_settle 34 = .ok (.iload 5, 2) := by decide +kernel
theorem dX10_settle_36 : decode cX10_settle 36 = .ok (.istore 6, 2) := by decide +kernel
theorem dX10_settle_38 : decode cX10_settle 38 = .ok (.iload 6, 2) := by decide +kernel
theorem dX10_settle_40 : decode cX10_settle 40 = .ok (.iload 5, 2) := by decide +kernel
theorem dX10_settle_42 : decode cX10_settle 42 = .ok (.aload_n 0, 1) := by decide +kernel
theorem dX10_settle_43 : decode cX10_settle 43 = .ok (.getfield 18, 3) := by decide +kernel
theorem dX10_settle_46 : decode cX10_settle 46 = .ok (.iconst 1, 1) := by decide +kernel
theorem dX10_settle_47 : decode cX10_settle 47 = .ok (.iadd, 1) := by decide +kernel
theorem dX10_settle_48 : decode cX10_settle 48 = .ok (.imul, 1) := by decide +kernel
theorem dX10_settle_49 : decode cX10_settle 49 = .ok (.if_icmp .ge 39, 3) := by decide +kernel
theorem dX10_settle_52 : decode cX10_settle 52 = .ok (.iload 6, 2) := by decide +kernel
theorem dX10_settle_54 : decode cX10_settle 54 = .ok (.sipush 10000, 3) := by decide +kernel
theorem dX10_settle_57 : decode cX10_settle 57 = .ok (.if_icmp .ge 31, 3) := by decide +kernel
theorem dX10_settle_60 : decode cX10_settle 60 = .ok (.aload_n 0, 1) := by decide +kernel
theorem dX10_settle_61 : decode cX10_settle 61 = .ok (.getfield 25, 3) := by decide +kernel
theorem dX10_settle_64 : decode cX10_settle 64 = .ok (.iload 6, 2) := by decide +kernel
theorem dX10_settle_66 : decode cX10_settle 66 = .ok (.aload_n 0, 1) := by decide +kernel
theorem dX10_settle_67 : decode cX10_settle 67 = .ok (.getfield 25, 3) := by decide +kernel
theorem dX10_settle_70 : decode cX10_settle 70 = .ok (.iload 6, 2) := by decide +kernel
theorem dX10_settle_72 : decode cX10_settle 72 = .ok (.iload 5, 2) := by decide +kernel
theorem dX10_settle_74 : decode cX10_settle 74 = .ok (.irem, 1) := by decide +kernel
theorem dX10_settle_75 : decode cX10_settle 75 = .ok (.iaload, 1) := by decide +kernel
theorem dX10_settle_76 : decode cX10_settle 76 = .ok (.iconst 1, 1) := by decide +kernel
theorem dX10_settle_77 : decode cX10_settle 77 = .ok (.iadd, 1) := by decide +kernel
theorem dX10_settle_78 : decode cX10_settle 78 = .ok (.iastore, 1) := by decide +kernel
theorem dX10_settle_79 : decode cX10_settle 79 = .ok (.iinc 3 1, 3) := by decide +kernel
theorem dX10_settle_82 : decode cX10_settle 82 = .ok (.iinc 6 1, 3) := by decide +kernel
theorem dX10_settle_85 : decode cX10_settle 85 = .ok (.goto (-47), 3) := by decide +kernel
theorem dX10_settle_88 : decode cX10_settle 88 = .ok (.iinc 4 1, 3) := by decide +kernel
theorem dX10_settle_91 : decode cX10_settle 91 = .ok (.goto (-69), 3) := by decide +kernel
theorem dX10_settle_94 : decode cX10_settle 94 = .ok (.aload_n 0, 1) := by decide +kernel
theorem dX10_settle_95 : decode cX10_settle 95 = .ok (.iload_n 3, 1) := by decide +kernel
theorem dX10_settle_96 : decode cX10_settle 96 = .ok (.putfield 15, 3) := by decide +kernel
theorem dX10_settle_99 : decode cX10_settle 99 = .ok (.return_, 1) := by decide +kernel
theorem dX10_numberAt_0 : decode cX10_numberAt 0 = .ok (.iload_n 1, 1) := by decide +kernel
theorem dX10_numberAt_1 : decode cX10_numberAt 1 = .ok (.istore_n 3, 1) := by decide +kernel
theorem dX10_numberAt_2 : decode cX10_numberAt 2 = .ok (.aload_n 0, 1) := by decide +kernel
theorem dX10_numberAt_3 : decode cX10_numberAt 3 = .ok (.getfield 18, 3) := by decide +kernel
theorem dX10_numberAt_6 : decode cX10_numberAt 6 = .ok (.iconst 1, 1) := by decide +kernel
theorem dX10_numberAt_7 : decode cX10_numberAt 7 = .ok (.iadd, 1) := by decide +kernel
theorem dX10_numberAt_8 : decode cX10_numberAt 8 = .ok (.iconst 2, 1) := by decide +kernel
theorem dX10_numberAt_9 : decode cX10_numberAt 9 = .ok (.invokestatic 39, 3) := by decide +kernel
theorem dX10_numberAt_12 : decode cX10_numberAt 12 = .ok (.istore 4, 2) := by decide +kernel
theorem dX10_numberAt_14 : decode cX10_numberAt 14 = .ok (.iconst 0, 1) := by decide +kernel
theorem dX10_numberAt_15 : decode cX10_numberAt 15 = .ok (.istore 5, 2) := by decide +kernel
theorem dX10_numberAt_17 : decode cX10_numberAt 17 = .ok (.iload 5, 2) := by decide +kernel
theorem dX10_numberAt_19 : decode cX10_numberAt 19 = .ok (.iload_n 2, 1) := by decide +kernel
theorem dX10_numberAt_20 : decode cX10_numberAt 20 = .ok (.if_icmp .ge 14, 3) := by decide +kernel
theorem dX10_numberAt_23 : decode cX10_numberAt 23 = .ok (.iload_n 3, 1) := by decide +kernel
theorem dX10_numberAt_24 : decode cX10_numberAt 24 = .ok (.iload 4, 2) := by decide +kernel
theorem dX10_numberAt_26 : decode cX10_numberAt 26 = .ok (.idiv, 1) := by decide +kernel
theorem dX10_numberAt_27 : decode cX10_numberAt 27 = .ok (.istore_n 3, 1) := by decide +kernel
theorem dX10_numberAt_28 : decode cX10_numberAt 28 = .ok (.iinc 5 1, 3) := by decide +kernel
theorem dX10_numberAt_31 : decode cX10_numberAt 31 = .ok (.goto (-14), 3) := by decide +kernel
theorem dX10_numberAt_34 : decode cX10_numberAt 34 = .ok (.iload_n 3, 1) := by decide +kernel
theorem dX10_numberAt_35 : decode cX10_numberAt 35 = .ok (.iload 4, 2) := by decide +kernel
theorem dX10_numberAt_37 : decode cX10_numberAt 37 = .ok (.irem, 1) := by decide +kernel
theorem dX10_numberAt_38 : decode cX10_numberAt 38 = .ok (.ireturn, 1) := by decide +kernel
theorem dX10_comeBy_0 : decode cX10_comeBy 0 = .ok (.iconst 1, 1) := by decide +kernel
theorem dX10_comeBy_1 : decode cX10_comeBy 1 = .ok (.istore_n 3, 1) := by decide +kernel
theorem dX10_comeBy_2 : decode cX10_comeBy 2 = .ok (.lconst 1, 1) := by decide +kernel
theorem dX10_comeBy_3 : decode cX10_comeBy 3 = .ok (.lstore 4, 2) := by decide +kernel
theorem dX10_comeBy_5 : decode cX10_comeBy 5 = .ok (.aload_n 0, 1) := by decide +kernel
theorem dX10_comeBy_6 : decode cX10_comeBy 6 = .ok (.getfield 21, 3) := by decide +kernel
theorem dX10_comeBy_9 : decode cX10_comeBy 9 = .ok (.iconst 0, 1) := by decide +kernel
theorem dX10_comeBy_10 : decode cX10_comeBy 10 = .ok (.lconst 0, 1) := by decide +kernel
theorem dX10_comeBy_11 : decode cX10_comeBy 11 = .ok (.lastore, 1) := by decide +kernel
theorem dX10_comeBy_12 : decode cX10_comeBy 12 = .ok (.iconst 0, 1) := by decide +kernel
theorem dX10_comeBy_13 : decode cX10_comeBy 13 = .ok (.istore 6, 2) := by decide +kernel
theorem dX10_comeBy_15 : decode cX10_comeBy 15 = .ok (.iload 6, 2) := by decide +kernel
theorem dX10_comeBy_17 : decode cX10_comeBy 17 = .ok (.aload_n 0, 1) := by decide +kernel
theorem dX10_comeBy_18 : decode cX10_comeBy 18 = .ok (.getfield 9, 3) := by decide +kernel
theorem dX10_comeBy_21 : decode cX10_comeBy 21 = .ok (.if_icmp .ge 67, 3) := by decide +kernel
theorem dX10_comeBy_24 : decode cX10_comeBy 24 = .ok (.iload_n 3, 1) := by decide +kernel
theorem dX10_comeBy_25 : decode cX10_comeBy 25 = .ok (.istore 7, 2) := by decide +kernel
theorem dX10_comeBy_27 : decode cX10_comeBy 27 = .ok (.iconst 0, 1) := by decide +kernel
theorem dX10_comeBy_28 : decode cX10_comeBy 28 = .ok (.istore 8, 2) := by decide +kernel
theorem dX10_comeBy_30 : decode cX10_comeBy 30 = .ok (.iload 8, 2) := by decide +kernel
theorem dX10_comeBy_32 : decode cX10_comeBy 32 = .ok (.iload 7, 2) := by decide +kernel
theorem dX10_comeBy_34 : decode cX10_comeBy 34 = .ok (.aload_n 0, 1) := by decide +kernel
theorem dX10_comeBy_35 : decode cX10_comeBy 35 = .ok (.getfield 18, 3) := by decide +kernel
theorem dX10_comeBy_38 : decode cX10_comeBy 38 = .ok (.imul, 1) := by decide +kernel
theorem dX10_comeBy_39 : decode cX10_comeBy 39 = .ok (.if_icmp .ge 37, 3) := by decide +kernel
theorem dX10_comeBy_42 : decode cX10_comeBy 42 = .ok (.iload_n 3, 1) := by decide +kernel
theorem dX10_comeBy_43 : decode cX10_comeBy 43 = .ok (.sipush 10000, 3) := by decide +kernel
theorem dX10_comeBy_46 : decode cX10_comeBy 46 = .ok (.if_icmp .ge 30, 3) := by decide +kernel
theorem dX10_comeBy_49 : decode cX10_comeBy 49 = .ok (.aload_n 0, 1) := by decide +kernel
theorem dX10_comeBy_50 : decode cX10_comeBy 50 = .ok (.getfield 21, 3) := by decide +kernel
theorem dX10_comeBy_53 : decode cX10_comeBy 53 = .ok (.iload_n 3, 1) := by decide +kernel
theorem dX10_comeBy_54 : decode cX10_comeBy 54 = .ok (.aload_n 0, 1) := by decide +kernel
theorem dX10_comeBy_55 : decode cX10_comeBy 55 = .ok (.getfield 21, 3) := by decide +kernel
theorem dX10_comeBy_58 : decode cX10_comeBy 58 = .ok (.iload_n 3, 1) := by decide +kernel
theorem dX10_comeBy_59 : decode cX10_comeBy 59 = .ok (.iload 7, 2) := by decide +kernel
theorem dX10_comeBy_61 : decode cX10_comeBy 61 = .ok (.isub, 1) := by decide +kernel
theorem dX10_comeBy_62 : decode cX10_comeBy 62 = .ok (.laload, 1) := by decide +kernel
theorem dX10_comeBy_63 : decode cX10_comeBy 63 = .ok (.lload 4, 2) := by decide +kernel
theorem dX10_comeBy_65 : decode cX10_comeBy 65 = .ok (.ladd, 1) := by decide +kernel
theorem dX10_comeBy_66 : decode cX10_comeBy 66 = .ok (.lastore, 1) := by decide +kernel
theorem dX10_comeBy_67 : decode cX10_comeBy 67 = .ok (.iinc 3 1, 3) := by decide +kernel
theorem dX10_comeBy_70 : decode cX10_comeBy 70 = .ok (.iinc 8 1, 3) := by decide +kernel
theorem dX10_comeBy_73 : decode cX10_comeBy 73 = .ok (.goto (-43), 3) := by decide +kernel
theorem dX10_comeBy_76 : decode cX10_comeBy 76 = .ok (.lload 4, 2) := by decide +kernel
theorem dX10_comeBy_78 : decode cX10_comeBy 78 = .ok (.lload_n 1, 1) := by decide +kernel
theorem dX10_comeBy_79 : decode cX10_comeBy 79 = .ok (.lmul, 1) := by decide +kernel
theorem dX10_comeBy_80 : decode cX10_comeBy 80 = .ok (.lstore 4, 2) := by decide +kernel
theorem dX10_comeBy_82 : decode cX10_comeBy 82 = .ok (.iinc 6 1, 3) := by decide +kernel
theorem dX10_comeBy_85 : decode cX10_comeBy 85 = .ok (.goto (-70), 3) := by decide +kernel
theorem dX10_comeBy_88 : decode cX10_comeBy 88 = .ok (.return_, 1) := by decide +kernel
theorem dX10_howManyComeTo_0 : decode cX10_howManyComeTo 0 = .ok (.aload_n 0, 1) := by decide +kernel
theorem dX10_howManyComeTo_1 : decode cX10_howManyComeTo 1 = .ok (.iload_n 1, 1) := by decide +kernel
theorem dX10_howManyComeTo_2 : decode cX10_howManyComeTo 2 = .ok (.i2l, 1) := by decide +kernel
theorem dX10_howManyComeTo_3 : decode cX10_howManyComeTo 3 = .ok (.invokevirtual 45, 3) := by decide +kernel
theorem dX10_howManyComeTo_6 : decode cX10_howManyComeTo 6 = .ok (.iconst 0, 1) := by decide +kernel
theorem dX10_howManyComeTo_7 : decode cX10_howManyComeTo 7 = .ok (.istore 4, 2) := by decide +kernel
theorem dX10_howManyComeTo_9 : decode cX10_howManyComeTo 9 = .ok (.iconst 0, 1) := by decide +kernel
theorem dX10_howManyComeTo_10 : decode cX10_howManyComeTo 10 = .ok (.istore 5, 2) := by decide +kernel
theorem dX10_howManyComeTo_12 : decode cX10_howManyComeTo 12 = .ok (.iload 5, 2) := by decide +kernel
theorem dX10_howManyComeTo_14 : decode cX10_howManyComeTo 14 = .ok (.aload_n 0, 1) := by decide +kernel
theorem dX10_howManyComeTo_15 : decode cX10_howManyComeTo 15 = .ok (.getfield 15, 3) := by decide +kernel
theorem dX10_howManyComeTo_18 : decode cX10_howManyComeTo 18 = .ok (.if_icmp .ge 24, 3) := by decide +kernel
theorem dX10_howManyComeTo_21 : decode cX10_howManyComeTo 21 = .ok (.aload_n 0, 1) := by decide +kernel
theorem dX10_howManyComeTo_22 : decode cX10_howManyComeTo 22 = .ok (.getfield 21, 3) := by decide +kernel
theorem dX10_howManyComeTo_25 : decode cX10_howManyComeTo 25 = .ok (.iload 5, 2) := by decide +kernel
theorem dX10_howManyComeTo_27 : decode cX10_howManyComeTo 27 = .ok (.laload, 1) := by decide +kernel
theorem dX10_howManyComeTo_28 : decode cX10_howManyComeTo 28 = .ok (.lload_n 2, 1) := by decide +kernel
theorem dX10_howManyComeTo_29 : decode cX10_howManyComeTo 29 = .ok (.lcmp, 1) := by decide +kernel
theorem dX10_howManyComeTo_30 : decode cX10_howManyComeTo 30 = .ok (.ifCond .ne 6, 3) := by decide +kernel
theorem dX10_howManyComeTo_33 : decode cX10_howManyComeTo 33 = .ok (.iinc 4 1, 3) := by decide +kernel
theorem dX10_howManyComeTo_36 : decode cX10_howManyComeTo 36 = .ok (.iinc 5 1, 3) := by decide +kernel
theorem dX10_howManyComeTo_39 : decode cX10_howManyComeTo 39 = .ok (.goto (-27), 3) := by decide +kernel
theorem dX10_howManyComeTo_42 : decode cX10_howManyComeTo 42 = .ok (.iload 4, 2) := by decide +kernel
theorem dX10_howManyComeTo_44 : decode cX10_howManyComeTo 44 = .ok (.ireturn, 1) := by decide +kernel
theorem dX10_clashing_0 : decode cX10_clashing 0 = .ok (.aload_n 0, 1) := by decide +kernel
theorem dX10_clashing_1 : decode cX10_clashing 1 = .ok (.iload_n 1, 1) := by decide +kernel
theorem dX10_clashing_2 : decode cX10_clashing 2 = .ok (.i2l, 1) := by decide +kernel
theorem dX10_clashing_3 : decode cX10_clashing 3 = .ok (.invokevirtual 45, 3) := by decide +kernel
theorem dX10_clashing_6 : decode cX10_clashing 6 = .ok (.aload_n 0, 1) := by decide +kernel
theorem dX10_clashing_7 : decode cX10_clashing 7 = .ok (.getfield 35, 3) := by decide +kernel
theorem dX10_clashing_10 : decode cX10_clashing 10 = .ok (.aload_n 0, 1) := by decide +kernel
theorem dX10_clashing_11 : decode cX10_clashing 11 = .ok (.getfield 15, 3) := by decide +kernel
theorem dX10_clashing_14 : decode cX10_clashing 14 = .ok (.invokevirtual 49, 3) := by decide +kernel
theorem dX10_clashing_17 : decode cX10_clashing 17 = .ok (.iconst 0, 1) := by decide +kernel
theorem dX10_clashing_18 : decode cX10_clashing 18 = .ok (.istore_n 3, 1) := by decide +kernel
theorem dX10_clashing_19 : decode cX10_clashing 19 = .ok (.iload_n 3, 1) := by decide +kernel
theorem dX10_clashing_20 : decode cX10_clashing 20 = .ok (.aload_n 0, 1) := by decide +kernel
theorem dX10_clashing_21 : decode cX10_clashing 21 = .ok (.getfield 15, 3) := by decide +kernel
theorem dX10_clashing_24 : decode cX10_clashing 24 = .ok (.if_icmp .ge 42, 3) := by decide +kernel
theorem dX10_clashing_27 : decode cX10_clashing 27 = .ok (.aload_n 0, 1) := by decide +kernel
theorem dX10_clashing_28 : decode cX10_clashing 28 = .ok (.getfield 35, 3) := by decide +kernel
theorem dX10_clashing_31 : decode cX10_clashing 31 = .ok (.aload_n 0, 1) := by decide +kernel
theorem dX10_clashing_32 : decode cX10_clashing 32 = .ok (.getfield 21, 3) := by decide +kernel
theorem dX10_clashing_35 : decode cX10_clashing 35 = .ok (.iload_n 3, 1) := by decide +kernel
theorem dX10_clashing_36 : decode cX10_clashing 36 = .ok (.laload, 1) := by decide +kernel
theorem dX10_clashing_37 : decode cX10_clashing 37 = .ok (.iload_n 3, 1) := by decide +kernel
theorem dX10_clashing_38 : decode cX10_clashing 38 = .ok (.invokevirtual 53, 3) := by decide +kernel
theorem dX10_clashing_41 : decode cX10_clashing 41 = .ok (.istore 4, 2) := by decide +kernel
theorem dX10_clashing_43 : decode cX10_clashing 43 = .ok (.iload 4, 2) := by decide +kernel
theorem dX10_clashing_45 : decode cX10_clashing 45 = .ok (.iload_n 3, 1) := by decide +kernel
theorem dX10_clashing_46 : decode cX10_clashing 46 = .ok (.if_icmp .eq 14, 3) := by decide +kernel
theorem dX10_clashing_49 : decode cX10_clashing 49 = .ok (.iload_n 2, 1) := by decide +kernel
theorem dX10_clashing_50 : decode cX10_clashing 50 = .ok (.ifCond .eq 7, 3) := by decide +kernel
theorem dX10_clashing_53 : decode cX10_clashing 53 = .ok (.iload_n 3, 1) := by decide +kernel
theorem dX10_clashing_54 : decode cX10_clashing 54 = .ok (.goto 5, 3) := by decide +kernel
theorem dX10_clashing_57 : decode cX10_clashing 57 = .ok (.iload 4, 2) := by decide +kernel
theorem dX10_clashing_59 : decode cX10_clashing 59 = .ok (.ireturn, 1) := by decide +kernel
theorem dX10_clashing_60 : decode cX10_clashing 60 = .ok (.iinc 3 1, 3) := by decide +kernel
theorem dX10_clashing_63 : decode cX10_clashing 63 = .ok (.goto (-44), 3) := by decide +kernel
theorem dX10_clashing_66 : decode cX10_clashing 66 = .ok (.bipush (-2), 2) := by decide +kernel
theorem dX10_clashing_68 : decode cX10_clashing 68 = .ok (.ireturn, 1) := by decide +kernel
theorem dX10_fewestNumbers_0 : decode cX10_fewestNumbers 0 = .ok (.aload_n 0, 1) := by decide +kernel
theorem dX10_fewestNumbers_1 : decode cX10_fewestNumbers 1 = .ok (.getfield 29, 3) := by decide +kernel
theorem dX10_fewestNumbers_4 : decode cX10_fewestNumbers 4 = .ok (.iconst 0, 1) := by decide +kernel
theorem dX10_fewestNumbers_5 : decode cX10_fewestNumbers 5 = .ok (.invokestatic 57, 3) := by decide +kernel
theorem dX10_fewestNumbers_8 : decode cX10_fewestNumbers 8 = .ok (.iconst 1, 1) := by decide +kernel
theorem dX10_fewestNumbers_9 : decode cX10_fewestNumbers 9 = .ok (.istore_n 2, 1) := by decide +kernel
theorem dX10_fewestNumbers_10 : decode cX10_fewestNumbers 10 = .ok (.iload_n 2, 1) := by decide +kernel
theorem dX10_fewestNumbers_11 : decode cX10_fewestNumbers 11 = .ok (.bipush 9, 2) := by decide +kernel
theorem dX10_fewestNumbers_13 : decode cX10_fewestNumbers 13 = .ok (.if_icmp .gt 20, 3) := by decide +kernel
theorem dX10_fewestNumbers_16 : decode cX10_fewestNumbers 16 = .ok (.aload_n 0, 1) := by decide +kernel
theorem dX10_fewestNumbers_17 : decode cX10_fewestNumbers 17 = .ok (.iload_n 2, 1) := by decide +kernel
theorem dX10_fewestNumbers_18 : decode cX10_fewestNumbers 18 = .ok (.iload_n 1, 1) := by decide +kernel
theorem dX10_fewestNumbers_19 : decode cX10_fewestNumbers 19 = .ok (.invokevirtual 63, 3) := by decide +kernel
theorem dX10_fewestNumbers_22 : decode cX10_fewestNumbers 22 = .ok (.ifCond .eq 5, 3) := by decide +kernel
theorem dX10_fewestNumbers_25 : decode cX10_fewestNumbers 25 = .ok (.iload_n 2, 1) := by decide +kernel
theorem dX10_fewestNumbers_26 : decode cX10_fewestNumbers 26 = .ok (.ireturn, 1) := by decide +kernel
theorem dX10_fewestNumbers_27 : decode cX10_fewestNumbers 27 = .ok (.iinc 2 1, 3) := by decide +kernel
theorem dX10_fewestNumbers_30 : decode cX10_fewestNumbers 30 = .ok (.goto (-20), 3) := by decide +kernel
theorem dX10_fewestNumbers_33 : decode cX10_fewestNumbers 33 = .ok (.bipush (-2), 2) := by decide +kernel
theorem dX10_fewestNumbers_35 : decode cX10_fewestNumbers 35 = .ok (.ireturn, 1) := by decide +kernel
theorem dX10_partGroups_0 : decode cX10_partGroups 0 = .ok (.iconst 1, 1) := by decide +kernel
theorem dX10_partGroups_1 : decode cX10_partGroups 1 = .ok (.istore_n 3, 1) := by decide +kernel
theorem dX10_partGroups_2 : decode cX10_partGroups 2 = .ok (.aload_n 0, 1) := by decide +kernel
theorem dX10_partGroups_3 : decode cX10_partGroups 3 = .ok (.iload_n 1, 1) := by decide +kernel
theorem dX10_partGroups_4 : decode cX10_partGroups 4 = .ok (.i2l, 1) := by decide +kernel
theorem dX10_partGroups_5 : decode cX10_partGroups 5 = .ok (.invokevirtual 45, 3) := by decide +kernel
theorem dX10_partGroups_8 : decode cX10_partGroups 8 = .ok (.aload_n 0, 1) := by decide +kernel
theorem dX10_partGroups_9 : decode cX10_partGroups 9 = .ok (.getfield 35, 3) := by decide +kernel
theorem dX10_partGroups_12 : decode cX10_partGroups 12 = .ok (.aload_n 0, 1) := by decide +kernel
theorem dX10_partGroups_13 : decode cX10_partGroups 13 = .ok (.getfield 15, 3) := by decide +kernel
theorem dX10_partGroups_16 : decode cX10_partGroups 16 = .ok (.invokevirtual 49, 3) := by decide +kernel
theorem dX10_partGroups_19 : decode cX10_partGroups 19 = .ok (.iconst 0, 1) := by decide +kernel
theorem dX10_partGroups_20 : decode cX10_partGroups 20 = .ok (.istore 4, 2) := by decide +kernel
theorem dX10_partGroups_22 : decode cX10_partGroups 22 = .ok (.iload 4, 2) := by decide +kernel
theorem dX10_partGroups_24 : decode cX10_partGroups 24 = .ok (.aload_n 0, 1) := by decide +kernel
theorem dX10_partGroups_25 : decode cX10_partGroups 25 = .ok (.getfield 15, 3) := by decide +kernel
theorem dX10_partGroups_28 : decode cX10_partGroups 28 = .ok (.if_icmp .ge 78, 3) := by decide +kernel
theorem dX10_partGroups_31 : decode cX10_partGroups 31 = .ok (.aload_n 0, 1) := by decide +kernel
theorem dX10_partGroups_32 : decode cX10_partGroups 32 = .ok (.getfield 25, 3) := by decide +kernel
theorem dX10_partGroups_35 : decode cX10_partGroups 35 = .ok (.iload 4, 2) := by decide +kernel
theorem dX10_partGroups_37 : decode cX10_partGroups 37 = .ok (.iaload, 1) := by decide +kernel
theorem dX10_partGroups_38 : decode cX10_partGroups 38 = .ok (.iload_n 2, 1) := by decide +kernel
theorem dX10_partGroups_39 : decode cX10_partGroups 39 = .ok (.if_icmp .gt 61, 3) := by decide +kernel
theorem dX10_partGroups_42 : decode cX10_partGroups 42 = .ok (.aload_n 0, 1) := by decide +kernel
theorem dX10_partGroups_43 : decode cX10_partGroups 43 = .ok (.getfield 29, 3) := by decide +kernel
theorem dX10_partGroups_46 : decode cX10_partGroups 46 = .ok (.iload 4, 2) := by decide +kernel
theorem dX10_partGroups_48 : decode cX10_partGroups 48 = .ok (.aload_n 0, 1) := by decide +kernel
theorem dX10_partGroups_49 : decode cX10_partGroups 49 = .ok (.getfield 35, 3) := by decide +kernel
theorem dX10_partGroups_52 : decode cX10_partGroups 52 = .ok (.aload_n 0, 1) := by decide +kernel
theorem dX10_partGroups_53 : decode cX10_partGroups 53 = .ok (.getfield 29, 3) := by decide +kernel
theorem dX10_partGroups_56 : decode cX10_partGroups 56 = .ok (.iload 4, 2) := by decide +kernel
theorem dX10_partGroups_58 : decode cX10_partGroups 58 = .ok (.iaload, 1) := by decide +kernel
theorem dX10_partGroups_59 : decode cX10_partGroups 59 = .ok (.i2l, 1) := by decide +kernel
theorem dX10_partGroups_60 : decode cX10_partGroups 60 = .ok (.ldc2_w 67, 3) := by decide +kernel
theorem dX10_partGroups_63 : decode cX10_partGroups 63 = .ok (.lmul, 1) := by decide +kernel
theorem dX10_partGroups_64 : decode cX10_partGroups 64 = .ok (.aload_n 0, 1) := by decide +kernel
theorem dX10_partGroups_65 : decode cX10_partGroups 65 = .ok (.getfield 21, 3) := by decide +kernel
theorem dX10_partGroups_68 : decode cX10_partGroups 68 = .ok (.iload 4, 2) := by decide +kernel
theorem dX10_partGroups_70 : decode cX10_partGroups 70 = .ok (.laload, 1) := by decide +kernel
theorem dX10_partGroups_71 : decode cX10_partGroups 71 = .ok (.ladd, 1) := by decide +kernel
theorem dX10_partGroups_72 : decode cX10_partGroups 72 = .ok (.iload 4, 2) := by decide +kernel
theorem dX10_partGroups_74 : decode cX10_partGroups 74 = .ok (.invokevirtual 53, 3) := by decide +kernel
theorem dX10_partGroups_77 : decode cX10_partGroups 77 = .ok (.iastore, 1) := by decide +kernel
theorem dX10_partGroups_78 : decode cX10_partGroups 78 = .ok (.iload_n 3, 1) := by decide +kernel
theorem dX10_partGroups_79 : decode cX10_partGroups 79 = .ok (.ifCond .eq 19, 3) := by decide +kernel
theorem dX10_partGroups_82 : decode cX10_partGroups 82 = .ok (.aload_n 0, 1) := by decide +kernel
theorem dX10_partGroups_83 : decode cX10_partGroups 83 = .ok (.getfield 29, 3) := by decide +kernel
theorem dX10_partGroups_86 : decode cX10_partGroups 86 = .ok (.iload 4, 2) := by decide +kernel
theorem dX10_partGroups_88 : decode cX10_partGroups 88 = .ok (.iaload, 1) := by decide +kernel
theorem dX10_partGroups_89 : decode cX10_partGroups 89 = .ok (.iload 4, 2) := by decide +kernel
theorem dX10_partGroups_91 : decode cX10_partGroups 91 = .ok (.if_icmp .ne 7, 3) := by decide +kernel
theorem dX10_partGroups_94 : decode cX10_partGroups 94 = .ok (.iconst 1, 1) := by decide +kernel
theorem dX10_partGroups_95 : decode cX10_partGroups 95 = .ok (.goto 4, 3) := by decide +kernel
theorem dX10_partGroups_98 : decode cX10_partGroups 98 = .ok (.iconst 0, 1) := by decide +kernel
theorem dX10_partGroups_99 : decode cX10_partGroups 99 = .ok (.istore_n 3, 1) := by decide +kernel
theorem dX10_partGroups_100 : decode cX10_partGroups 100 = .ok (.iinc 4 1, 3) := by decide +kernel
theorem dX10_partGroups_103 : decode cX10_partGroups 103 = .ok (.goto (-81), 3) := by decide +kernel
theorem dX10_partGroups_106 : decode cX10_partGroups 106 = .ok (.iload_n 3, 1) := by decide +kernel
theorem dX10_partGroups_107 : decode cX10_partGroups 107 = .ok (.ireturn, 1) := by decide +kernel
theorem dX11_init_0 : decode cX11_init 0 = .ok (.aload_n 0, 1) := by decide +kernel
theorem dX11_init_1 : decode cX11_init 1 = .ok (.invokespecial 1, 3) := by decide +kernel
theorem dX11_init_4 : decode cX11_init 4 = .ok (.aload_n 0, 1) := by decide +kernel
theorem dX11_init_5 : decode cX11_init 5 = .ok (.sipush 2000, 3) := by decide +kernel
theorem dX11_init_8 : decode cX11_init 8 = .ok (.newarray .byte, 2) := by decide +kernel
theorem dX11_init_10 : decode cX11_init 10 = .ok (.putfield 9, 3) := by decide +kernel
theorem dX11_init_13 : decode cX11_init 13 = .ok (.aload_n 0, 1) := by decide +kernel
theorem dX11_init_14 : decode cX11_init 14 = .ok (.iconst 0, 1) := by decide +kernel
theorem dX11_init_15 : decode cX11_init 15 = .ok (.putfield 13, 3) := by decide +kernel
theorem dX11_init_18 : decode cX11_init 18 = .ok (.aload_n 0, 1) := by decide +kernel
theorem dX11_init_19 : decode cX11_init 19 = .ok (.iconst (-1), 1) := by decide +kernel
theorem dX11_init_20 : decode cX11_init 20 = .ok (.putfield 17, 3) := by decide +kernel
theorem dX11_init_23 : decode cX11_init 23 = .ok (.aload_n 0, 1) := by decide +kernel
theorem dX11_init_24 : decode cX11_init 24 = .ok (.new 20, 3) := by decide +kernel
theorem dX11_init_27 : decode cX11_init 27 = .ok (.dup, 1) := by decide +kernel
theorem dX11_init_28 : decode cX11_init 28 = .ok (.invokespecial 22, 3) := by decide +kernel
theorem dX11_init_31 : decode cX11_init 31 = .ok (.putfield 23, 3) := by decide +kernel
theorem dX11_init_34 : decode cX11_init 34 = .ok (.aload_n 0, 1) := by decide +kernel
theorem dX11_init_35 : decode cX11_init 35 = .ok (.new 27, 3) := by decide +kernel
theorem dX11_init_38 : decode cX11_init 38 = .ok (.dup, 1) := by decide +kernel
theorem dX11_init_39 : decode cX11_init 39 = .ok (.invokespecial 29, 3) := by decide +kernel
theorem dX11_init_42 : decode cX11_init 42 = .ok (.putfield 30, 3) := by decide +kernel
theorem dX11_init_45 : decode cX11_init 45 = .ok (.aload_n 0, 1) := by decide +kernel
theorem dX11_init_46 : decode cX11_init 46 = .ok (.new 34, 3) := by decide +kernel
theorem dX11_init_49 : decode cX11_init 49 = .ok (.dup, 1) := by decide +kernel
theorem dX11_init_50 : decode cX11_init 50 = .ok (.invokespecial 36, 3) := by decide +kernel
theorem dX11_init_53 : decode cX11_init 53 = .ok (.putfield 37, 3) := by decide +kernel
theorem dX11_init_56 : decode cX11_init 56 = .ok (.aload_n 0, 1) := by decide +kernel
theorem dX11_init_57 : decode cX11_init 57 = .ok (.iconst 3, 1) := by decide +kernel
theorem dX11_init_58 : decode cX11_init 58 = .ok (.anewarray 34, 3) := by decide +kernel
theorem dX11_init_61 : decode cX11_init 61 = .ok (.putfield 41, 3) := by decide +kernel
theorem dX11_init_64 : decode cX11_init 64 = .ok (.aload_n 0, 1) := by decide +kernel
theorem dX11_init_65 : decode cX11_init 65 = .ok (.bipush (-2), 2) := by decide +kernel
theorem dX11_init_67 : decode cX11_init 67 = .ok (.putfield 45, 3) := by decide +kernel
theorem dX11_init_70 : decode cX11_init 70 = .ok (.aload_n 0, 1) := by decide +kernel
theorem dX11_init_71 : decode cX11_init 71 = .ok (.iconst 0, 1) := by decide +kernel
theorem dX11_init_72 : decode cX11_init 72 = .ok (.putfield 48, 3) := by decide +kernel
theorem dX11_init_75 : decode cX11_init 75 = .ok (.aload_n 0, 1) := by decide +kernel
theorem dX11_init_76 : decode cX11_init 76 = .ok (.new 51, 3) := by decide +kernel
theorem dX11_init_79 : decode cX11_init 79 = .ok (.dup, 1) := by decide +kernel
theorem dX11_init_80 : decode cX11_init 80 = .ok (.invokespecial 53, 3) := by decide +kernel
theorem dX11_init_83 : decode cX11_init 83 = .ok (.putfield 54, 3) := by decide +kernel
theorem dX11_init_86 : decode cX11_init 86 = .ok (.aload_n 0, 1) := by decide +kernel
theorem dX11_init_87 : decode cX11_init 87 = .ok (.new 58, 3) := by decide +kernel
theorem dX11_init_90 : decode cX11_init 90 = .ok (.dup, 1) := by decide +kernel
theorem dX11_init_91 : decode cX11_init 91 = .ok (.aload_n 0, 1) := by decide +kernel
theorem dX11_init_92 : decode cX11_init 92 = .ok (.getfield 54, 3) := by decide +kernel
theorem dX11_init_95 : decode cX11_init 95 = .ok (.invokespecial 60, 3) := by decide +kernel
theorem dX11_init_98 : decode cX11_init 98 = .ok (.putfield 63, 3) := by decide +kernel
theorem dX11_init_101 : decode cX11_init 101 = .ok (.iconst 0, 1) := by decide +kernel
theorem dX11_init_102 : decode cX11_init 102 = .ok (.istore_n 1, 1) := by decide +kernel
theorem dX11_init_103 : decode cX11_init 103 = .ok (.iload_n 1, 1) := by decide +kernel
theorem dX11_init_104 : decode cX11_init 104 = .ok (.iconst 3, 1) := by decide +kernel
theorem dX11_init_105 : decode cX11_init 105 = .ok (.if_icmp .ge 22, 3) := by decide +kernel
theorem dX11_init_108 : decode cX11_init 108 = .ok (.aload_n 0, 1) := by decide +kernel
theorem dX11_init_109 : decode cX11_init 109 = .ok (.getfield 41, 3) := by decide +kernel
theorem dX11_init_112 : decode cX11_init 112 = .ok (.iload_n 1, 1) := by decide +kernel
theorem dX11_init_113 : decode cX11_init 113 = .ok (.new 34, 3) := by decide +kernel
theorem dX11_init_116 : decode cX11_init 116 = .ok (.dup, 1) := by decide +kernel
theorem dX11_init_117 : decode cX11_init 117 = .ok (.invokespecial 36, 3) := by decide +kernel
theorem dX11_init_120 : decode cX11_init 120 = .ok (.aastore, 1) := by decide +kernel
theorem dX11_init_121 : decode cX11_init 121 = .ok (.iinc 1 1, 3) := by decide +kernel
theorem dX11_init_124 : decode cX11_init 124 = .ok (.goto (-21), 3) := by decide +kernel
theorem dX11_init_127 : decode cX11_init 127 = .ok (.aload_n 0, 1) := by decide +kernel
theorem dX11_init_128 : decode cX11_init 128 = .ok (.invokevirtual 67, 3) := by decide +kernel
theorem dX11_init_131 : decode cX11_init 131 = .ok (.return_, 1) := by decide +kernel
theorem dX11_begin_0 : decode cX11_begin 0 = .ok (.aload_n 0, 1) := by decide +kernel
theorem dX11_begin_1 : decode cX11_begin 1 = .ok (.getfield 37, 3) := by decide +kernel
theorem dX11_begin_4 : decode cX11_begin 4 = .ok (.invokevirtual 70, 3) := by decide +kernel
theorem dX11_begin_7 : decode cX11_begin 7 = .ok (.iconst 0, 1) := by decide +kernel
theorem dX11_begin_8 : decode cX11_begin 8 = .ok (.istore_n 1, 1) := by decide +kernel
theorem dX11_begin_9 : decode cX11_begin 9 = .ok (.iload_n 1, 1) := by decide +kernel
theorem dX11_begin_10 : decode cX11_begin 10 = .ok (.iconst 3, 1) := by decide +kernel
theorem dX11_begin_11 : decode cX11_begin 11 = .ok (.if_icmp .ge 28, 3) := by decide +kernel
theorem dX11_begin_14 : decode cX11_begin 14 = .ok (.aload_n 0, 1) := by decide +kernel
theorem dX11_begin_15 : decode cX11_begin 15 = .ok (.getfield 41, 3) := by decide +kernel
theorem dX11_begin_18 : decode cX11_begin 18 = .ok (.iload_n 1, 1) := by decide +kernel
theorem dX11_begin_19 : decode cX11_begin 19 = .ok (.aaload, 1) := by decide +kernel
theorem dX11_begin_20 : decode cX11_begin 20 = .ok (.invokevirtual 70, 3) := by decide +kernel
theorem dX11_begin_23 : decode cX11_begin 23 = .ok (.aload_n 0, 1) := by decide +kernel
theorem dX11_begin_24 : decode cX11_begin 24 = .ok (.getfield 41, 3) := by decide +kernel
theorem dX11_begin_27 : decode cX11_begin 27 = .ok (.iload_n 1, 1) := by decide +kernel
theorem dX11_begin_28 : decode cX11_begin 28 = .ok (.aaload, 1) := by decide +kernel
theorem dX11_begin_29 : decode cX11_begin 29 = .ok (.iconst 0, 1) := by decide +kernel
theorem dX11_begin_30 : decode cX11_begin 30 = .ok (.putfield 73, 3) := by decide +kernel
theorem dX11_begin_33 : decode cX11_begin 33 = .ok (.iinc 1 1, 3) := by decide +kernel
theorem dX11_begin_36 : decode cX11_begin 36 = .ok (.goto (-27), 3) := by decide +kernel
theorem dX11_begin_39 : decode cX11_begin 39 = .ok (.aload_n 0, 1) := by decide +kernel
theorem dX11_begin_40 : decode cX11_begin 40 = .ok (.bipush (-2), 2) := by decide +kernel
theorem dX11_begin_42 : decode cX11_begin 42 = .ok (.putfield 45, 3) := by decide +kernel
theorem dX11_begin_45 : decode cX11_begin 45 = .ok (.aload_n 0, 1) := by decide +kernel
theorem dX11_begin_46 : decode cX11_begin 46 = .ok (.iconst 0, 1) := by decide +kernel
theorem dX11_begin_47 : decode cX11_begin 47 = .ok (.putfield 48, 3) := by decide +kernel
theorem dX11_begin_50 : decode cX11_begin 50 = .ok (.aload_n 0, 1) := by decide +kernel
theorem dX11_begin_51 : decode cX11_begin 51 = .ok (.getfield 54, 3) := by decide +kernel
theorem dX11_begin_54 : decode cX11_begin 54 = .ok (.aload_n 0, 1) := by decide +kernel
theorem dX11_begin_55 : decode cX11_begin 55 = .ok (.getfield 30, 3) := by decide +kernel
theorem dX11_begin_58 : decode cX11_begin 58 = .ok (.getfield 77, 3) := by decide +kernel
theorem dX11_begin_61 : decode cX11_begin 61 = .ok (.aload_n 0, 1) := by decide +kernel
theorem dX11_begin_62 : decode cX11_begin 62 = .ok (.getfield 30, 3) := by decide +kernel
theorem dX11_begin_65 : decode cX11_begin 65 = .ok (.getfield 80, 3) := by decide +kernel
theorem dX11_begin_68 : decode cX11_begin 68 = .ok (.invokevirtual 83, 3) := by decide +kernel
theorem dX11_begin_71 : decode cX11_begin 71 = .ok (.return_, 1) := by decide +kernel
theorem dX11_feed_0 : decode cX11_feed 0 = .ok (.aload_n 0, 1) := by decide +kernel
theorem dX11_feed_1 : decode cX11_feed 1 = .ok (.getfield 13, 3) := by decide +kernel
theorem dX11_feed_4 : decode cX11_feed 4 = .ok (.sipush 1980, 3) := by decide +kernel
theorem dX11_feed_7 : decode cX11_feed 7 = .ok (.if_icmp .le 5, 3) := by decide +kernel
theorem dX11_feed_10 : decode cX11_feed 10 = .ok (.iconst (-1), 1) := by decide +kernel
theorem dX11_feed_11 : decode cX11_feed 11 = .ok (.ireturn, 1) := by decide +kernel
theorem dX11_feed_12 : decode cX11_feed 12 = .ok (.aload_n 0, 1) := by decide +kernel
theorem dX11_feed_13 : decode cX11_feed 13 = .ok (.iload_n 1, 1) := by decide +kernel
theorem dX11_feed_14 : decode cX11_feed 14 = .ok (.invokevirtual 87, 3) := by decide +kernel
theorem dX11_feed_17 : decode cX11_feed 17 = .ok (.aload_n 0, 1) := by decide +kernel
theorem dX11_feed_18 : decode cX11_feed 18 = .ok (.iload_n 2, 1) := by decide +kernel
theorem dX11_feed_19 : decode cX11_feed 19 = .ok (.invokevirtual 87, 3) := by decide +kernel
theorem dX11_feed_22 : decode cX11_feed 22 = .ok (.aload_n 0, 1) := by decide +kernel
theorem dX11_feed_23 : decode cX11_feed 23 = .ok (.iload_n 3, 1) := by decide +kernel
theorem dX11_feed_24 : decode cX11_feed 24 = .ok (.invokevirtual 87, 3) := by decide +kernel
theorem dX11_feed_27 : decode cX11_feed 27 = .ok (.aload_n 0, 1) := by decide +kernel
theorem dX11_feed_28 : decode cX11_feed 28 = .ok (.iload 4, 2) := by decide +kernel
theorem dX11_feed_30 : decode cX11_feed 30 = .ok (.invokevirtual 87, 3) := by decide +kernel
theorem dX11_feed_33 : decode cX11_feed 33 = .ok (.aload_n 0, 1) := by decide +kernel
theorem dX11_feed_34 : decode cX11_feed 34 = .ok (.iload 5, 2) := by decide +kernel
theorem dX11_feed_36 : decode cX11_feed 36 = .ok (.invokevirtual 87, 3) := by decide +kernel
theorem dX11_feed_39 : decode cX11_feed 39 = .ok (.aload_n 0, 1) := by decide +kernel
theorem dX11_feed_40 : decode cX11_feed 40 = .ok (.getfield 13, 3) := by decide +kernel
theorem dX11_feed_43 : decode cX11_feed 43 = .ok (.ireturn, 1) := by decide +kernel
theorem dX11_putFour_0 : decode cX11_putFour 0 = .ok (.bipush 24, 2) := by decide +kernel
theorem dX11_putFour_2 : decode cX11_putFour 2 = .ok (.istore_n 2, 1) := by decide +kernel
theorem dX11_putFour_3 : decode cX11_putFour 3 = .ok (.iload_n 2, 1) := by decide +kernel
theorem dX11_putFour_4 : decode cX11_putFour 4 = .ok (.ifCond .lt 42, 3) := by decide +kernel
theorem dX11_putFour_7 : decode cX11_putFour 7 = .ok (.aload_n 0, 1) := by decide +kernel
theorem dX11_putFour_8 : decode cX11_putFour 8 = .ok (.getfield 13, 3) := by decide +kernel
theorem dX11_putFour_11 : decode cX11_putFour 11 = .ok (.sipush 2000, 3) := by decide +kernel
theorem dX11_putFour_14 : decode cX11_putFour 14 = .ok (.if_icmp .ge 32, 3) := by decide +kernel
theorem dX11_putFour_17 : decode cX11_putFour 17 = .ok (.aload_n 0, 1) := by decide +kernel
theorem dX11_putFour_18 : decode cX11_putFour 18 = .ok (.getfield 9, 3) := by decide +kernel
theorem dX11_putFour_21 : decode cX11_putFour 21 = .ok (.aload_n 0, 1) := by decide +kernel
theorem dX11_putFour_22 : decode cX11_putFour 22 = .ok (.getfield 13, 3) := by decide +kernel
theorem dX11_putFour_25 : decode cX11_putFour 25 = .ok (.iload_n 1, 1) := by decide +kernel
theorem dX11_putFour_26 : decode cX11_putFour 26 = .ok (.iload_n 2, 1) := by decide +kernel
theorem dX11_putFour_27 : decode cX11_putFour 27 = .ok (.iushr, 1) := by decide +kernel
theorem dX11_putFour_28 : decode cX11_putFour 28 = .ok (.i2b, 1) := by decide +kernel
theorem dX11_putFour_29 : decode cX11_putFour 29 = .ok (.bastore, 1) := by decide +kernel
theorem dX11_putFour_30 : decode cX11_putFour 30 = .ok (.aload_n 0, 1) := by decide +kernel
theorem dX11_putFour_31 : decode cX11_putFour 31 = .ok (.dup, 1) := by decide +kernel
theorem dX11_putFour_32 : decode cX11_putFour 32 = .ok (.getfield 13, 3) := by decide +kernel
theorem dX11_putFour_35 : decode cX11_putFour 35 = .ok (.iconst 1, 1) := by decide +kernel
theorem dX11_putFour_36 : decode cX11_putFour 36 = .ok (.iadd, 1) := by decide +kernel
theorem dX11_putFour_37 : decode cX11_putFour 37 = .ok (.putfield 13, 3) := by decide +kernel
theorem dX11_putFour_40 : decode cX11_putFour 40 = .ok (.iinc 2 (-8), 3) := by decide +kernel
theorem dX11_putFour_43 : decode cX11_putFour 43 = .ok (.goto (-40), 3) := by decide +kernel
theorem dX11_putFour_46 : decode cX11_putFour 46 = .ok (.return_, 1) := by decide +kernel
theorem dX11_back_0 : decode cX11_back 0 = .ok (.iload_n 1, 1) := by decide +kernel
theorem dX11_back_1 : decode cX11_back 1 = .ok (.ifCond .lt 11, 3) := by decide +kernel
theorem dX11_back_4 : decode cX11_back 4 = .ok (.iload_n 1, 1) := by decide +kernel
theorem dX11_back_5 : decode cX11_back 5 = .ok (.aload_n 0, 1) := by decide +kernel
theorem dX11_back_6 : decode cX11_back 6 = .ok (.getfield 13, 3) := by decide +kernel
theorem dX11_back_9 : decode cX11_back 9 = .ok (.if_icmp .le 5, 3) := by decide +kernel
theorem dX11_back_12 : decode cX11_back 12 = .ok (.iconst (-1), 1) := by decide +kernel
theorem dX11_back_13 : decode cX11_back 13 = .ok (.ireturn, 1) := by decide +kernel
theorem dX11_back_14 : decode cX11_back 14 = .ok (.aload_n 0, 1) := by decide +kernel
theorem dX11_back_15 : decode cX11_back 15 = .ok (.dup, 1) := by decide +kernel
theorem dX11_back_16 : decode cX11_back 16 = .ok (.getfield 13, 3) := by decide +kernel
theorem dX11_back_19 : decode cX11_back 19 = .ok (.iload_n 1, 1) := by decide +kernel
theorem dX11_back_20 : decode cX11_back 20 = .ok (.isub, 1) := by decide +kernel
theorem dX11_back_21 : decode cX11_back 21 = .ok (.putfield 13, 3) := by decide +kernel
theorem dX11_back_24 : decode cX11_back 24 = .ok (.aload_n 0, 1) := by decide +kernel
theorem dX11_back_25 : decode cX11_back 25 = .ok (.getfield 13, 3) := by decide +kernel
theorem dX11_back_28 : decode cX11_back 28 = .ok (.ireturn, 1) := by decide +kernel
theorem dX11_read_0 : decode cX11_read 0 = .ok (.aload_n 0, 1) := by decide +kernel
theorem dX11_read_1 : decode cX11_read 1 = .ok (.getfield 23, 3) := by decide +kernel
theorem dX11_read_4 : decode cX11_read 4 = .ok (.aload_n 0, 1) := by decide +kernel
theorem dX11_read_5 : decode cX11_read 5 = .ok (.getfield 9, 3) := by decide +kernel
theorem dX11_read_8 : decode cX11_read 8 = .ok (.aload_n 0, 1) := by decide +kernel
theorem dX11_read_9 : decode cX11_read 9 = .ok (.getfield 13, 3) := by decide +kernel
theorem dX11_read_12 : decode cX11_read 12 = .ok (.invokevirtual 91, 3) := by decide +kernel
theorem dX11_read_15 : decode cX11_read 15 = .ok (.istore_n 1, 1) := by decide +kernel
theorem dX11_read_16 : decode cX11_read 16 = .ok (.aload_n 0, 1) := by decide +kernel
theorem dX11_read_17 : decode cX11_read 17 = .ok (.iconst 0, 1) := by decide +kernel
theorem dX11_read_18 : decode cX11_read 18 = .ok (.putfield 13, 3) := by decide +kernel
theorem dX11_read_21 : decode cX11_read 21 = .ok (.aload_n 0, 1) := by decide +kernel
theorem dX11_read_22 : decode cX11_read 22 = .ok (.iload_n 1, 1) := by decide +kernel
theorem dX11_read_23 : decode cX11_read 23 = .ok (.ifCond .ne 7, 3) := by decide +kernel
theorem dX11_read_26 : decode cX11_read 26 = .ok (.iconst (-1), 1) := by decide +kernel
theorem dX11_read_27 : decode cX11_read 27 = .ok (.goto 10, 3) := by decide +kernel
theorem dX11_read_30 : decode cX11_read 30 = .ok (.aload_n 0, 1) := by decide +kernel
theorem dX11_read_31 : decode cX11_read 31 = .ok (.getfield 23, 3) := by decide +kernel
theorem dX11_read_34 : decode cX11_read 34 = .ok (.getfield 95, 3) := by decide +kernel
theorem dX11_read_37 : decode cX11_read 37 = .ok (.putfield 17, 3) := by decide +kernel
theorem dX11_read_40 : decode cX11_read 40 = .ok (.iload_n 1, 1) := by decide +kernel
theorem dX11_read_41 : decode cX11_read 41 = .ok (.ifCond .ne 22, 3) := by decide +kernel
theorem dX11_read_44 : decode cX11_read 44 = .ok (.aload_n 0, 1) := by decide +kernel
theorem dX11_read_45 : decode cX11_read 45 = .ok (.aload_n 0, 1) := by decide +kernel
theorem dX11_read_46 : decode cX11_read 46 = .ok (.getfield 23, 3) := by decide +kernel
theorem dX11_read_49 : decode cX11_read 49 = .ok (.aload_n 0, 1) := by decide +kernel
theorem dX11_read_50 : decode cX11_read 50 = .ok (.getfield 30, 3) := by decide +kernel
theorem dX11_read_53 : decode cX11_read 53 = .ok (.invokevirtual 96, 3) := by decide +kernel
theorem dX11_read_56 : decode cX11_read 56 = .ok (.putfield 30, 3) := by decide +kernel
theorem dX11_read_59 : decode cX11_read 59 = .ok (.aload_n 0, 1) := by decide +kernel
theorem dX11_read_60 : decode cX11_read 60 = .ok (.invokevirtual 67, 3) := by decide +kernel
theorem dX11_read_63 : decode cX11_read 63 = .ok (.iload_n 1, 1) := by decide +kernel
theorem dX11_read_64 : decode cX11_read 64 = .ok (.ireturn, 1) := by decide +kernel
theorem dX11_place_0 : decode cX11_place 0 = .ok (.aload_n 0, 1) := by decide +kernel
theorem dX11_place_1 : decode cX11_place 1 = .ok (.getfield 17, 3) := by decide +kernel
theorem dX11_place_4 : decode cX11_place 4 = .ok (.ireturn, 1) := by decide +kernel
theorem dX11_within_0 : decode cX11_within 0 = .ok (.lload_n 0, 1) := by decide +kernel
theorem dX11_within_1 : decode cX11_within 1 = .ok (.lload_n 2, 1) := by decide +kernel
theorem dX11_within_2 : decode cX11_within 2 = .ok (.lcmp, 1) := by decide +kernel
theorem dX11_within_3 : decode cX11_within 3 = .ok (.ifCond .lt 14, 3) := by decide +kernel
theorem dX11_within_6 : decode cX11_within 6 = .ok (.lload_n 0, 1) := by decide +kernel
theorem dX11_within_7 : decode cX11_within 7 = .ok (.lload 4, 2) := by decide +kernel
theorem dX11_within_9 : decode cX11_within 9 = .ok (.lcmp, 1) := by decide +kernel
theorem dX11_within_10 : decode cX11_within 10 = .ok (.ifCond .gt 7, 3) := by decide +kernel
theorem dX11_within_13 : decode cX11_within 13 = .ok (.iconst 1, 1) := by decide +kernel
theorem dX11_within_14 : decode cX11_within 14 = .ok (.goto 4, 3) := by decide +kernel
theorem dX11_within_17 : decode cX11_within 17 = .ok (.iconst 0, 1) := by decide +kernel
theorem dX11_within_18 : decode cX11_within 18 = .ok (.ireturn, 1) := by decide +kernel
theorem dX11_isRow_0 : decode cX11_isRow 0 = .ok (.iload_n 1, 1) := by decide +kernel
theorem dX11_isRow_1 : decode cX11_isRow 1 = .ok (.ifCond .lt 18, 3) := by decide +kernel
theorem dX11_isRow_4 : decode cX11_isRow 4 = .ok (.iload_n 1, 1) := by decide +kernel
theorem dX11_isRow_5 : decode cX11_isRow 5 = .ok (.aload_n 0, 1) := by decide +kernel
theorem dX11_isRow_6 : decode cX11_isRow 6 = .ok (.getfield 30, 3) := by decide +kernel
theorem dX11_isRow_9 : decode cX11_isRow 9 = .ok (.getfield 100, 3) := by decide +kernel
theorem dX11_isRow_12 : decode cX11_isRow 12 = .ok (.if_icmp .ge 7, 3) := by decide +kernel
theorem dX11_isRow_15 : decode cX11_isRow 15 = .ok (.iconst 1, 1) := by decide +kernel
theorem dX11_isRow_16 : decode cX11_isRow 16 = .ok (.goto 4, 3) := by decide +kernel
theorem dX11_isRow_19 : decode cX11_isRow 19 = .ok (.iconst 0, 1) := by decide +kernel
theorem dX11_isRow_20 : decode cX11_isRow 20 = .ok (.ireturn, 1) := by decide +kernel
theorem dX11_areTwoRows_0 : decode cX11_areTwoRows 0 = .ok (.aload_n 0, 1) := by decide +kernel
theorem dX11_areTwoRows_1 : decode cX11_areTwoRows 1 = .ok (.iload_n 1, 1) := by decide +kernel
theorem dX11_areTwoRows_2 : decode cX11_areTwoRows 2 = .ok (.invokevirtual 103, 3) := by decide +kernel
theorem dX11_areTwoRows_5 : decode cX11_areTwoRows 5 = .ok (.ifCond .eq 20, 3) := by decide +kernel
theorem dX11_areTwoRows_8 : decode cX11_areTwoRows 8 = .ok (.aload_n 0, 1) := by decide +kernel
theorem dX11_areTwoRows_9 : decode cX11_areTwoRows 9 = .ok (.iload_n 2, 1) := by decide +kernel
theorem dX11_areTwoRows_10 : decode cX11_areTwoRows 10 = .ok (.invokevirtual 103, 3) := by decide +kernel
theorem dX11_areTwoRows_13 : decode cX11_areTwoRows 13 = .ok (.ifCond .eq 12, 3) := by decide +kernel
theorem dX11_areTwoRows_16 : decode cX11_areTwoRows 16 = .ok (.iload_n 1, 1) := by decide +kernel
theorem dX11_areTwoRows_17 : decode cX11_areTwoRows 17 = .ok (.iload_n 2, 1) := by decide +kernel
theorem dX11_areTwoRows_18 : decode cX11_areTwoRows 18 = .ok (.if_icmp .eq 7, 3) := by decide +kernel
theorem dX11_areTwoRows_21 : decode cX11_areTwoRows 21 = .ok (.iconst 1, 1) := by decide +kernel
theorem dX11_areTwoRows_22 : decode cX11_areTwoRows 22 = .ok (.goto 4, 3) := by decide +kernel
theorem dX11_areTwoRows_25 : decode cX11_areTwoRows 25 = .ok (.iconst 0, 1) := by decide +kernel
theorem dX11_areTwoRows_26 : decode cX11_areTwoRows 26 = .ok (.ireturn, 1) := by decide +kernel
theorem dX11_row_0 : decode cX11_row 0 = .ok (.aload_n 0, 1) := by decide +kernel
theorem dX11_row_1 : decode cX11_row 1 = .ok (.iload_n 1, 1) := by decide +kernel
theorem dX11_row_2 : decode cX11_row 2 = .ok (.invokevirtual 103, 3) := by decide +kernel
theorem dX11_row_5 : decode cX11_row 5 = .ok (.ifCond .ne 7, 3) := by decide +kernel
theorem dX11_row_8 : decode cX11_row 8 = .ok (.sipush (-1000), 3) := by decide +kernel
theorem dX11_row_11 : decode cX11_row 11 = .ok (.ireturn, 1) := by decide +kernel
theorem dX11_row_12 : decode cX11_row 12 = .ok (.aload_n 0, 1) := by decide +kernel
theorem dX11_row_13 : decode cX11_row 13 = .ok (.getfield 30, 3) := by decide +kernel
theorem dX11_row_16 : decode cX11_row 16 = .ok (.getfield 107, 3) := by decide +kernel
theorem dX11_row_19 : decode cX11_row 19 = .ok (.iload_n 1, 1) := by decide +kernel
theorem dX11_row_20 : decode cX11_row 20 = .ok (.iaload, 1) := by decide +kernel
theorem dX11_row_21 : decode cX11_row 21 = .ok (.istore_n 3, 1) := by decide +kernel
theorem dX11_row_22 : decode cX11_row 22 = .ok (.iload_n 2, 1) := by decide +kernel
theorem dX11_row_23 : decode cX11_row 23 = .ok (.iconst (-1), 1) := by decide +kernel
theorem dX11_row_24 : decode cX11_row 24 = .ok (.if_icmp .ne 5, 3) := by decide +kernel
theorem dX11_row_27 : decode cX11_row 27 = .ok (.iload_n 3, 1) := by decide +kernel
theorem dX11_row_28 : decode cX11_row 28 = .ok (.ireturn, 1) := by decide +kernel
theorem dX11_row_29 : decode cX11_row 29 = .ok (.iload_n 2, 1) := by decide +kernel
theorem dX11_row_30 : decode cX11_row 30 = .ok (.ifCond .lt 20, 3) := by decide +kernel
theorem dX11_row_33 : decode cX11_row 33 = .ok (.iload_n 2, 1) := by decide +kernel
theorem dX11_row_34 : decode cX11_row 34 = .ok (.iload_n 3, 1) := by decide +kernel
theorem dX11_row_35 : decode cX11_row 35 = .ok (.if_icmp .ge 15, 3) := by decide +kernel
theorem dX11_row_38 : decode cX11_row 38 = .ok (.aload_n 0, 1) := by decide +kernel
theorem dX11_row_39 : decode cX11_row 39 = .ok (.getfield 30, 3) := by decide +kernel
theorem dX11_row_42 : decode cX11_row 42 = .ok (.iload_n 1, 1) := by decide +kernel
theorem dX11_row_43 : decode cX11_row 43 = .ok (.iload_n 2, 1) := by decide +kernel
theorem dX11_row_44 : decode cX11_row 44 = .ok (.invokevirtual 111, 3) := by decide +kernel
theorem dX11_row_47 : decode cX11_row 47 = .ok (.goto 6, 3) := by decide +kernel
theorem dX11_row_50 : decode cX11_row 50 = .ok (.sipush (-1000), 3) := by decide +kernel
theorem dX11_row_53 : decode cX11_row 53 = .ok (.ireturn, 1) := by decide +kernel
theorem dX11_comes_0 : decode cX11_comes 0 = .ok (.aload_n 0, 1) := by decide +kernel
theorem dX11_comes_1 : decode cX11_comes 1 = .ok (.iload_n 1, 1) := by decide +kernel
theorem dX11_comes_2 : decode cX11_comes 2 = .ok (.invokevirtual 103, 3) := by decide +kernel
theorem dX11_comes_5 : decode cX11_comes 5 = .ok (.ifCond .eq 17, 3) := by decide +kernel
theorem dX11_comes_8 : decode cX11_comes 8 = .ok (.iload_n 2, 1) := by decide +kernel
theorem dX11_comes_9 : decode cX11_comes 9 = .ok (.i2l, 1) := by decide +kernel
theorem dX11_comes_10 : decode cX11_comes 10 = .ok (.ldc2_w 115, 3) := by decide +kernel
theorem dX11_comes_13 : decode cX11_comes 13 = .ok (.ldc2_w 117, 3) := by decide +kernel
theorem dX11_comes_16 : decode cX11_comes 16 = .ok (.invokestatic 119, 3) := by decide +kernel
theorem dX11_comes_19 : decode cX11_comes 19 = .ok (.ifCond .ne 7, 3) := by decide +kernel
theorem dX11_comes_22 : decode cX11_comes 22 = .ok (.ldc2_w 123, 3) := by decide +kernel
theorem dX11_comes_25 : decode cX11_comes 25 = .ok (.lreturn, 1) := by decide +kernel
theorem dX11_comes_26 : decode cX11_comes 26 = .ok (.aload_n 0, 1) := by decide +kernel
theorem dX11_comes_27 : decode cX11_comes 27 = .ok (.getfield 30, 3) := by decide +kernel
theorem dX11_comes_30 : decode cX11_comes 30 = .ok (.iload_n 1, 1) := by decide +kernel
theorem dX11_comes_31 : decode cX11_comes 31 = .ok (.iload_n 2, 1) := by decide +kernel
theorem dX11_comes_32 : decode cX11_comes 32 = .ok (.i2l, 1) := by decide +kernel
theorem dX11_comes_33 : decode cX11_comes 33 = .ok (.invokevirtual 125, 3) := by decide +kernel
theorem dX11_comes_36 : decode cX11_comes 36 = .ok (.lreturn, 1) := by decide +kernel
theorem dX11_two_0 : decode cX11_two 0 = .ok (.aload_n 0, 1) := by decide +kernel
theorem dX11_two_1 : decode cX11_two 1 = .ok (.iload_n 1, 1) := by decide +kernel
theorem dX11_two_2 : decode cX11_two 2 = .ok (.invokevirtual 103, 3) := by decide +kernel
theorem dX11_two_5 : decode cX11_two 5 = .ok (.ifCond .eq 15, 3) := by decide +kernel
theorem dX11_two_8 : decode cX11_two 8 = .ok (.iload_n 2, 1) := by decide +kernel
theorem dX11_two_9 : decode cX11_two 9 = .ok (.i2l, 1) := by decide +kernel
theorem dX11_two_10 : decode cX11_two 10 = .ok (.lconst 0, 1) := by decide +kernel
theorem dX11_two_11 : decode cX11_two 11 = .ok (.ldc2_w 129, 3) := by decide +kernel
theorem dX11_two_14 : decode cX11_two 14 = .ok (.invokestatic 119, 3) := by decide +kernel
theorem dX11_two_17 : decode cX11_two 17 = .ok (.ifCond .ne 7, 3) := by decide +kernel
theorem dX11_two_20 : decode cX11_two 20 = .ok (.ldc2_w 131, 3) := by decide +kernel
theorem dX11_two_23 : decode cX11_two 23 = .ok (.lreturn, 1) := by decide +kernel
theorem dX11_two_24 : decode cX11_two 24 = .ok (.aload_n 0, 1) := by decide +kernel
theorem dX11_two_25 : decode cX11_two 25 = .ok (.getfield 30, 3) := by decide +kernel
theorem dX11_two_28 : decode cX11_two 28 = .ok (.iload_n 1, 1) := by decide +kernel
theorem dX11_two_29 : decode cX11_two 29 = .ok (.invokevirtual 133, 3) := by decide +kernel
theorem dX11_two_32 : decode cX11_two 32 = .ok (.ifCond .eq 7, 3) := by decide +kernel
theorem dX11_two_35 : decode cX11_two 35 = .ok (.ldc2_w 136, 3) := by decide +kernel
theorem dX11_two_38 : decode cX11_two 38 = .ok (.lreturn, 1) := by decide +kernel
theorem dX11_two_39 : decode cX11_two 39 = .ok (.aload_n 0, 1) := by decide +kernel
theorem dX11_two_40 : decode cX11_two 40 = .ok (.getfield 30, 3) := by decide +kernel
theorem dX11_two_43 : decode cX11_two 43 = .ok (.iload_n 1, 1) := by decide +kernel
theorem dX11_two_44 : decode cX11_two 44 = .ok (.lconst 1, 1) := by decide +kernel
theorem dX11_two_45 : decode cX11_two 45 = .ok (.invokevirtual 125, 3) := by decide +kernel
theorem dX11_two_48 : decode cX11_two 48 = .ok (.lstore_n 3, 1) := by decide +kernel
theorem dX11_two_49 : decode cX11_two 49 = .ok (.iload_n 2, 1) := by decide +kernel
theorem dX11_two_50 : decode cX11_two 50 = .ok (.tableswitch 44 0 2 #[26, 28, 32], 26) := by decide +kernel
theorem dX11_two_76 : decode cX11_two 76 = .ok (.lload_n 3, 1) := by decide +kernel
theorem dX11_two_77 : decode cX11_two 77 = .ok (.lreturn, 1) := by decide +kernel
theorem dX11_two_78 : decode cX11_two 78 = .ok (.lload_n 3, 1) := by decide +kernel
theorem dX11_two_79 : decode cX11_two 79 = .ok (.lconst 1, 1) := by decide +kernel
theorem dX11_two_80 : decode cX11_two 80 = .ok (.ladd, 1) := by decide +kernel
theorem dX11_two_81 : decode cX11_two 81 = .ok (.lreturn, 1) := by decide +kernel
theorem dX11_two_82 : decode cX11_two 82 = .ok (.aload_n 0, 1) := by decide +kernel
theorem dX11_two_83 : decode cX11_two 83 = .ok (.getfield 30, 3) := by decide +kernel
theorem dX11_two_86 : decode cX11_two 86 = .ok (.iload_n 1, 1) := by decide +kernel
theorem dX11_two_87 : decode cX11_two 87 = .ok (.lload_n 3, 1) := by decide +kernel
theorem dX11_two_88 : decode cX11_two 88 = .ok (.lconst 1, 1) := by decide +kernel
theorem dX11_two_89 : decode cX11_two 89 = .ok (.ladd, 1) := by decide +kernel
theorem dX11_two_90 : decode cX11_two 90 = .ok (.invokevirtual 125, 3) := by decide +kernel
theorem dX11_two_93 : decode cX11_two 93 = .ok (.lreturn, 1) := by decide +kernel
theorem dX11_two_94 : decode cX11_two 94 = .ok (.lconst 1, 1) := by decide +kernel
theorem dX11_two_95 : decode cX11_two 95 = .ok (.invokestatic 138, 3) := by decide +kernel
theorem dX11_two_98 : decode cX11_two 98 = .ok (.lload_n 3, 1) := by decide +kernel
theorem dX11_two_99 : decode cX11_two 99 = .ok (.lconst 1, 1) := by decide +kernel
theorem dX11_two_100 : decode cX11_two 100 = .ok (.ladd, 1) := by decide +kernel
theorem dX11_two_101 : decode cX11_two 101 = .ok (.invokestatic 138, 3) := by decide +kernel
theorem dX11_two_104 : decode cX11_two 104 = .ok (.iadd, 1) := by decide +kernel
theorem dX11_two_105 : decode cX11_two 105 = .ok (.i2l, 1) := by decide +kernel
theorem dX11_two_106 : decode cX11_two 106 = .ok (.lreturn, 1) := by decide +kernel
theorem dX11_figuresOf_0 : decode cX11_figuresOf 0 = .ok (.lload_n 0, 1) := by decide +kernel
theorem dX11_figuresOf_1 : decode cX11_figuresOf 1 = .ok (.lconst 0, 1) := by decide +kernel
theorem dX11_figuresOf_2 : decode cX11_figuresOf 2 = .ok (.lcmp, 1) := by decide +kernel
theorem dX11_figuresOf_3 : decode cX11_figuresOf 3 = .ok (.ifCond .ge 7, 3) := by decide +kernel
theorem dX11_figuresOf_6 : decode cX11_figuresOf 6 = .ok (.iconst 2, 1) := by decide +kernel
theorem dX11_figuresOf_7 : decode cX11_figuresOf 7 = .ok (.goto 4, 3) := by decide +kernel
theorem dX11_figuresOf_10 : decode cX11_figuresOf 10 = .ok (.iconst 1, 1) := by decide +kernel
theorem dX11_figuresOf_11 : decode cX11_figuresOf 11 = .ok (.istore_n 2, 1) := by decide +kernel
theorem dX11_figuresOf_12 : decode cX11_figuresOf 12 = .ok (.lload_n 0, 1) := by decide +kernel
theorem dX11_figuresOf_13 : decode cX11_figuresOf 13 = .ok (.invokestatic 142, 3) := by decide +kernel
theorem dX11_figuresOf_16 : decode cX11_figuresOf 16 = .ok (.ldc2_w 148, 3) := by decide +kernel
theorem dX11_figuresOf_19 : decode cX11_figuresOf 19 = .ok (.ldiv, 1) := by decide +kernel
theorem dX11_figuresOf_20 : decode cX11_figuresOf 20 = .ok (.lstore_n 3, 1) := by decide +kernel
theorem dX11_figuresOf_21 : decode cX11_figuresOf 21 = .ok (.lload_n 3, 1) := by decide +kernel
theorem dX11_figuresOf_22 : decode cX11_figuresOf 22 = .ok (.lconst 0, 1) := by decide +kernel
theorem dX11_figuresOf_23 : decode cX11_figuresOf 23 = .ok (.lcmp, 1) := by decide +kernel
theorem dX11_figuresOf_24 : decode cX11_figuresOf 24 = .ok (.ifCond .le 15, 3) := by decide +kernel
theorem dX11_figuresOf_27 : decode cX11_figuresOf 27 = .ok (.iinc 2 1, 3) := by decide +kernel
theorem dX11_figuresOf_30 : decode cX11_figuresOf 30 = .ok (.lload_n 3, 1) := by decide +kernel
theorem dX11_figuresOf_31 : decode cX11_figuresOf 31 = .ok (.ldc2_w 148, 3) := by decide +kernel
theorem dX11_figuresOf_34 : decode cX11_figuresOf 34 = .ok (.ldiv, 1) := by decide +kernel
theorem dX11_figuresOf_35 : decode cX11_figuresOf 35 = .ok (.lstore_n 3, 1) := by decide +kernel
theorem dX11_figuresOf_36 : decode cX11_figuresOf 36 = .ok (.goto (-15), 3) := by decide +kernel
theorem dX11_figuresOf_39 : decode cX11_figuresOf 39 = .ok (.iload_n 2, 1) := by decide +kernel
theorem dX11_figuresOf_40 : decode cX11_figuresOf 40 = .ok (.ireturn, 1) := by decide +kernel
theorem dX11_figure_0 : decode cX11_figure 0 = .ok (.lload_n 1, 1) := by decide +kernel
theorem dX11_figure_1 : decode cX11_figure 1 = .ok (.lconst 0, 1) := by decide +kernel
theorem dX11_figure_2 : decode cX11_figure 2 = .ok (.ldc2_w 150, 3) := by decide +kernel
theorem dX11_figure_5 : decode cX11_figure 5 = .ok (.invokestatic 119, 3) := by decide +kernel
theorem dX11_figure_8 : decode cX11_figure 8 = .ok (.ifCond .eq 30, 3) := by decide +kernel
theorem dX11_figure_11 : decode cX11_figure 11 = .ok (.iload_n 3, 1) := by decide +kernel
theorem dX11_figure_12 : decode cX11_figure 12 = .ok (.i2l, 1) := by decide +kernel
theorem dX11_figure_13 : decode cX11_figure 13 = .ok (.ldc2_w 152, 3) := by decide +kernel
theorem dX11_figure_16 : decode cX11_figure 16 = .ok (.ldc2_w 154, 3) := by decide +kernel
theorem dX11_figure_19 : decode cX11_figure 19 = .ok (.invokestatic 119, 3) := by decide +kernel
theorem dX11_figure_22 : decode cX11_figure 22 = .ok (.ifCond .eq 16, 3) := by decide +kernel
theorem dX11_figure_25 : decode cX11_figure 25 = .ok (.iload 4, 2) := by decide +kernel
theorem dX11_figure_27 : decode cX11_figure 27 = .ok (.i2l, 1) := by decide +kernel
theorem dX11_figure_28 : decode cX11_figure 28 = .ok (.lconst 0, 1) := by decide +kernel
theorem dX11_figure_29 : decode cX11_figure 29 = .ok (.ldc2_w 156, 3) := by decide +kernel
theorem dX11_figure_32 : decode cX11_figure 32 = .ok (.invokestatic 119, 3) := by decide +kernel
theorem dX11_figure_35 : decode cX11_figure 35 = .ok (.ifCond .ne 5, 3) := by decide +kernel
theorem dX11_figure_38 : decode cX11_figure 38 = .ok (.iconst (-1), 1) := by decide +kernel
theorem dX11_figure_39 : decode cX11_figure 39 = .ok (.ireturn, 1) := by decide +kernel
theorem dX11_figure_40 : decode cX11_figure 40 = .ok (.iconst 1, 1) := by decide +kernel
theorem dX11_figure_41 : decode cX11_figure 41 = .ok (.istore 5, 2) := by decide +kernel
theorem dX11_figure_43 : decode cX11_figure 43 = .ok (.iconst 0, 1) := by decide +kernel
theorem dX11_figure_44 : decode cX11_figure 44 = .ok (.istore 6, 2) := by decide +kernel
theorem dX11_figure_46 : decode cX11_figure 46 = .ok (.lload_n 1, 1) := by decide +kernel
theorem dX11_figure_47 : decode cX11_figure 47 = .ok (.lstore 7, 2) := by decide +kernel
theorem dX11_figure_49 : decode cX11_figure 49 = .ok (.iconst 0, 1) := by decide +kernel
theorem dX11_figure_50 : decode cX11_figure 50 = .ok (.istore 9, 2) := by decide +kernel
theorem dX11_figure_52 : decode cX11_figure 52 = .ok (.iload 9, 2) := by decide +kernel
theorem dX11_figure_54 : decode cX11_figure 54 = .ok (.bipush 6, 2) := by decide +kernel
theorem dX11_figure_56 : decode cX11_figure 56 = .ok (.if_icmp .ge 44, 3) := by decide +kernel
theorem dX11_figure_59 : decode cX11_figure 59 = .ok (.lload 7, 2) := by decide +kernel
theorem dX11_figure_61 : decode cX11_figure 61 = .ok (.lconst 0, 1) := by decide +kernel
theorem dX11_figure_62 : decode cX11_figure 62 = .ok (.lcmp, 1) := by decide +kernel
theorem dX11_figure_63 : decode cX11_figure 63 = .ok (.ifCond .le 9, 3) := by decide +kernel
theorem dX11_figure_66 : decode cX11_figure 66 = .ok (.iload 9, 2) := by decide +kernel
theorem dX11_figure_68 : decode cX11_figure 68 = .ok (.iconst 1, 1) := by decide +kernel
theorem dX11_figure_69 : decode cX11_figure 69 = .ok (.iadd, 1) := by decide +kernel
theorem dX11_figure_70 : decode cX11_figure 70 = .ok (.istore 5, 2) := by decide +kernel
theorem dX11_figure_72 : decode cX11_figure 72 = .ok (.iload 9, 2) := by decide +kernel
theorem dX11_figure_74 : decode cX11_figure 74 = .ok (.iload 4, 2) := by decide +kernel
theorem dX11_figure_76 : decode cX11_figure 76 = .ok (.if_icmp .ne 11, 3) := by decide +kernel
theorem dX11_figure_79 : decode cX11_figure 79 = .ok (.lload 7, 2) := by decide +kernel
theorem dX11_figure_81 : decode cX11_figure 81 = .ok (.iload_n 3, 1) := by decide +kernel
theorem dX11_figure_82 : decode cX11_figure 82 = .ok (.i2l, 1) := by decide +kernel
theorem dX11_figure_83 : decode cX11_figure 83 = .ok (.lrem, 1) := by decide +kernel
theorem dX11_figure_84 : decode cX11_figure 84 = .ok (.l2i, 1) := by decide +kernel
theorem dX11_figure_85 : decode cX11_figure 85 = .ok (.istore 6, 2) := by decide +kernel
theorem dX11_figure_87 : decode cX11_figure 87 = .ok (.lload 7, 2) := by decide +kernel
theorem dX11_figure_89 : decode cX11_figure 89 = .ok (.iload_n 3, 1) := by decide +kernel
theorem dX11_figure_90 : decode cX11_figure 90 = .ok (.i2l, 1) := by decide +kernel
theorem dX11_figure_91 : decode cX11_figure 91 = .ok (.ldiv, 1) := by decide +kernel
theorem dX11_figure_92 : decode cX11_figure 92 = .ok (.lstore 7, 2) := by decide +kernel
theorem dX11_figure_94 : decode cX11_figure 94 = .ok (.iinc 9 1, 3) := by decide +kernel
theorem dX11_figure_97 : decode cX11_figure 97 = .ok (.goto (-45), 3) := by decide +kernel
theorem dX11_figure_100 : decode cX11_figure 100 = .ok (.lload 7, 2) := by decide +kernel
theorem dX11_figure_102 : decode cX11_figure 102 = .ok (.lconst 0, 1) := by decide +kernel
theorem dX11_figure_103 : decode cX11_figure 103 = .ok (.lcmp, 1) := by decide +kernel
theorem dX11_figure_104 : decode cX11_figure 104 = .ok (.ifCond .le 6, 3) := by decide +kernel
theorem dX11_figure_107 : decode cX11_figure 107 = .ok (.bipush (-2), 2) := by decide +kernel
theorem dX11_figure_109 : decode cX11_figure 109 = .ok (.ireturn, 1) := by decide +kernel
theorem dX11_figure_110 : decode cX11_figure 110 = .ok (.iload 4, 2) := by decide +kernel
theorem dX11_figure_112 : decode cX11_figure 112 = .ok (.bipush 6, 2) := by decide +kernel
theorem dX11_figure_114 : decode cX11_figure 114 = .ok (.if_icmp .ne 8, 3) := by decide +kernel
theorem dX11_figure_117 : decode cX11_figure 117 = .ok (.iload 5, 2) := by decide +kernel
theorem dX11_figure_119 : decode cX11_figure 119 = .ok (.goto 5, 3) := by decide +kernel
theorem dX11_figure_122 : decode cX11_figure 122 = .ok (.iload 6, 2) := by decide +kernel
theorem dX11_figure_124 : decode cX11_figure 124 = .ok (.ireturn, 1) := by decide +kernel
theorem dX11_meets_0 : decode cX11_meets 0 = .ok (.aload_n 0, 1) := by decide +kernel
theorem dX11_meets_1 : decode cX11_meets 1 = .ok (.iload_n 1, 1) := by decide +kernel
theorem dX11_meets_2 : decode cX11_meets 2 = .ok (.iload_n 2, 1) := by decide +kernel
theorem dX11_meets_3 : decode cX11_meets 3 = .ok (.invokevirtual 158, 3) := by decide +kernel
theorem dX11_meets_6 : decode cX11_meets 6 = .ok (.ifCond .ne 5, 3) := by decide +kernel
theorem dX11_meets_9 : decode cX11_meets 9 = .ok (.iconst (-1), 1) := by decide +kernel
theorem dX11_meets_10 : decode cX11_meets 10 = .ok (.ireturn, 1) := by decide +kernel
theorem dX11_meets_11 : decode cX11_meets 11 = .ok (.iconst 0, 1) := by decide +kernel
theorem dX11_meets_12 : decode cX11_meets 12 = .ok (.istore_n 3, 1) := by decide +kernel
theorem dX11_meets_13 : decode cX11_meets 13 = .ok (.iload_n 3, 1) := by decide +kernel
theorem dX11_meets_14 : decode cX11_meets 14 = .ok (.sipush 999, 3) := by decide +kernel
theorem dX11_meets_17 : decode cX11_meets 17 = .ok (.if_icmp .gt 35, 3) := by decide +kernel
theorem dX11_meets_20 : decode cX11_meets 20 = .ok (.aload_n 0, 1) := by decide +kernel
theorem dX11_meets_21 : decode cX11_meets 21 = .ok (.getfield 30, 3) := by decide +kernel
theorem dX11_meets_24 : decode cX11_meets 24 = .ok (.iload_n 1, 1) := by decide +kernel
theorem dX11_meets_25 : decode cX11_meets 25 = .ok (.iload_n 3, 1) := by decide +kernel
theorem dX11_meets_26 : decode cX11_meets 26 = .ok (.i2l, 1) := by decide +kernel
theorem dX11_meets_27 : decode cX11_meets 27 = .ok (.invokevirtual 125, 3) := by decide +kernel
theorem dX11_meets_30 : decode cX11_meets 30 = .ok (.aload_n 0, 1) := by decide +kernel
theorem dX11_meets_31 : decode cX11_meets 31 = .ok (.getfield 30, 3) := by decide +kernel
theorem dX11_meets_34 : decode cX11_meets 34 = .ok (.iload_n 2, 1) := by decide +kernel
theorem dX11_meets_35 : decode cX11_meets 35 = .ok (.iload_n 3, 1) := by decide +kernel
theorem dX11_meets_36 : decode cX11_meets 36 = .ok (.i2l, 1) := by decide +kernel
theorem dX11_meets_37 : decode cX11_meets 37 = .ok (.invokevirtual 125, 3) := by decide +kernel
theorem dX11_meets_40 : decode cX11_meets 40 = .ok (.lcmp, 1) := by decide +kernel
theorem dX11_meets_41 : decode cX11_meets 41 = .ok (.ifCond .ne 5, 3) := by decide +kernel
theorem dX11_meets_44 : decode cX11_meets 44 = .ok (.iload_n 3, 1) := by decide +kernel
theorem dX11_meets_45 : decode cX11_meets 45 = .ok (.ireturn, 1) := by decide +kernel
theorem dX11_meets_46 : decode cX11_meets 46 = .ok (.iinc 3 1, 3) := by decide +kernel
theorem dX11_meets_49 : decode cX11_meets 49 = .ok (.goto (-36), 3) := by decide +kernel
theorem dX11_meets_52 : decode cX11_meets 52 = .ok (.bipush (-2), 2) := by decide +kernel
theorem dX11_meets_54 : decode cX11_meets 54 = .ok (.ireturn, 1) := by decide +kernel
theorem dX11_degree_0 : decode cX11_degree 0 = .ok (.aload_n 0, 1) := by decide +kernel
theorem dX11_degree_1 : decode cX11_degree 1 = .ok (.iload_n 1, 1) := by decide +kernel
theorem dX11_degree_2 : decode cX11_degree 2 = .ok (.invokevirtual 103, 3) := by decide +kernel
theorem dX11_degree_5 : decode cX11_degree 5 = .ok (.ifCond .ne 5, 3) := by decide +kernel
theorem dX11_degree_8 : decode cX11_degree 8 = .ok (.iconst (-1), 1) := by decide +kernel
theorem dX11_degree_9 : decode cX11_degree 9 = .ok (.ireturn, 1) := by decide +kernel
theorem dX11_degree_10 : decode cX11_degree 10 = .ok (.aload_n 0, 1) := by decide +kernel
theorem dX11_degree_11 : decode cX11_degree 11 = .ok (.getfield 30, 3) := by decide +kernel
theorem dX11_degree_14 : decode cX11_degree 14 = .ok (.getfield 107, 3) := by decide +kernel
theorem dX11_degree_17 : decode cX11_degree 17 = .ok (.iload_n 1, 1) := by decide +kernel
theorem dX11_degree_18 : decode cX11_degree 18 = .ok (.iaload, 1) := by decide +kernel
theorem dX11_degree_19 : decode cX11_degree 19 = .ok (.iconst 1, 1) := by decide +kernel
theorem dX11_degree_20 : decode cX11_degree 20 = .ok (.isub, 1) := by decide +kernel
theorem dX11_degree_21 : decode cX11_degree 21 = .ok (.istore_n 2, 1) := by decide +kernel
theorem dX11_degree_22 : decode cX11_degree 22 = .ok (.iload_n 2, 1) := by decide +kernel
theorem dX11_degree_23 : decode cX11_degree 23 = .ok (.ifCond .lt 23, 3) := by decide +kernel
theorem dX11_degree_26 : decode cX11_degree 26 = .ok (.aload_n 0, 1) := by decide +kernel
theorem dX11_degree_27 : decode cX11_degree 27 = .ok (.getfield 30, 3) := by decide +kernel
theorem dX11_degree_30 : decode cX11_degree 30 = .ok (.iload_n 1, 1) := by decide +kernel
theorem dX11_degree_31 : decode cX11_degree 31 = .ok (.iload_n 2, 1) := by decide +kernel
theorem dX11_degree_32 : decode cX11_degree 32 = .ok (.invokevirtual 111, 3) := by decide +kernel
theorem dX11_degree_35 : decode cX11_degree 35 = .ok (.ifCond .eq 5, 3) := by decide +kernel
theorem dX11_degree_38 : decode cX11_degree 38 = .ok (.iload_n 2, 1) := by decide +kernel
theorem dX11_degree_39 : decode cX11_degree 39 = .ok (.ireturn, 1) := by decide +kernel
theorem dX11_degree_40 : decode cX11_degree 40 = .ok (.iinc 2 (-1), 3) := by decide +kernel
theorem dX11_degree_43 : decode cX11_degree 43 = .ok (.goto (-21), 3) := by decide +kernel
theorem dX11_degree_46 : decode cX11_degree 46 = .ok (.bipush (-2), 2) := by decide +kernel
theorem dX11_degree_48 : decode cX11_degree 48 = .ok (.ireturn, 1) := by decide +kernel
theorem dX11_rest_0 : decode cX11_rest 0 = .ok (.aload_n 0, 1) := by decide +kernel
theorem dX11_rest_1 : decode cX11_rest 1 = .ok (.iload_n 1, 1) := by decide +kernel
theorem dX11_rest_2 : decode cX11_rest 2 = .ok (.invokevirtual 103, 3) := by decide +kernel
theorem dX11_rest_5 : decode cX11_rest 5 = .ok (.ifCond .eq 15, 3) := by decide +kernel
theorem dX11_rest_8 : decode cX11_rest 8 = .ok (.iload_n 2, 1) := by decide +kernel
theorem dX11_rest_9 : decode cX11_rest 9 = .ok (.i2l, 1) := by decide +kernel
theorem dX11_rest_10 : decode cX11_rest 10 = .ok (.lconst 0, 1) := by decide +kernel
theorem dX11_rest_11 : decode cX11_rest 11 = .ok (.ldc2_w 162, 3) := by decide +kernel
theorem dX11_rest_14 : decode cX11_rest 14 = .ok (.invokestatic 119, 3) := by decide +kernel
theorem dX11_rest_17 : decode cX11_rest 17 = .ok (.ifCond .ne 5, 3) := by decide +kernel
theorem dX11_rest_20 : decode cX11_rest 20 = .ok (.iconst (-1), 1) := by decide +kernel
theorem dX11_rest_21 : decode cX11_rest 21 = .ok (.ireturn, 1) := by decide +kernel
theorem dX11_rest_22 : decode cX11_rest 22 = .ok (.aload_n 0, 1) := by decide +kernel
theorem dX11_rest_23 : decode cX11_rest 23 = .ok (.getfield 30, 3) := by decide +kernel
theorem dX11_rest_26 : decode cX11_rest 26 = .ok (.getfield 164, 3) := by decide +kernel
theorem dX11_rest_29 : decode cX11_rest 29 = .ok (.aload_n 0, 1) := by decide +kernel
theorem dX11_rest_30 : decode cX11_rest 30 = .ok (.getfield 30, 3) := by decide +kernel
theorem dX11_rest_33 : decode cX11_rest 33 = .ok (.iload_n 1, 1) := by decide +kernel
theorem dX11_rest_34 : decode cX11_rest 34 = .ok (.iload_n 2, 1) := by decide +kernel
theorem dX11_rest_35 : decode cX11_rest 35 = .ok (.i2l, 1) := by decide +kernel
theorem dX11_rest_36 : decode cX11_rest 36 = .ok (.invokevirtual 125, 3) := by decide +kernel
theorem dX11_rest_39 : decode cX11_rest 39 = .ok (.invokevirtual 168, 3) := by decide +kernel
theorem dX11_rest_42 : decode cX11_rest 42 = .ok (.ireturn, 1) := by decide +kernel
theorem dX11_alike_0 : decode cX11_alike 0 = .ok (.aload_n 0, 1) := by decide +kernel
theorem dX11_alike_1 : decode cX11_alike 1 = .ok (.iload_n 1, 1) := by decide +kernel
theorem dX11_alike_2 : decode cX11_alike 2 = .ok (.iload_n 2, 1) := by decide +kernel
theorem dX11_alike_3 : decode cX11_alike 3 = .ok (.invokevirtual 158, 3) := by decide +kernel
theorem dX11_alike_6 : decode cX11_alike 6 = .ok (.ifCond .ne 5, 3) := by decide +kernel
theorem dX11_alike_9 : decode cX11_alike 9 = .ok (.iconst (-1), 1) := by decide +kernel
theorem dX11_alike_10 : decode cX11_alike 10 = .ok (.ireturn, 1) := by decide +kernel
theorem dX11_alike_11 : decode cX11_alike 11 = .ok (.iconst 0, 1) := by decide +kernel
theorem dX11_alike_12 : decode cX11_alike 12 = .ok (.istore_n 3, 1) := by decide +kernel
theorem dX11_alike_13 : decode cX11_alike 13 = .ok (.iconst 0, 1) := by decide +kernel
theorem dX11_alike_14 : decode cX11_alike 14 = .ok (.istore 4, 2) := by decide +kernel
theorem dX11_alike_16 : decode cX11_alike 16 = .ok (.iload 4, 2) := by decide +kernel
theorem dX11_alike_18 : decode cX11_alike 18 = .ok (.aload_n 0, 1) := by decide +kernel
theorem dX11_alike_19 : decode cX11_alike 19 = .ok (.getfield 30, 3) := by decide +kernel
theorem dX11_alike_22 : decode cX11_alike 22 = .ok (.getfield 164, 3) := by decide +kernel
theorem dX11_alike_25 : decode cX11_alike 25 = .ok (.getfield 173, 3) := by decide +kernel
theorem dX11_alike_28 : decode cX11_alike 28 = .ok (.if_icmp .ge 48, 3) := by decide +kernel
theorem dX11_alike_31 : decode cX11_alike 31 = .ok (.aload_n 0, 1) := by decide +kernel
theorem dX11_alike_32 : decode cX11_alike 32 = .ok (.getfield 30, 3) := by decide +kernel
theorem dX11_alike_35 : decode cX11_alike 35 = .ok (.getfield 164, 3) := by decide +kernel
theorem dX11_alike_38 : decode cX11_alike 38 = .ok (.aload_n 0, 1) := by decide +kernel
theorem dX11_alike_39 : decode cX11_alike 39 = .ok (.getfield 30, 3) := by decide +kernel
theorem dX11_alike_42 : decode cX11_alike 42 = .ok (.iload_n 1, 1) := by decide +kernel
theorem dX11_alike_43 : decode cX11_alike 43 = .ok (.iload 4, 2) := by decide +kernel
theorem dX11_alike_45 : decode cX11_alike 45 = .ok (.i2l, 1) := by decide +kernel
theorem dX11_alike_46 : decode cX11_alike 46 = .ok (.invokevirtual 125, 3) := by decide +kernel
theorem dX11_alike_49 : decode cX11_alike 49 = .ok (.aload_n 0, 1) := by decide +kernel
theorem dX11_alike_50 : decode cX11_alike 50 = .ok (.getfield 30, 3) := by decide +kernel
theorem dX11_alike_53 : decode cX11_alike 53 = .ok (.iload_n 2, 1) := by decide +kernel
theorem dX11_alike_54 : decode cX11_alike 54 = .ok (.iload 4, 2) := by decide +kernel
theorem dX11_alike_56 : decode cX11_alike 56 = .ok (.i2l, 1) := by decide +kernel
theorem dX11_alike_57 : decode cX11_alike 57 = .ok (.invokevirtual 125, 3) := by decide +kernel
theorem dX11_alike_60 : decode cX11_alike 60 = .ok (.lsub, 1) := by decide +kernel
theorem dX11_alike_61 : decode cX11_alike 61 = .ok (.invokevirtual 168, 3) := by decide +kernel
theorem dX11_alike_64 : decode cX11_alike 64 = .ok (.ifCond .ne 6, 3) := by decide +kernel
theorem dX11_alike_67 : decode cX11_alike 67 = .ok (.iinc 3 1, 3) := by decide +kernel
theorem dX11_alike_70 : decode cX11_alike 70 = .ok (.iinc 4 1, 3) := by decide +kernel
theorem dX11_alike_73 : decode cX11_alike 73 = .ok (.goto (-57), 3) := by decide +kernel
theorem dX11_alike_76 : decode cX11_alike 76 = .ok (.iload_n 3, 1) := by decide +kernel
theorem dX11_alike_77 : decode cX11_alike 77 = .ok (.ireturn, 1) := by decide +kernel
theorem dX11_isSumPlace_0 : decode cX11_isSumPlace 0 = .ok (.aload_n 0, 1) := by decide +kernel
theorem dX11_isSumPlace_1 : decode cX11_isSumPlace 1 = .ok (.iload_n 1, 1) := by decide +kernel
theorem dX11_isSumPlace_2 : decode cX11_isSumPlace 2 = .ok (.invokevirtual 103, 3) := by decide +kernel
theorem dX11_isSumPlace_5 : decode cX11_isSumPlace 5 = .ok (.ifCond .eq 27, 3) := by decide +kernel
theorem dX11_isSumPlace_8 : decode cX11_isSumPlace 8 = .ok (.aload_n 0, 1) := by decide +kernel
theorem dX11_isSumPlace_9 : decode cX11_isSumPlace 9 = .ok (.iload_n 2, 1) := by decide +kernel
theorem dX11_isSumPlace_10 : decode cX11_isSumPlace 10 = .ok (.invokevirtual 103, 3) := by decide +kernel
theorem dX11_isSumPlace_13 : decode cX11_isSumPlace 13 = .ok (.ifCond .eq 19, 3) := by decide +kernel
theorem dX11_isSumPlace_16 : decode cX11_isSumPlace 16 = .ok (.iload_n 3, 1) := by decide +kernel
theorem dX11_isSumPlace_17 : decode cX11_isSumPlace 17 = .ok (.i2l, 1) := by decide +kernel
theorem dX11_isSumPlace_18 : decode cX11_isSumPlace 18 = .ok (.lconst 0, 1) := by decide +kernel
theorem dX11_isSumPlace_19 : decode cX11_isSumPlace 19 = .ok (.ldc2_w 148, 3) := by decide +kernel
theorem dX11_isSumPlace_22 : decode cX11_isSumPlace 22 = .ok (.invokestatic 119, 3) := by decide +kernel
theorem dX11_isSumPlace_25 : decode cX11_isSumPlace 25 = .ok (.ifCond .eq 7, 3) := by decide +kernel
theorem dX11_isSumPlace_28 : decode cX11_isSumPlace 28 = .ok (.iconst 1, 1) := by decide +kernel
theorem dX11_isSumPlace_29 : decode cX11_isSumPlace 29 = .ok (.goto 4, 3) := by decide +kernel
theorem dX11_isSumPlace_32 : decode cX11_isSumPlace 32 = .ok (.iconst 0, 1) := by decide +kernel
theorem dX11_isSumPlace_33 : decode cX11_isSumPlace 33 = .ok (.ireturn, 1) := by decide +kernel
theorem dX11_plus_0 : decode cX11_plus 0 = .ok (.aload_n 0, 1) := by decide +kernel
theorem dX11_plus_1 : decode cX11_plus 1 = .ok (.iload_n 1, 1) := by decide +kernel
theorem dX11_plus_2 : decode cX11_plus 2 = .ok (.iload_n 2, 1) := by decide +kernel
theorem dX11_plus_3 : decode cX11_plus 3 = .ok (.iload_n 3, 1) := by decide +kernel
theorem dX11_plus_4 : decode cX11_plus 4 = .ok (.invokevirtual 176, 3) := by decide +kernel
theorem dX11_plus_7 : decode cX11_plus 7 = .ok (.ifCond .ne 6, 3) := by decide +kernel
theorem dX11_plus_10 : decode cX11_plus 10 = .ok (.ldc 180, 2) := by decide +kernel
theorem dX11_plus_12 : decode cX11_plus 12 = .ok (.ireturn, 1) := by decide +kernel
theorem dX11_plus_13 : decode cX11_plus 13 = .ok (.aload_n 0, 1) := by decide +kernel
theorem dX11_plus_14 : decode cX11_plus 14 = .ok (.getfield 30, 3) := by decide +kernel
theorem dX11_plus_17 : decode cX11_plus 17 = .ok (.iload_n 1, 1) := by decide +kernel
theorem dX11_plus_18 : decode cX11_plus 18 = .ok (.iload_n 3, 1) := by decide +kernel
theorem dX11_plus_19 : decode cX11_plus 19 = .ok (.invokevirtual 111, 3) := by decide +kernel
theorem dX11_plus_22 : decode cX11_plus 22 = .ok (.aload_n 0, 1) := by decide +kernel
theorem dX11_plus_23 : decode cX11_plus 23 = .ok (.getfield 30, 3) := by decide +kernel
theorem dX11_plus_26 : decode cX11_plus 26 = .ok (.iload_n 2, 1) := by decide +kernel
theorem dX11_plus_27 : decode cX11_plus 27 = .ok (.iload_n 3, 1) := by decide +kernel
theorem dX11_plus_28 : decode cX11_plus 28 = .ok (.invokevirtual 111, 3) := by decide +kernel
theorem dX11_plus_31 : decode cX11_plus 31 = .ok (.iadd, 1) := by decide +kernel
theorem dX11_plus_32 : decode cX11_plus 32 = .ok (.ireturn, 1) := by decide +kernel
theorem dX11_times_0 : decode cX11_times 0 = .ok (.aload_n 0, 1) := by decide +kernel
theorem dX11_times_1 : decode cX11_times 1 = .ok (.iload_n 1, 1) := by decide +kernel
theorem dX11_times_2 : decode cX11_times 2 = .ok (.iload_n 2, 1) := by decide +kernel
theorem dX11_times_3 : decode cX11_times 3 = .ok (.iload_n 3, 1) := by decide +kernel
theorem dX11_times_4 : decode cX11_times 4 = .ok (.invokevirtual 176, 3) := by decide +kernel
theorem dX11_times_7 : decode cX11_times 7 = .ok (.ifCond .ne 6, 3) := by decide +kernel
theorem dX11_times_10 : decode cX11_times 10 = .ok (.ldc 180, 2) := by decide +kernel
theorem dX11_times_12 : decode cX11_times 12 = .ok (.ireturn, 1) := by decide +kernel
theorem dX11_times_13 : decode cX11_times 13 = .ok (.iconst 0, 1) := by decide +kernel
theorem dX11_times_14 : decode cX11_times 14 = .ok (.istore 4, 2) := by decide +kernel
theorem dX11_times_16 : decode cX11_times 16 = .ok (.iconst 0, 1) := by decide +kernel
theorem dX11_times_17 : decode cX11_times 17 = .ok (.istore 5, 2) := by decide +kernel
theorem dX11_times_19 : decode cX11_times 19 = .ok (.iload 5, 2) := by decide +kernel
theorem dX11_times_21 : decode cX11_times 21 = .ok (.iload_n 3, 1) := by decide +kernel
theorem dX11_times_22 : decode cX11_times 22 = .ok (.if_icmp .gt 37, 3) := by decide +kernel
theorem dX11_times_25 : decode cX11_times 25 = .ok (.iload 4, 2) := by decide +kernel
theorem dX11_times_27 : decode cX11_times 27 = .ok (.aload_n 0, 1) := by decide +kernel
theorem dX11_times_28 : decode cX11_times 28 = .ok (.getfield 30, 3) := by decide +kernel
theorem dX11_times_31 : decode cX11_times 31 = .ok (.iload_n 1, 1) := by decide +kernel
theorem dX11_times_32 : decode cX11_times 32 = .ok (.iload 5, 2) := by decide +kernel
theorem dX11_times_34 : decode cX11_times 34 = .ok (.invokevirtual 111, 3) := by decide +kernel
theorem dX11_times_37 : decode cX11_times 37 = .ok (.aload_n 0, 1) := by decide +kernel
theorem dX11_times_38 : decode cX11_times 38 = .ok (.getfield 30, 3) := by decide +kernel
theorem dX11_times_41 : decode cX11_times 41 = .ok (.iload_n 2, 1) := by decide +kernel
theorem dX11_times_42 : decode cX11_times 42 = .ok (.iload_n 3, 1) := by decide +kernel
theorem dX11_times_43 : decode cX11_times 43 = .ok (.iload 5, 2) := by decide +kernel
theorem dX11_times_45 : decode cX11_times 45 = .ok (.isub, 1) := by decide +kernel
theorem dX11_times_46 : decode cX11_times 46 = .ok (.invokevirtual 111, 3) := by decide +kernel
theorem dX11_times_49 : decode cX11_times 49 = .ok (.imul, 1) := by decide +kernel
theorem dX11_times_50 : decode cX11_times 50 = .ok (.iadd, 1) := by decide +kernel
theorem dX11_times_51 : decode cX11_times 51 = .ok (.istore 4, 2) := by decide +kernel
theorem dX11_times_53 : decode cX11_times 53 = .ok (.iinc 5 1, 3) := by decide +kernel
theorem dX11_times_56 : decode cX11_times 56 = .ok (.goto (-37), 3) := by decide +kernel
theorem dX11_times_59 : decode cX11_times 59 = .ok (.iload 4, 2) := by decide +kernel
theorem dX11_times_61 : decode cX11_times 61 = .ok (.ireturn, 1) := by decide +kernel
theorem dX11_world_0 : decode cX11_world 0 = .ok (.iload_n 2, 1) := by decide +kernel
theorem dX11_world_1 : decode cX11_world 1 = .ok (.iconst (-1), 1) := by decide +kernel
theorem dX11_world_2 : decode cX11_world 2 = .ok (.if_icmp .ne 11, 3) := by decide +kernel
theorem dX11_world_5 : decode cX11_world 5 = .ok (.aload_n 0, 1) := by decide +kernel
theorem dX11_world_6 : decode cX11_world 6 = .ok (.getfield 54, 3) := by decide +kernel
theorem dX11_world_9 : decode cX11_world 9 = .ok (.getfield 181, 3) := by decide +kernel
theorem dX11_world_12 : decode cX11_world 12 = .ok (.ireturn, 1) := by decide +kernel
theorem dX11_world_13 : decode cX11_world 13 = .ok (.aload_n 0, 1) := by decide +kernel
theorem dX11_world_14 : decode cX11_world 14 = .ok (.iload_n 1, 1) := by decide +kernel
theorem dX11_world_15 : decode cX11_world 15 = .ok (.invokevirtual 184, 3) := by decide +kernel
theorem dX11_world_18 : decode cX11_world 18 = .ok (.ifCond .eq 18, 3) := by decide +kernel
theorem dX11_world_21 : decode cX11_world 21 = .ok (.iload_n 2, 1) := by decide +kernel
theorem dX11_world_22 : decode cX11_world 22 = .ok (.ifCond .lt 14, 3) := by decide +kernel
theorem dX11_world_25 : decode cX11_world 25 = .ok (.iload_n 2, 1) := by decide +kernel
theorem dX11_world_26 : decode cX11_world 26 = .ok (.aload_n 0, 1) := by decide +kernel
theorem dX11_world_27 : decode cX11_world 27 = .ok (.getfield 54, 3) := by decide +kernel
theorem dX11_world_30 : decode cX11_world 30 = .ok (.getfield 187, 3) := by decide +kernel
theorem dX11_world_33 : decode cX11_world 33 = .ok (.if_icmp .lt 5, 3) := by decide +kernel
theorem dX11_world_36 : decode cX11_world 36 = .ok (.iconst (-1), 1) := by decide +kernel
theorem dX11_world_37 : decode cX11_world 37 = .ok (.ireturn, 1) := by decide +kernel
theorem dX11_world_38 : decode cX11_world 38 = .ok (.aload_n 0, 1) := by decide +kernel
theorem dX11_world_39 : decode cX11_world 39 = .ok (.getfield 54, 3) := by decide +kernel
theorem dX11_world_42 : decode cX11_world 42 = .ok (.iload_n 1, 1) := by decide +kernel
theorem dX11_world_43 : decode cX11_world 43 = .ok (.iload_n 2, 1) := by decide +kernel
theorem dX11_world_44 : decode cX11_world 44 = .ok (.invokevirtual 190, 3) := by decide +kernel
theorem dX11_world_47 : decode cX11_world 47 = .ok (.ireturn, 1) := by decide +kernel
theorem dX11_isWorld_0 : decode cX11_isWorld 0 = .ok (.iload_n 1, 1) := by decide +kernel
theorem dX11_isWorld_1 : decode cX11_isWorld 1 = .ok (.ifCond .lt 18, 3) := by decide +kernel
theorem dX11_isWorld_4 : decode cX11_isWorld 4 = .ok (.iload_n 1, 1) := by decide +kernel
theorem dX11_isWorld_5 : decode cX11_isWorld 5 = .ok (.aload_n 0, 1) := by decide +kernel
theorem dX11_isWorld_6 : decode cX11_isWorld 6 = .ok (.getfield 54, 3) := by decide +kernel
theorem dX11_isWorld_9 : decode cX11_isWorld 9 = .ok (.getfield 181, 3) := by decide +kernel
theorem dX11_isWorld_12 : decode cX11_isWorld 12 = .ok (.if_icmp .ge 7, 3) := by decide +kernel
theorem dX11_isWorld_15 : decode cX11_isWorld 15 = .ok (.iconst 1, 1) := by decide +kernel
theorem dX11_isWorld_16 : decode cX11_isWorld 16 = .ok (.goto 4, 3) := by decide +kernel
theorem dX11_isWorld_19 : decode cX11_isWorld 19 = .ok (.iconst 0, 1) := by decide +kernel
theorem dX11_isWorld_20 : decode cX11_isWorld 20 = .ok (.ireturn, 1) := by decide +kernel
theorem dX11_clash_0 : decode cX11_clash 0 = .ok (.iload_n 1, 1) := by decide +kernel
theorem dX11_clash_1 : decode cX11_clash 1 = .ok (.i2l, 1) := by decide +kernel
theorem dX11_clash_2 : decode cX11_clash 2 = .ok (.lconst 0, 1) := by decide +kernel
theorem dX11_clash_3 : decode cX11_clash 3 = .ok (.ldc2_w 117, 3) := by decide +kernel
theorem dX11_clash_6 : decode cX11_clash 6 = .ok (.invokestatic 119, 3) := by decide +kernel
theorem dX11_clash_9 : decode cX11_clash 9 = .ok (.ifCond .eq 15, 3) := by decide +kernel
theorem dX11_clash_12 : decode cX11_clash 12 = .ok (.aload_n 0, 1) := by decide +kernel
theorem dX11_clash_13 : decode cX11_clash 13 = .ok (.getfield 54, 3) := by decide +kernel
theorem dX11_clash_16 : decode cX11_clash 16 = .ok (.iload_n 1, 1) := by decide +kernel
theorem dX11_clash_17 : decode cX11_clash 17 = .ok (.iload_n 2, 1) := by decide +kernel
theorem dX11_clash_18 : decode cX11_clash 18 = .ok (.invokevirtual 191, 3) := by decide +kernel
theorem dX11_clash_21 : decode cX11_clash 21 = .ok (.goto 4, 3) := by decide +kernel
theorem dX11_clash_24 : decode cX11_clash 24 = .ok (.iconst (-1), 1) := by decide +kernel
theorem dX11_clash_25 : decode cX11_clash 25 = .ok (.ireturn, 1) := by decide +kernel
theorem dX11_once_0 : decode cX11_once 0 = .ok (.iconst 0, 1) := by decide +kernel
theorem dX11_once_1 : decode cX11_once 1 = .ok (.istore_n 1, 1) := by decide +kernel
theorem dX11_once_2 : decode cX11_once 2 = .ok (.iload_n 1, 1) := by decide +kernel
theorem dX11_once_3 : decode cX11_once 3 = .ok (.sipush 999, 3) := by decide +kernel
theorem dX11_once_6 : decode cX11_once 6 = .ok (.if_icmp .gt 25, 3) := by decide +kernel
theorem dX11_once_9 : decode cX11_once 9 = .ok (.aload_n 0, 1) := by decide +kernel
theorem dX11_once_10 : decode cX11_once 10 = .ok (.getfield 54, 3) := by decide +kernel
theorem dX11_once_13 : decode cX11_once 13 = .ok (.iload_n 1, 1) := by decide +kernel
theorem dX11_once_14 : decode cX11_once 14 = .ok (.iconst 1, 1) := by decide +kernel
theorem dX11_once_15 : decode cX11_once 15 = .ok (.invokevirtual 191, 3) := by decide +kernel
theorem dX11_once_18 : decode cX11_once 18 = .ok (.bipush (-2), 2) := by decide +kernel
theorem dX11_once_20 : decode cX11_once 20 = .ok (.if_icmp .ne 5, 3) := by decide +kernel
theorem dX11_once_23 : decode cX11_once 23 = .ok (.iload_n 1, 1) := by decide +kernel
theorem dX11_once_24 : decode cX11_once 24 = .ok (.ireturn, 1) := by decide +kernel
theorem dX11_once_25 : decode cX11_once 25 = .ok (.iinc 1 1, 3) := by decide +kernel
theorem dX11_once_28 : decode cX11_once 28 = .ok (.goto (-26), 3) := by decide +kernel
theorem dX11_once_31 : decode cX11_once 31 = .ok (.bipush (-2), 2) := by decide +kernel
theorem dX11_once_33 : decode cX11_once 33 = .ok (.ireturn, 1) := by decide +kernel
theorem dX11_few_0 : decode cX11_few 0 = .ok (.iload_n 1, 1) := by decide +kernel
theorem dX11_few_1 : decode cX11_few 1 = .ok (.i2l, 1) := by decide +kernel
theorem dX11_few_2 : decode cX11_few 2 = .ok (.lconst 0, 1) := by decide +kernel
theorem dX11_few_3 : decode cX11_few 3 = .ok (.ldc2_w 195, 3) := by decide +kernel
theorem dX11_few_6 : decode cX11_few 6 = .ok (.invokestatic 119, 3) := by decide +kernel
theorem dX11_few_9 : decode cX11_few 9 = .ok (.ifCond .eq 14, 3) := by decide +kernel
theorem dX11_few_12 : decode cX11_few 12 = .ok (.aload_n 0, 1) := by decide +kernel
theorem dX11_few_13 : decode cX11_few 13 = .ok (.getfield 54, 3) := by decide +kernel
theorem dX11_few_16 : decode cX11_few 16 = .ok (.iload_n 1, 1) := by decide +kernel
theorem dX11_few_17 : decode cX11_few 17 = .ok (.invokevirtual 197, 3) := by decide +kernel
theorem dX11_few_20 : decode cX11_few 20 = .ok (.goto 4, 3) := by decide +kernel
theorem dX11_few_23 : decode cX11_few 23 = .ok (.iconst (-1), 1) := by decide +kernel
theorem dX11_few_24 : decode cX11_few 24 = .ok (.ireturn, 1) := by decide +kernel
theorem dX11_worldsAt_0 : decode cX11_worldsAt 0 = .ok (.iload_n 1, 1) := by decide +kernel
theorem dX11_worldsAt_1 : decode cX11_worldsAt 1 = .ok (.i2l, 1) := by decide +kernel
theorem dX11_worldsAt_2 : decode cX11_worldsAt 2 = .ok (.ldc2_w 201, 3) := by decide +kernel
theorem dX11_worldsAt_5 : decode cX11_worldsAt 5 = .ok (.ldc2_w 203, 3) := by decide +kernel
theorem dX11_worldsAt_8 : decode cX11_worldsAt 8 = .ok (.invokestatic 119, 3) := by decide +kernel
theorem dX11_worldsAt_11 : decode cX11_worldsAt 11 = .ok (.ifCond .eq 15, 3) := by decide +kernel
theorem dX11_worldsAt_14 : decode cX11_worldsAt 14 = .ok (.aload_n 0, 1) := by decide +kernel
theorem dX11_worldsAt_15 : decode cX11_worldsAt 15 = .ok (.getfield 54, 3) := by decide +kernel
theorem dX11_worldsAt_18 : decode cX11_worldsAt 18 = .ok (.iload_n 1, 1) := by decide +kernel
theorem dX11_worldsAt_19 : decode cX11_worldsAt 19 = .ok (.lload_n 2, 1) := by decide +kernel
theorem dX11_worldsAt_20 : decode cX11_worldsAt 20 = .ok (.invokevirtual 205, 3) := by decide +kernel
theorem dX11_worldsAt_23 : decode cX11_worldsAt 23 = .ok (.goto 4, 3) := by decide +kernel
theorem dX11_worldsAt_26 : decode cX11_worldsAt 26 = .ok (.iconst (-1), 1) := by decide +kernel
theorem dX11_worldsAt_27 : decode cX11_worldsAt 27 = .ok (.ireturn, 1) := by decide +kernel
theorem dX11_game_0 : decode cX11_game 0 = .ok (.aload_n 0, 1) := by decide +kernel
theorem dX11_game_1 : decode cX11_game 1 = .ok (.iload_n 1, 1) := by decide +kernel
theorem dX11_game_2 : decode cX11_game 2 = .ok (.invokevirtual 184, 3) := by decide +kernel
theorem dX11_game_5 : decode cX11_game 5 = .ok (.ifCond .eq 13, 3) := by decide +kernel
theorem dX11_game_8 : decode cX11_game 8 = .ok (.iload_n 2, 1) := by decide +kernel
theorem dX11_game_9 : decode cX11_game 9 = .ok (.i2l, 1) := by decide +kernel
theorem dX11_game_10 : decode cX11_game 10 = .ok (.lconst 0, 1) := by decide +kernel
theorem dX11_game_11 : decode cX11_game 11 = .ok (.lconst 1, 1) := by decide +kernel
theorem dX11_game_12 : decode cX11_game 12 = .ok (.invokestatic 119, 3) := by decide +kernel
theorem dX11_game_15 : decode cX11_game 15 = .ok (.ifCond .ne 5, 3) := by decide +kernel
theorem dX11_game_18 : decode cX11_game 18 = .ok (.iconst (-1), 1) := by decide +kernel
theorem dX11_game_19 : decode cX11_game 19 = .ok (.ireturn, 1) := by decide +kernel
theorem dX11_game_20 : decode cX11_game 20 = .ok (.aload_n 0, 1) := by decide +kernel
theorem dX11_game_21 : decode cX11_game 21 = .ok (.getfield 63, 3) := by decide +kernel
theorem dX11_game_24 : decode cX11_game 24 = .ok (.invokevirtual 209, 3) := by decide +kernel
theorem dX11_game_27 : decode cX11_game 27 = .ok (.iconst 0, 1) := by decide +kernel
theorem dX11_game_28 : decode cX11_game 28 = .ok (.istore_n 3, 1) := by decide +kernel
theorem dX11_game_29 : decode cX11_game 29 = .ok (.iconst 0, 1) := by decide +kernel
theorem dX11_game_30 : decode cX11_game 30 = .ok (.istore 4, 2) := by decide +kernel
theorem dX11_game_32 : decode cX11_game 32 = .ok (.iconst 0, 1) := by decide +kernel
theorem dX11_game_33 : decode cX11_game 33 = .ok (.istore 5, 2) := by decide +kernel
theorem dX11_game_35 : decode cX11_game 35 = .ok (.lconst 0, 1) := by decide +kernel
theorem dX11_game_36 : decode cX11_game 36 = .ok (.lstore 6, 2) := by decide +kernel
theorem dX11_game_38 : decode cX11_game 38 = .ok (.iload_n 3, 1) := by decide +kernel
theorem dX11_game_39 : decode cX11_game 39 = .ok (.bipush 50, 2) := by decide +kernel
theorem dX11_game_41 : decode cX11_game 41 = .ok (.if_icmp .ge 78, 3) := by decide +kernel
theorem dX11_game_44 : decode cX11_game 44 = .ok (.aload_n 0, 1) := by decide +kernel
theorem dX11_game_45 : decode cX11_game 45 = .ok (.getfield 63, 3) := by decide +kernel
theorem dX11_game_48 : decode cX11_game 48 = .ok (.getfield 212, 3) := by decide +kernel
theorem dX11_game_51 : decode cX11_game 51 = .ok (.iconst 1, 1) := by decide +kernel
theorem dX11_game_52 : decode cX11_game 52 = .ok (.if_icmp .le 67, 3) := by decide +kernel
theorem dX11_game_55 : decode cX11_game 55 = .ok (.aload_n 0, 1) := by decide +kernel
theorem dX11_game_56 : decode cX11_game 56 = .ok (.getfield 30, 3) := by decide +kernel
theorem dX11_game_59 : decode cX11_game 59 = .ok (.getfield 213, 3) := by decide +kernel
theorem dX11_game_62 : decode cX11_game 62 = .ok (.iload_n 3, 1) := by decide +kernel
theorem dX11_game_63 : decode cX11_game 63 = .ok (.lload 6, 2) := by decide +kernel
theorem dX11_game_65 : decode cX11_game 65 = .ok (.iload 5, 2) := by decide +kernel
theorem dX11_game_67 : decode cX11_game 67 = .ok (.invokevirtual 217, 3) := by decide +kernel
theorem dX11_game_70 : decode cX11_game 70 = .ok (.istore 5, 2) := by decide +kernel
theorem dX11_game_72 : decode cX11_game 72 = .ok (.aload_n 0, 1) := by decide +kernel
theorem dX11_game_73 : decode cX11_game 73 = .ok (.getfield 54, 3) := by decide +kernel
theorem dX11_game_76 : decode cX11_game 76 = .ok (.iload 5, 2) := by decide +kernel
theorem dX11_game_78 : decode cX11_game 78 = .ok (.i2l, 1) := by decide +kernel
theorem dX11_game_79 : decode cX11_game 79 = .ok (.invokevirtual 223, 3) := by decide +kernel
theorem dX11_game_82 : decode cX11_game 82 = .ok (.aload_n 0, 1) := by decide +kernel
theorem dX11_game_83 : decode cX11_game 83 = .ok (.getfield 54, 3) := by decide +kernel
theorem dX11_game_86 : decode cX11_game 86 = .ok (.getfield 227, 3) := by decide +kernel
theorem dX11_game_89 : decode cX11_game 89 = .ok (.iload_n 1, 1) := by decide +kernel
theorem dX11_game_90 : decode cX11_game 90 = .ok (.laload, 1) := by decide +kernel
theorem dX11_game_91 : decode cX11_game 91 = .ok (.lstore 6, 2) := by decide +kernel
theorem dX11_game_93 : decode cX11_game 93 = .ok (.aload_n 0, 1) := by decide +kernel
theorem dX11_game_94 : decode cX11_game 94 = .ok (.getfield 63, 3) := by decide +kernel
theorem dX11_game_97 : decode cX11_game 97 = .ok (.lload 6, 2) := by decide +kernel
theorem dX11_game_99 : decode cX11_game 99 = .ok (.invokevirtual 231, 3) := by decide +kernel
theorem dX11_game_102 : decode cX11_game 102 = .ok (.iload 4, 2) := by decide +kernel
theorem dX11_game_104 : decode cX11_game 104 = .ok (.iload 5, 2) := by decide +kernel
theorem dX11_game_106 : decode cX11_game 106 = .ok (.i2l, 1) := by decide +kernel
theorem dX11_game_107 : decode cX11_game 107 = .ok (.invokestatic 138, 3) := by decide +kernel
theorem dX11_game_110 : decode cX11_game 110 = .ok (.iadd, 1) := by decide +kernel
theorem dX11_game_111 : decode cX11_game 111 = .ok (.istore 4, 2) := by decide +kernel
theorem dX11_game_113 : decode cX11_game 113 = .ok (.iinc 3 1, 3) := by decide +kernel
theorem dX11_game_116 : decode cX11_game 116 = .ok (.goto (-78), 3) := by decide +kernel
theorem dX11_game_119 : decode cX11_game 119 = .ok (.iload_n 2, 1) := by decide +kernel
theorem dX11_game_120 : decode cX11_game 120 = .ok (.iconst 1, 1) := by decide +kernel
theorem dX11_game_121 : decode cX11_game 121 = .ok (.if_icmp .ne 6, 3) := by decide +kernel
theorem dX11_game_124 : decode cX11_game 124 = .ok (.iload 4, 2) := by decide +kernel
theorem dX11_game_126 : decode cX11_game 126 = .ok (.ireturn, 1) := by decide +kernel
theorem dX11_game_127 : decode cX11_game 127 = .ok (.aload_n 0, 1) := by decide +kernel
theorem dX11_game_128 : decode cX11_game 128 = .ok (.getfield 63, 3) := by decide +kernel
theorem dX11_game_131 : decode cX11_game 131 = .ok (.getfield 212, 3) := by decide +kernel
theorem dX11_game_134 : decode cX11_game 134 = .ok (.iconst 1, 1) := by decide +kernel
theorem dX11_game_135 : decode cX11_game 135 = .ok (.if_icmp .le 8, 3) := by decide +kernel
theorem dX11_game_138 : decode cX11_game 138 = .ok (.bipush (-2), 2) := by decide +kernel
theorem dX11_game_140 : decode cX11_game 140 = .ok (.goto 4, 3) := by decide +kernel
theorem dX11_game_143 : decode cX11_game 143 = .ok (.iload_n 3, 1) := by decide +kernel
theorem dX11_game_144 : decode cX11_game 144 = .ok (.ireturn, 1) := by decide +kernel
theorem dX11_tell_0 : decode cX11_tell 0 = .ok (.aload_n 0, 1) := by decide +kernel
theorem dX11_tell_1 : decode cX11_tell 1 = .ok (.getfield 37, 3) := by decide +kernel
theorem dX11_tell_4 : decode cX11_tell 4 = .ok (.invokevirtual 234, 3) := by decide +kernel
theorem dX11_tell_7 : decode cX11_tell 7 = .ok (.ifCond .ne 30, 3) := by decide +kernel
theorem dX11_tell_10 : decode cX11_tell 10 = .ok (.iload_n 1, 1) := by decide +kernel
theorem dX11_tell_11 : decode cX11_tell 11 = .ok (.i2l, 1) := by decide +kernel
theorem dX11_tell_12 : decode cX11_tell 12 = .ok (.ldc2_w 201, 3) := by decide +kernel
theorem dX11_tell_15 : decode cX11_tell 15 = .ok (.ldc2_w 203, 3) := by decide +kernel
theorem dX11_tell_18 : decode cX11_tell 18 = .ok (.invokestatic 119, 3) := by decide +kernel
