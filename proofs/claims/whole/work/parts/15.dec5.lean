set_option maxRecDepth 20000 in
theorem ggX12_meets_X12_isRow : GoodIn wsX12_meets wsX12_isRow := goodIn_r _ [5, 6, 7, 8, 9, 4, 10, 25, 26, 27, 28, 29, 30, 31, 32, 33, 34, 35, 36, 37, 38, 39, 40, 41, 42, 43, 44, 45, 46, 47, 48, 49, 50, 51, 52, 53, 54, 55, 56, 57, 58, 59, 60, 61, 62, 63, 64, 65, 66, 67, 68, 69, 70, 71, 72, 73, 74, 75, 76, 77, 78, 79, 80, 81, 82, 83, 84, 85, 86, 87, 88, 89, 90, 91, 92, 93, 94, 95, 96, 97] (by decide +kernel) (by decide +kernel)
set_option maxRecDepth 20000 in
theorem gX12_meets_X12_isRow : GoodIn wsX12_meets (wsV RX12 336 RX12 yX12_isRow wsX12_isRow) := goodIn_app (goodIn_of _ (by decide +kernel)) ggX12_meets_X12_isRow
set_option maxRecDepth 20000 in
theorem ggX12_meets_X12_comesBy : GoodIn wsX12_meets wsX12_comesBy := goodIn_r _ [14, 15, 16, 17, 4, 18, 19, 7, 20, 21, 22, 23, 24, 25, 26, 27, 28, 29, 30, 31, 32, 33, 34, 35, 36, 37, 38, 39, 40, 41, 42, 43, 44, 45, 46, 47, 48, 49, 50, 51, 52, 53, 54, 55, 56, 57, 58, 59, 60, 61, 62, 63, 64, 65, 66, 67, 68, 69, 70, 71, 72, 73, 74, 75, 76, 77, 78, 79, 80, 81, 82, 83, 84, 85, 86, 87, 88, 89, 90, 91, 92, 93, 94, 95, 96, 97] (by decide +kernel) (by decide +kernel)
set_option maxRecDepth 20000 in
theorem gX12_meets_X12_comesBy : GoodIn wsX12_meets (wsV RX12 349 RX12 yX12_comesBy wsX12_comesBy) := goodIn_app (goodIn_of _ (by decide +kernel)) ggX12_meets_X12_comesBy
theorem dX12_meets_0 : decode cX12_meets 0 = .ok (.aload_n 0, 1) := by decide +kernel
theorem dX12_meets_1 : decode cX12_meets 1 = .ok (.iload_n 1, 1) := by decide +kernel
theorem dX12_meets_2 : decode cX12_meets 2 = .ok (.invokevirtual 336, 3) := by decide +kernel
theorem dX12_meets_5 : decode cX12_meets 5 = .ok (.ifCond .eq 16, 3) := by decide +kernel
theorem dX12_meets_8 : decode cX12_meets 8 = .ok (.aload_n 0, 1) := by decide +kernel
theorem dX12_meets_9 : decode cX12_meets 9 = .ok (.iload_n 2, 1) := by decide +kernel
theorem dX12_meets_10 : decode cX12_meets 10 = .ok (.invokevirtual 336, 3) := by decide +kernel
theorem dX12_meets_13 : decode cX12_meets 13 = .ok (.ifCond .eq 8, 3) := by decide +kernel
theorem dX12_meets_16 : decode cX12_meets 16 = .ok (.iload_n 1, 1) := by decide +kernel
theorem dX12_meets_17 : decode cX12_meets 17 = .ok (.iload_n 2, 1) := by decide +kernel
theorem dX12_meets_18 : decode cX12_meets 18 = .ok (.if_icmp .ne 5, 3) := by decide +kernel
theorem dX12_meets_21 : decode cX12_meets 21 = .ok (.iconst (-1), 1) := by decide +kernel
theorem dX12_meets_22 : decode cX12_meets 22 = .ok (.ireturn, 1) := by decide +kernel
theorem dX12_meets_23 : decode cX12_meets 23 = .ok (.iconst 0, 1) := by decide +kernel
theorem dX12_meets_24 : decode cX12_meets 24 = .ok (.istore_n 3, 1) := by decide +kernel
theorem dX12_meets_25 : decode cX12_meets 25 = .ok (.iload_n 3, 1) := by decide +kernel
theorem dX12_meets_26 : decode cX12_meets 26 = .ok (.sipush 1000, 3) := by decide +kernel
theorem dX12_meets_29 : decode cX12_meets 29 = .ok (.if_icmp .ge 29, 3) := by decide +kernel
theorem dX12_meets_32 : decode cX12_meets 32 = .ok (.aload_n 0, 1) := by decide +kernel
theorem dX12_meets_33 : decode cX12_meets 33 = .ok (.iload_n 1, 1) := by decide +kernel
theorem dX12_meets_34 : decode cX12_meets 34 = .ok (.iload_n 3, 1) := by decide +kernel
theorem dX12_meets_35 : decode cX12_meets 35 = .ok (.i2l, 1) := by decide +kernel
theorem dX12_meets_36 : decode cX12_meets 36 = .ok (.invokevirtual 349, 3) := by decide +kernel
theorem dX12_meets_39 : decode cX12_meets 39 = .ok (.aload_n 0, 1) := by decide +kernel
theorem dX12_meets_40 : decode cX12_meets 40 = .ok (.iload_n 2, 1) := by decide +kernel
theorem dX12_meets_41 : decode cX12_meets 41 = .ok (.iload_n 3, 1) := by decide +kernel
theorem dX12_meets_42 : decode cX12_meets 42 = .ok (.i2l, 1) := by decide +kernel
theorem dX12_meets_43 : decode cX12_meets 43 = .ok (.invokevirtual 349, 3) := by decide +kernel
theorem dX12_meets_46 : decode cX12_meets 46 = .ok (.lcmp, 1) := by decide +kernel
theorem dX12_meets_47 : decode cX12_meets 47 = .ok (.ifCond .ne 5, 3) := by decide +kernel
theorem dX12_meets_50 : decode cX12_meets 50 = .ok (.iload_n 3, 1) := by decide +kernel
theorem dX12_meets_51 : decode cX12_meets 51 = .ok (.ireturn, 1) := by decide +kernel
theorem dX12_meets_52 : decode cX12_meets 52 = .ok (.iinc 3 1, 3) := by decide +kernel
theorem dX12_meets_55 : decode cX12_meets 55 = .ok (.goto (-30), 3) := by decide +kernel
theorem dX12_meets_58 : decode cX12_meets 58 = .ok (.bipush (-2), 2) := by decide +kernel
theorem dX12_meets_60 : decode cX12_meets 60 = .ok (.ireturn, 1) := by decide +kernel
theorem dX12_worldAll_0 : decode cX12_worldAll 0 = .ok (.iconst 1, 1) := by decide +kernel
theorem dX12_worldAll_1 : decode cX12_worldAll 1 = .ok (.istore_n 1, 1) := by decide +kernel
theorem dX12_worldAll_2 : decode cX12_worldAll 2 = .ok (.iconst 0, 1) := by decide +kernel
theorem dX12_worldAll_3 : decode cX12_worldAll 3 = .ok (.istore_n 2, 1) := by decide +kernel
theorem dX12_worldAll_4 : decode cX12_worldAll 4 = .ok (.iload_n 2, 1) := by decide +kernel
theorem dX12_worldAll_5 : decode cX12_worldAll 5 = .ok (.aload_n 0, 1) := by decide +kernel
theorem dX12_worldAll_6 : decode cX12_worldAll 6 = .ok (.getfield 73, 3) := by decide +kernel
theorem dX12_worldAll_9 : decode cX12_worldAll 9 = .ok (.aload_n 0, 1) := by decide +kernel
theorem dX12_worldAll_10 : decode cX12_worldAll 10 = .ok (.getfield 243, 3) := by decide +kernel
theorem dX12_worldAll_13 : decode cX12_worldAll 13 = .ok (.iaload, 1) := by decide +kernel
theorem dX12_worldAll_14 : decode cX12_worldAll 14 = .ok (.if_icmp .ge 23, 3) := by decide +kernel
theorem dX12_worldAll_17 : decode cX12_worldAll 17 = .ok (.iload_n 1, 1) := by decide +kernel
theorem dX12_worldAll_18 : decode cX12_worldAll 18 = .ok (.aload_n 0, 1) := by decide +kernel
theorem dX12_worldAll_19 : decode cX12_worldAll 19 = .ok (.getfield 76, 3) := by decide +kernel
theorem dX12_worldAll_22 : decode cX12_worldAll 22 = .ok (.aload_n 0, 1) := by decide +kernel
theorem dX12_worldAll_23 : decode cX12_worldAll 23 = .ok (.getfield 243, 3) := by decide +kernel
theorem dX12_worldAll_26 : decode cX12_worldAll 26 = .ok (.iaload, 1) := by decide +kernel
theorem dX12_worldAll_27 : decode cX12_worldAll 27 = .ok (.iconst 1, 1) := by decide +kernel
theorem dX12_worldAll_28 : decode cX12_worldAll 28 = .ok (.iadd, 1) := by decide +kernel
theorem dX12_worldAll_29 : decode cX12_worldAll 29 = .ok (.imul, 1) := by decide +kernel
theorem dX12_worldAll_30 : decode cX12_worldAll 30 = .ok (.istore_n 1, 1) := by decide +kernel
theorem dX12_worldAll_31 : decode cX12_worldAll 31 = .ok (.iinc 2 1, 3) := by decide +kernel
theorem dX12_worldAll_34 : decode cX12_worldAll 34 = .ok (.goto (-30), 3) := by decide +kernel
theorem dX12_worldAll_37 : decode cX12_worldAll 37 = .ok (.iload_n 1, 1) := by decide +kernel
theorem dX12_worldAll_38 : decode cX12_worldAll 38 = .ok (.ireturn, 1) := by decide +kernel
theorem dX12_figureOf_0 : decode cX12_figureOf 0 = .ok (.iload_n 1, 1) := by decide +kernel
theorem dX12_figureOf_1 : decode cX12_figureOf 1 = .ok (.istore_n 3, 1) := by decide +kernel
theorem dX12_figureOf_2 : decode cX12_figureOf 2 = .ok (.iconst 0, 1) := by decide +kernel
theorem dX12_figureOf_3 : decode cX12_figureOf 3 = .ok (.istore 4, 2) := by decide +kernel
theorem dX12_figureOf_5 : decode cX12_figureOf 5 = .ok (.iload 4, 2) := by decide +kernel
theorem dX12_figureOf_7 : decode cX12_figureOf 7 = .ok (.iload_n 2, 1) := by decide +kernel
theorem dX12_figureOf_8 : decode cX12_figureOf 8 = .ok (.if_icmp .ge 23, 3) := by decide +kernel
theorem dX12_figureOf_11 : decode cX12_figureOf 11 = .ok (.iload_n 3, 1) := by decide +kernel
theorem dX12_figureOf_12 : decode cX12_figureOf 12 = .ok (.aload_n 0, 1) := by decide +kernel
theorem dX12_figureOf_13 : decode cX12_figureOf 13 = .ok (.getfield 76, 3) := by decide +kernel
theorem dX12_figureOf_16 : decode cX12_figureOf 16 = .ok (.aload_n 0, 1) := by decide +kernel
theorem dX12_figureOf_17 : decode cX12_figureOf 17 = .ok (.getfield 243, 3) := by decide +kernel
theorem dX12_figureOf_20 : decode cX12_figureOf 20 = .ok (.iaload, 1) := by decide +kernel
theorem dX12_figureOf_21 : decode cX12_figureOf 21 = .ok (.iconst 1, 1) := by decide +kernel
theorem dX12_figureOf_22 : decode cX12_figureOf 22 = .ok (.iadd, 1) := by decide +kernel
theorem dX12_figureOf_23 : decode cX12_figureOf 23 = .ok (.idiv, 1) := by decide +kernel
theorem dX12_figureOf_24 : decode cX12_figureOf 24 = .ok (.istore_n 3, 1) := by decide +kernel
theorem dX12_figureOf_25 : decode cX12_figureOf 25 = .ok (.iinc 4 1, 3) := by decide +kernel
theorem dX12_figureOf_28 : decode cX12_figureOf 28 = .ok (.goto (-23), 3) := by decide +kernel
theorem dX12_figureOf_31 : decode cX12_figureOf 31 = .ok (.iload_n 3, 1) := by decide +kernel
theorem dX12_figureOf_32 : decode cX12_figureOf 32 = .ok (.aload_n 0, 1) := by decide +kernel
theorem dX12_figureOf_33 : decode cX12_figureOf 33 = .ok (.getfield 76, 3) := by decide +kernel
theorem dX12_figureOf_36 : decode cX12_figureOf 36 = .ok (.aload_n 0, 1) := by decide +kernel
theorem dX12_figureOf_37 : decode cX12_figureOf 37 = .ok (.getfield 243, 3) := by decide +kernel
theorem dX12_figureOf_40 : decode cX12_figureOf 40 = .ok (.iaload, 1) := by decide +kernel
theorem dX12_figureOf_41 : decode cX12_figureOf 41 = .ok (.iconst 1, 1) := by decide +kernel
theorem dX12_figureOf_42 : decode cX12_figureOf 42 = .ok (.iadd, 1) := by decide +kernel
theorem dX12_figureOf_43 : decode cX12_figureOf 43 = .ok (.irem, 1) := by decide +kernel
theorem dX12_figureOf_44 : decode cX12_figureOf 44 = .ok (.ireturn, 1) := by decide +kernel
set_option maxRecDepth 20000 in
theorem ggX12_worldComes_X12_figureOf : GoodIn wsX12_worldComes wsX12_figureOf := goodIn_r _ [7, 8, 2, 9, 10, 11, 12, 13, 14, 15, 16, 17, 18, 19, 20, 21, 22, 23, 24, 25, 26, 27, 28, 29, 30, 31, 32, 33, 34, 35, 36, 37, 38, 39, 40, 41, 42, 43, 44, 45, 46, 47, 48, 49, 50, 51, 52, 53, 54, 55, 56, 57, 58, 59, 60, 61, 62, 63, 64, 65, 66, 67, 68, 69, 70, 71, 72, 73, 74, 75, 76, 77, 78, 79, 80, 81] (by decide +kernel) (by decide +kernel)
set_option maxRecDepth 20000 in
theorem gX12_worldComes_X12_figureOf : GoodIn wsX12_worldComes (wsV RX12 394 RX12 yX12_figureOf wsX12_figureOf) := goodIn_app (goodIn_of _ (by decide +kernel)) ggX12_worldComes_X12_figureOf
theorem dX12_worldComes_0 : decode cX12_worldComes 0 = .ok (.lconst 0, 1) := by decide +kernel
theorem dX12_worldComes_1 : decode cX12_worldComes 1 = .ok (.lstore 4, 2) := by decide +kernel
theorem dX12_worldComes_3 : decode cX12_worldComes 3 = .ok (.aload_n 0, 1) := by decide +kernel
theorem dX12_worldComes_4 : decode cX12_worldComes 4 = .ok (.getfield 73, 3) := by decide +kernel
theorem dX12_worldComes_7 : decode cX12_worldComes 7 = .ok (.aload_n 0, 1) := by decide +kernel
theorem dX12_worldComes_8 : decode cX12_worldComes 8 = .ok (.getfield 243, 3) := by decide +kernel
theorem dX12_worldComes_11 : decode cX12_worldComes 11 = .ok (.iaload, 1) := by decide +kernel
theorem dX12_worldComes_12 : decode cX12_worldComes 12 = .ok (.iconst 1, 1) := by decide +kernel
theorem dX12_worldComes_13 : decode cX12_worldComes 13 = .ok (.isub, 1) := by decide +kernel
theorem dX12_worldComes_14 : decode cX12_worldComes 14 = .ok (.istore 6, 2) := by decide +kernel
theorem dX12_worldComes_16 : decode cX12_worldComes 16 = .ok (.iload 6, 2) := by decide +kernel
theorem dX12_worldComes_18 : decode cX12_worldComes 18 = .ok (.ifCond .lt 24, 3) := by decide +kernel
theorem dX12_worldComes_21 : decode cX12_worldComes 21 = .ok (.lload 4, 2) := by decide +kernel
theorem dX12_worldComes_23 : decode cX12_worldComes 23 = .ok (.lload_n 2, 1) := by decide +kernel
theorem dX12_worldComes_24 : decode cX12_worldComes 24 = .ok (.lmul, 1) := by decide +kernel
theorem dX12_worldComes_25 : decode cX12_worldComes 25 = .ok (.aload_n 0, 1) := by decide +kernel
theorem dX12_worldComes_26 : decode cX12_worldComes 26 = .ok (.iload_n 1, 1) := by decide +kernel
theorem dX12_worldComes_27 : decode cX12_worldComes 27 = .ok (.iload 6, 2) := by decide +kernel
theorem dX12_worldComes_29 : decode cX12_worldComes 29 = .ok (.invokevirtual 394, 3) := by decide +kernel
theorem dX12_worldComes_32 : decode cX12_worldComes 32 = .ok (.i2l, 1) := by decide +kernel
theorem dX12_worldComes_33 : decode cX12_worldComes 33 = .ok (.ladd, 1) := by decide +kernel
theorem dX12_worldComes_34 : decode cX12_worldComes 34 = .ok (.lstore 4, 2) := by decide +kernel
theorem dX12_worldComes_36 : decode cX12_worldComes 36 = .ok (.iinc 6 (-1), 3) := by decide +kernel
theorem dX12_worldComes_39 : decode cX12_worldComes 39 = .ok (.goto (-23), 3) := by decide +kernel
theorem dX12_worldComes_42 : decode cX12_worldComes 42 = .ok (.lload 4, 2) := by decide +kernel
theorem dX12_worldComes_44 : decode cX12_worldComes 44 = .ok (.lreturn, 1) := by decide +kernel
theorem dX12_clears_0 : decode cX12_clears 0 = .ok (.iconst 0, 1) := by decide +kernel
theorem dX12_clears_1 : decode cX12_clears 1 = .ok (.istore_n 1, 1) := by decide +kernel
theorem dX12_clears_2 : decode cX12_clears 2 = .ok (.iload_n 1, 1) := by decide +kernel
theorem dX12_clears_3 : decode cX12_clears 3 = .ok (.ldc 119, 2) := by decide +kernel
theorem dX12_clears_5 : decode cX12_clears 5 = .ok (.if_icmp .ge 23, 3) := by decide +kernel
theorem dX12_clears_8 : decode cX12_clears 8 = .ok (.aload_n 0, 1) := by decide +kernel
theorem dX12_clears_9 : decode cX12_clears 9 = .ok (.getfield 123, 3) := by decide +kernel
theorem dX12_clears_12 : decode cX12_clears 12 = .ok (.iload_n 1, 1) := by decide +kernel
theorem dX12_clears_13 : decode cX12_clears 13 = .ok (.iconst (-1), 1) := by decide +kernel
theorem dX12_clears_14 : decode cX12_clears 14 = .ok (.iastore, 1) := by decide +kernel
theorem dX12_clears_15 : decode cX12_clears 15 = .ok (.aload_n 0, 1) := by decide +kernel
theorem dX12_clears_16 : decode cX12_clears 16 = .ok (.getfield 126, 3) := by decide +kernel
theorem dX12_clears_19 : decode cX12_clears 19 = .ok (.iload_n 1, 1) := by decide +kernel
theorem dX12_clears_20 : decode cX12_clears 20 = .ok (.iconst 0, 1) := by decide +kernel
theorem dX12_clears_21 : decode cX12_clears 21 = .ok (.iastore, 1) := by decide +kernel
theorem dX12_clears_22 : decode cX12_clears 22 = .ok (.iinc 1 1, 3) := by decide +kernel
theorem dX12_clears_25 : decode cX12_clears 25 = .ok (.goto (-23), 3) := by decide +kernel
theorem dX12_clears_28 : decode cX12_clears 28 = .ok (.return_, 1) := by decide +kernel
theorem dX12_keyAt_0 : decode cX12_keyAt 0 = .ok (.lload_n 1, 1) := by decide +kernel
theorem dX12_keyAt_1 : decode cX12_keyAt 1 = .ok (.ldc2_w 397, 3) := by decide +kernel
theorem dX12_keyAt_4 : decode cX12_keyAt 4 = .ok (.lmul, 1) := by decide +kernel
theorem dX12_keyAt_5 : decode cX12_keyAt 5 = .ok (.bipush 13, 2) := by decide +kernel
theorem dX12_keyAt_7 : decode cX12_keyAt 7 = .ok (.lushr, 1) := by decide +kernel
theorem dX12_keyAt_8 : decode cX12_keyAt 8 = .ok (.lload_n 1, 1) := by decide +kernel
theorem dX12_keyAt_9 : decode cX12_keyAt 9 = .ok (.lxor, 1) := by decide +kernel
theorem dX12_keyAt_10 : decode cX12_keyAt 10 = .ok (.ldc2_w 399, 3) := by decide +kernel
theorem dX12_keyAt_13 : decode cX12_keyAt 13 = .ok (.land, 1) := by decide +kernel
theorem dX12_keyAt_14 : decode cX12_keyAt 14 = .ok (.l2i, 1) := by decide +kernel
theorem dX12_keyAt_15 : decode cX12_keyAt 15 = .ok (.istore 4, 2) := by decide +kernel
theorem dX12_keyAt_17 : decode cX12_keyAt 17 = .ok (.aload_n 0, 1) := by decide +kernel
theorem dX12_keyAt_18 : decode cX12_keyAt 18 = .ok (.getfield 123, 3) := by decide +kernel
theorem dX12_keyAt_21 : decode cX12_keyAt 21 = .ok (.iload 4, 2) := by decide +kernel
theorem dX12_keyAt_23 : decode cX12_keyAt 23 = .ok (.iaload, 1) := by decide +kernel
theorem dX12_keyAt_24 : decode cX12_keyAt 24 = .ok (.iconst (-1), 1) := by decide +kernel
theorem dX12_keyAt_25 : decode cX12_keyAt 25 = .ok (.if_icmp .eq 27, 3) := by decide +kernel
theorem dX12_keyAt_28 : decode cX12_keyAt 28 = .ok (.aload_n 0, 1) := by decide +kernel
theorem dX12_keyAt_29 : decode cX12_keyAt 29 = .ok (.getfield 120, 3) := by decide +kernel
theorem dX12_keyAt_32 : decode cX12_keyAt 32 = .ok (.iload 4, 2) := by decide +kernel
theorem dX12_keyAt_34 : decode cX12_keyAt 34 = .ok (.laload, 1) := by decide +kernel
theorem dX12_keyAt_35 : decode cX12_keyAt 35 = .ok (.lload_n 1, 1) := by decide +kernel
theorem dX12_keyAt_36 : decode cX12_keyAt 36 = .ok (.lcmp, 1) := by decide +kernel
theorem dX12_keyAt_37 : decode cX12_keyAt 37 = .ok (.ifCond .eq 15, 3) := by decide +kernel
theorem dX12_keyAt_40 : decode cX12_keyAt 40 = .ok (.iload 4, 2) := by decide +kernel
theorem dX12_keyAt_42 : decode cX12_keyAt 42 = .ok (.iconst 1, 1) := by decide +kernel
theorem dX12_keyAt_43 : decode cX12_keyAt 43 = .ok (.iadd, 1) := by decide +kernel
theorem dX12_keyAt_44 : decode cX12_keyAt 44 = .ok (.ldc 119, 2) := by decide +kernel
theorem dX12_keyAt_46 : decode cX12_keyAt 46 = .ok (.irem, 1) := by decide +kernel
theorem dX12_keyAt_47 : decode cX12_keyAt 47 = .ok (.istore 4, 2) := by decide +kernel
theorem dX12_keyAt_49 : decode cX12_keyAt 49 = .ok (.goto (-32), 3) := by decide +kernel
theorem dX12_keyAt_52 : decode cX12_keyAt 52 = .ok (.aload_n 0, 1) := by decide +kernel
theorem dX12_keyAt_53 : decode cX12_keyAt 53 = .ok (.getfield 123, 3) := by decide +kernel
theorem dX12_keyAt_56 : decode cX12_keyAt 56 = .ok (.iload 4, 2) := by decide +kernel
theorem dX12_keyAt_58 : decode cX12_keyAt 58 = .ok (.iaload, 1) := by decide +kernel
theorem dX12_keyAt_59 : decode cX12_keyAt 59 = .ok (.iconst (-1), 1) := by decide +kernel
theorem dX12_keyAt_60 : decode cX12_keyAt 60 = .ok (.if_icmp .ne 19, 3) := by decide +kernel
theorem dX12_keyAt_63 : decode cX12_keyAt 63 = .ok (.aload_n 0, 1) := by decide +kernel
theorem dX12_keyAt_64 : decode cX12_keyAt 64 = .ok (.getfield 123, 3) := by decide +kernel
theorem dX12_keyAt_67 : decode cX12_keyAt 67 = .ok (.iload 4, 2) := by decide +kernel
theorem dX12_keyAt_69 : decode cX12_keyAt 69 = .ok (.iload_n 3, 1) := by decide +kernel
theorem dX12_keyAt_70 : decode cX12_keyAt 70 = .ok (.iastore, 1) := by decide +kernel
theorem dX12_keyAt_71 : decode cX12_keyAt 71 = .ok (.aload_n 0, 1) := by decide +kernel
theorem dX12_keyAt_72 : decode cX12_keyAt 72 = .ok (.getfield 120, 3) := by decide +kernel
theorem dX12_keyAt_75 : decode cX12_keyAt 75 = .ok (.iload 4, 2) := by decide +kernel
theorem dX12_keyAt_77 : decode cX12_keyAt 77 = .ok (.lload_n 1, 1) := by decide +kernel
theorem dX12_keyAt_78 : decode cX12_keyAt 78 = .ok (.lastore, 1) := by decide +kernel
theorem dX12_keyAt_79 : decode cX12_keyAt 79 = .ok (.iload 4, 2) := by decide +kernel
theorem dX12_keyAt_81 : decode cX12_keyAt 81 = .ok (.ireturn, 1) := by decide +kernel
set_option maxRecDepth 20000 in
theorem ggX12_clashes_X12_clears : GoodIn wsX12_clashes wsX12_clears := goodIn_r _ [8, 9, 1, 10, 33, 34, 35, 36, 37, 38, 39, 40, 41, 42, 43, 44, 45, 46, 47, 48, 49, 50, 51, 52, 53, 54, 55, 56, 57, 58, 59, 60, 61, 62, 63, 64, 65, 66, 67, 68, 69, 70, 71, 72, 73, 74, 75, 76, 77, 78, 79, 80, 81, 82, 83, 84, 85, 86, 87, 88, 89, 90, 91, 92, 93, 94, 95, 96, 97, 98, 99, 100, 101, 102, 103, 104, 105] (by decide +kernel) (by decide +kernel)
set_option maxRecDepth 20000 in
theorem gX12_clashes_X12_clears : GoodIn wsX12_clashes (wsV RX12 401 RX12 yX12_clears wsX12_clears) := goodIn_app (goodIn_of _ (by decide +kernel)) ggX12_clashes_X12_clears
set_option maxRecDepth 20000 in
theorem ggX12_clashes_X12_worldAll : GoodIn wsX12_clashes wsX12_worldAll := goodIn_r _ [14, 15, 16, 17, 33, 34, 35, 36, 37, 38, 39, 40, 41, 42, 43, 44, 45, 46, 47, 48, 49, 50, 51, 52, 53, 54, 55, 56, 57, 58, 59, 60, 61, 62, 63, 64, 65, 66, 67, 68, 69, 70, 71, 72, 73, 74, 75, 76, 77, 78, 79, 80, 81, 82, 83, 84, 85, 86, 87, 88, 89, 90, 91, 92, 93, 94, 95, 96, 97, 98, 99, 100, 101, 102, 103, 104, 105] (by decide +kernel) (by decide +kernel)
set_option maxRecDepth 20000 in
theorem gX12_clashes_X12_worldAll : GoodIn wsX12_clashes (wsV RX12 404 RX12 yX12_worldAll wsX12_worldAll) := goodIn_app (goodIn_of _ (by decide +kernel)) ggX12_clashes_X12_worldAll
set_option maxRecDepth 20000 in
theorem ggX12_clashes_X12_worldComes : GoodIn wsX12_clashes wsX12_worldComes := goodIn_r _ [21, 15, 16, 22, 23, 24, 7, 25, 17, 33, 34, 35, 36, 37, 38, 39, 40, 41, 42, 43, 44, 45, 46, 47, 48, 49, 50, 51, 52, 53, 54, 55, 56, 57, 58, 59, 60, 61, 62, 63, 64, 65, 66, 67, 68, 69, 70, 71, 72, 73, 74, 75, 76, 77, 78, 79, 80, 81, 82, 83, 84, 85, 86, 87, 88, 89, 90, 91, 92, 93, 94, 95, 96, 97, 98, 99, 100, 101, 102, 103, 104, 105] (by decide +kernel) (by decide +kernel)
set_option maxRecDepth 20000 in
theorem gX12_clashes_X12_worldComes : GoodIn wsX12_clashes (wsV RX12 407 RX12 yX12_worldComes wsX12_worldComes) := goodIn_app (goodIn_of _ (by decide +kernel)) ggX12_clashes_X12_worldComes
set_option maxRecDepth 20000 in
theorem ggX12_clashes_X12_keyAt : GoodIn wsX12_clashes wsX12_keyAt := goodIn_r _ [29, 30, 31, 1, 32, 9, 33, 34, 35, 36, 37, 38, 39, 40, 41, 42, 43, 44, 45, 46, 47, 48, 49, 50, 51, 52, 53, 54, 55, 56, 57, 58, 59, 60, 61, 62, 63, 64, 65, 66, 67, 68, 69, 70, 71, 72, 73, 74, 75, 76, 77, 78, 79, 80, 81, 82, 83, 84, 85, 86, 87, 88, 89, 90, 91, 92, 93, 94, 95, 96, 97, 98, 99, 100, 101, 102, 103, 104, 105] (by decide +kernel) (by decide +kernel)
set_option maxRecDepth 20000 in
theorem gX12_clashes_X12_keyAt : GoodIn wsX12_clashes (wsV RX12 410 RX12 yX12_keyAt wsX12_keyAt) := goodIn_app (goodIn_of _ (by decide +kernel)) ggX12_clashes_X12_keyAt
theorem dX12_clashes_0 : decode cX12_clashes 0 = .ok (.aload_n 0, 1) := by decide +kernel
theorem dX12_clashes_1 : decode cX12_clashes 1 = .ok (.invokevirtual 401, 3) := by decide +kernel
theorem dX12_clashes_4 : decode cX12_clashes 4 = .ok (.iconst 0, 1) := by decide +kernel
theorem dX12_clashes_5 : decode cX12_clashes 5 = .ok (.istore_n 2, 1) := by decide +kernel
theorem dX12_clashes_6 : decode cX12_clashes 6 = .ok (.iload_n 2, 1) := by decide +kernel
theorem dX12_clashes_7 : decode cX12_clashes 7 = .ok (.aload_n 0, 1) := by decide +kernel
theorem dX12_clashes_8 : decode cX12_clashes 8 = .ok (.invokevirtual 404, 3) := by decide +kernel
theorem dX12_clashes_11 : decode cX12_clashes 11 = .ok (.if_icmp .ge 47, 3) := by decide +kernel
theorem dX12_clashes_14 : decode cX12_clashes 14 = .ok (.aload_n 0, 1) := by decide +kernel
theorem dX12_clashes_15 : decode cX12_clashes 15 = .ok (.getfield 123, 3) := by decide +kernel
theorem dX12_clashes_18 : decode cX12_clashes 18 = .ok (.aload_n 0, 1) := by decide +kernel
theorem dX12_clashes_19 : decode cX12_clashes 19 = .ok (.aload_n 0, 1) := by decide +kernel
theorem dX12_clashes_20 : decode cX12_clashes 20 = .ok (.iload_n 2, 1) := by decide +kernel
theorem dX12_clashes_21 : decode cX12_clashes 21 = .ok (.iload_n 1, 1) := by decide +kernel
theorem dX12_clashes_22 : decode cX12_clashes 22 = .ok (.i2l, 1) := by decide +kernel
theorem dX12_clashes_23 : decode cX12_clashes 23 = .ok (.invokevirtual 407, 3) := by decide +kernel
theorem dX12_clashes_26 : decode cX12_clashes 26 = .ok (.iload_n 2, 1) := by decide +kernel
theorem dX12_clashes_27 : decode cX12_clashes 27 = .ok (.invokevirtual 410, 3) := by decide +kernel
theorem dX12_clashes_30 : decode cX12_clashes 30 = .ok (.iaload, 1) := by decide +kernel
theorem dX12_clashes_31 : decode cX12_clashes 31 = .ok (.istore_n 3, 1) := by decide +kernel
theorem dX12_clashes_32 : decode cX12_clashes 32 = .ok (.iload_n 3, 1) := by decide +kernel
theorem dX12_clashes_33 : decode cX12_clashes 33 = .ok (.iload_n 2, 1) := by decide +kernel
theorem dX12_clashes_34 : decode cX12_clashes 34 = .ok (.if_icmp .ne 6, 3) := by decide +kernel
theorem dX12_clashes_37 : decode cX12_clashes 37 = .ok (.goto 15, 3) := by decide +kernel
theorem dX12_clashes_40 : decode cX12_clashes 40 = .ok (.aload_n 0, 1) := by decide +kernel
theorem dX12_clashes_41 : decode cX12_clashes 41 = .ok (.iload_n 3, 1) := by decide +kernel
theorem dX12_clashes_42 : decode cX12_clashes 42 = .ok (.putfield 414, 3) := by decide +kernel
theorem dX12_clashes_45 : decode cX12_clashes 45 = .ok (.aload_n 0, 1) := by decide +kernel
theorem dX12_clashes_46 : decode cX12_clashes 46 = .ok (.iload_n 2, 1) := by decide +kernel
theorem dX12_clashes_47 : decode cX12_clashes 47 = .ok (.putfield 417, 3) := by decide +kernel
theorem dX12_clashes_50 : decode cX12_clashes 50 = .ok (.iconst 1, 1) := by decide +kernel
theorem dX12_clashes_51 : decode cX12_clashes 51 = .ok (.ireturn, 1) := by decide +kernel
theorem dX12_clashes_52 : decode cX12_clashes 52 = .ok (.iinc 2 1, 3) := by decide +kernel
theorem dX12_clashes_55 : decode cX12_clashes 55 = .ok (.goto (-49), 3) := by decide +kernel
theorem dX12_clashes_58 : decode cX12_clashes 58 = .ok (.iconst 0, 1) := by decide +kernel
theorem dX12_clashes_59 : decode cX12_clashes 59 = .ok (.ireturn, 1) := by decide +kernel
set_option maxRecDepth 20000 in
theorem ggX12_clash_X12_in : GoodIn wsX12_clash wsX12_in := goodIn_r _ [7] (by decide +kernel) (by decide +kernel)
set_option maxRecDepth 20000 in
theorem gX12_clash_X12_in : GoodIn wsX12_clash (va_wsS RX12 332 yX12_in wsX12_in) := goodIn_app (goodIn_of _ (by decide +kernel)) ggX12_clash_X12_in
set_option maxRecDepth 20000 in
theorem ggX12_clash_X12_clashes : GoodIn wsX12_clash wsX12_clashes := goodIn_r _ [11, 12, 3, 2, 13, 14, 15, 6, 16, 17, 18, 19, 20, 21, 22, 23, 24, 25, 26, 27, 28, 29, 30, 31, 32, 33, 34, 35, 36, 37, 38, 39, 40, 41, 42, 43, 44, 45, 46, 47, 48, 49, 50, 51, 52, 53, 54, 55, 56, 57, 58, 59, 60, 61, 62, 63, 64, 65, 66, 67, 68, 69, 70, 71, 72, 73, 74, 75, 76, 77, 78, 79, 80, 81, 82, 83, 84, 85, 86, 87, 88, 89, 90, 91, 92, 93, 94, 95, 96, 97, 98, 99, 100, 101, 102, 103, 104, 105, 106, 107, 108, 109, 110, 111, 112, 113] (by decide +kernel) (by decide +kernel)
set_option maxRecDepth 20000 in
theorem gX12_clash_X12_clashes : GoodIn wsX12_clash (wsV RX12 420 RX12 yX12_clashes wsX12_clashes) := goodIn_app (goodIn_of _ (by decide +kernel)) ggX12_clash_X12_clashes
theorem dX12_clash_0 : decode cX12_clash 0 = .ok (.iload_n 1, 1) := by decide +kernel
theorem dX12_clash_1 : decode cX12_clash 1 = .ok (.i2l, 1) := by decide +kernel
theorem dX12_clash_2 : decode cX12_clash 2 = .ok (.lconst 0, 1) := by decide +kernel
theorem dX12_clash_3 : decode cX12_clash 3 = .ok (.ldc2_w 347, 3) := by decide +kernel
theorem dX12_clash_6 : decode cX12_clash 6 = .ok (.invokestatic 332, 3) := by decide +kernel
theorem dX12_clash_9 : decode cX12_clash 9 = .ok (.ifCond .ne 5, 3) := by decide +kernel
theorem dX12_clash_12 : decode cX12_clash 12 = .ok (.iconst (-1), 1) := by decide +kernel
theorem dX12_clash_13 : decode cX12_clash 13 = .ok (.ireturn, 1) := by decide +kernel
theorem dX12_clash_14 : decode cX12_clash 14 = .ok (.aload_n 0, 1) := by decide +kernel
theorem dX12_clash_15 : decode cX12_clash 15 = .ok (.iload_n 1, 1) := by decide +kernel
theorem dX12_clash_16 : decode cX12_clash 16 = .ok (.invokevirtual 420, 3) := by decide +kernel
theorem dX12_clash_19 : decode cX12_clash 19 = .ok (.ifCond .ne 6, 3) := by decide +kernel
theorem dX12_clash_22 : decode cX12_clash 22 = .ok (.bipush (-2), 2) := by decide +kernel
theorem dX12_clash_24 : decode cX12_clash 24 = .ok (.ireturn, 1) := by decide +kernel
theorem dX12_clash_25 : decode cX12_clash 25 = .ok (.iload_n 2, 1) := by decide +kernel
theorem dX12_clash_26 : decode cX12_clash 26 = .ok (.ifCond .eq 10, 3) := by decide +kernel
theorem dX12_clash_29 : decode cX12_clash 29 = .ok (.aload_n 0, 1) := by decide +kernel
theorem dX12_clash_30 : decode cX12_clash 30 = .ok (.getfield 417, 3) := by decide +kernel
theorem dX12_clash_33 : decode cX12_clash 33 = .ok (.goto 7, 3) := by decide +kernel
theorem dX12_clash_36 : decode cX12_clash 36 = .ok (.aload_n 0, 1) := by decide +kernel
theorem dX12_clash_37 : decode cX12_clash 37 = .ok (.getfield 414, 3) := by decide +kernel
theorem dX12_clash_40 : decode cX12_clash 40 = .ok (.ireturn, 1) := by decide +kernel
set_option maxRecDepth 20000 in
theorem ggX12_world_X12_worldAll : GoodIn wsX12_world wsX12_worldAll := goodIn_r _ [7, 1, 2, 8, 16, 17, 18, 19, 20, 21, 22, 23, 24, 25, 26, 27, 28, 29, 30, 31, 32, 33, 34, 35, 36, 37, 38, 39, 40, 41, 42, 43, 44, 45, 46, 47, 48, 49, 50, 51, 52, 53, 54, 55, 56, 57, 58, 59, 60, 61, 62, 63, 64, 65, 66, 67, 68, 69, 70, 71, 72, 73, 74, 75, 76, 77, 78, 79, 80, 81, 82, 83, 84, 85, 86, 87, 88] (by decide +kernel) (by decide +kernel)
set_option maxRecDepth 20000 in
theorem gX12_world_X12_worldAll : GoodIn wsX12_world (wsV RX12 404 RX12 yX12_worldAll wsX12_worldAll) := goodIn_app (goodIn_of _ (by decide +kernel)) ggX12_world_X12_worldAll
set_option maxRecDepth 20000 in
theorem ggX12_world_X12_in : GoodIn wsX12_world wsX12_in := goodIn_r _ [11] (by decide +kernel) (by decide +kernel)
set_option maxRecDepth 20000 in
theorem gX12_world_X12_in : GoodIn wsX12_world (va_wsS RX12 332 yX12_in wsX12_in) := goodIn_app (goodIn_of _ (by decide +kernel)) ggX12_world_X12_in
set_option maxRecDepth 20000 in
theorem ggX12_world_X12_figureOf : GoodIn wsX12_world wsX12_figureOf := goodIn_r _ [15, 8, 2, 16, 17, 18, 19, 20, 21, 22, 23, 24, 25, 26, 27, 28, 29, 30, 31, 32, 33, 34, 35, 36, 37, 38, 39, 40, 41, 42, 43, 44, 45, 46, 47, 48, 49, 50, 51, 52, 53, 54, 55, 56, 57, 58, 59, 60, 61, 62, 63, 64, 65, 66, 67, 68, 69, 70, 71, 72, 73, 74, 75, 76, 77, 78, 79, 80, 81, 82, 83, 84, 85, 86, 87, 88] (by decide +kernel) (by decide +kernel)
set_option maxRecDepth 20000 in
theorem gX12_world_X12_figureOf : GoodIn wsX12_world (wsV RX12 394 RX12 yX12_figureOf wsX12_figureOf) := goodIn_app (goodIn_of _ (by decide +kernel)) ggX12_world_X12_figureOf
theorem dX12_world_0 : decode cX12_world 0 = .ok (.iload_n 2, 1) := by decide +kernel
theorem dX12_world_1 : decode cX12_world 1 = .ok (.iconst (-1), 1) := by decide +kernel
theorem dX12_world_2 : decode cX12_world 2 = .ok (.if_icmp .ne 8, 3) := by decide +kernel
theorem dX12_world_5 : decode cX12_world 5 = .ok (.aload_n 0, 1) := by decide +kernel
theorem dX12_world_6 : decode cX12_world 6 = .ok (.invokevirtual 404, 3) := by decide +kernel
theorem dX12_world_9 : decode cX12_world 9 = .ok (.ireturn, 1) := by decide +kernel
theorem dX12_world_10 : decode cX12_world 10 = .ok (.iload_n 1, 1) := by decide +kernel
theorem dX12_world_11 : decode cX12_world 11 = .ok (.i2l, 1) := by decide +kernel
theorem dX12_world_12 : decode cX12_world 12 = .ok (.lconst 0, 1) := by decide +kernel
theorem dX12_world_13 : decode cX12_world 13 = .ok (.aload_n 0, 1) := by decide +kernel
theorem dX12_world_14 : decode cX12_world 14 = .ok (.invokevirtual 404, 3) := by decide +kernel
theorem dX12_world_17 : decode cX12_world 17 = .ok (.iconst 1, 1) := by decide +kernel
theorem dX12_world_18 : decode cX12_world 18 = .ok (.isub, 1) := by decide +kernel
theorem dX12_world_19 : decode cX12_world 19 = .ok (.i2l, 1) := by decide +kernel
theorem dX12_world_20 : decode cX12_world 20 = .ok (.invokestatic 332, 3) := by decide +kernel
theorem dX12_world_23 : decode cX12_world 23 = .ok (.ifCond .eq 33, 3) := by decide +kernel
theorem dX12_world_26 : decode cX12_world 26 = .ok (.iload_n 2, 1) := by decide +kernel
theorem dX12_world_27 : decode cX12_world 27 = .ok (.i2l, 1) := by decide +kernel
theorem dX12_world_28 : decode cX12_world 28 = .ok (.lconst 0, 1) := by decide +kernel
theorem dX12_world_29 : decode cX12_world 29 = .ok (.aload_n 0, 1) := by decide +kernel
theorem dX12_world_30 : decode cX12_world 30 = .ok (.getfield 73, 3) := by decide +kernel
theorem dX12_world_33 : decode cX12_world 33 = .ok (.aload_n 0, 1) := by decide +kernel
theorem dX12_world_34 : decode cX12_world 34 = .ok (.getfield 243, 3) := by decide +kernel
theorem dX12_world_37 : decode cX12_world 37 = .ok (.iaload, 1) := by decide +kernel
theorem dX12_world_38 : decode cX12_world 38 = .ok (.iconst 1, 1) := by decide +kernel
theorem dX12_world_39 : decode cX12_world 39 = .ok (.isub, 1) := by decide +kernel
theorem dX12_world_40 : decode cX12_world 40 = .ok (.i2l, 1) := by decide +kernel
theorem dX12_world_41 : decode cX12_world 41 = .ok (.invokestatic 332, 3) := by decide +kernel
theorem dX12_world_44 : decode cX12_world 44 = .ok (.ifCond .eq 12, 3) := by decide +kernel
theorem dX12_world_47 : decode cX12_world 47 = .ok (.aload_n 0, 1) := by decide +kernel
theorem dX12_world_48 : decode cX12_world 48 = .ok (.iload_n 1, 1) := by decide +kernel
theorem dX12_world_49 : decode cX12_world 49 = .ok (.iload_n 2, 1) := by decide +kernel
theorem dX12_world_50 : decode cX12_world 50 = .ok (.invokevirtual 394, 3) := by decide +kernel
theorem dX12_world_53 : decode cX12_world 53 = .ok (.goto 4, 3) := by decide +kernel
theorem dX12_world_56 : decode cX12_world 56 = .ok (.iconst (-1), 1) := by decide +kernel
theorem dX12_world_57 : decode cX12_world 57 = .ok (.ireturn, 1) := by decide +kernel
set_option maxRecDepth 20000 in
theorem ggX12_once_X12_clashes : GoodIn wsX12_once wsX12_clashes := goodIn_r _ [5, 6, 7, 8, 9, 10, 11, 4, 12, 13, 14, 15, 16, 17, 18, 19, 20, 21, 22, 23, 24, 25, 26, 27, 28, 29, 30, 31, 32, 33, 34, 35, 36, 37, 38, 39, 40, 41, 42, 43, 44, 45, 46, 47, 48, 49, 50, 51, 52, 53, 54, 55, 56, 57, 58, 59, 60, 61, 62, 63, 64, 65, 66, 67, 68, 69, 70, 71, 72, 73, 74, 75, 76, 77, 78, 79, 80, 81, 82, 83, 84, 85, 86, 87, 88, 89, 90, 91, 92, 93, 94, 95, 96, 97, 98, 99, 100, 101, 102, 103, 104, 105, 106, 107, 108, 109] (by decide +kernel) (by decide +kernel)
set_option maxRecDepth 20000 in
theorem gX12_once_X12_clashes : GoodIn wsX12_once (wsV RX12 420 RX12 yX12_clashes wsX12_clashes) := goodIn_app (goodIn_of _ (by decide +kernel)) ggX12_once_X12_clashes
theorem dX12_once_0 : decode cX12_once 0 = .ok (.iconst 0, 1) := by decide +kernel
theorem dX12_once_1 : decode cX12_once 1 = .ok (.istore_n 1, 1) := by decide +kernel
theorem dX12_once_2 : decode cX12_once 2 = .ok (.aload_n 0, 1) := by decide +kernel
theorem dX12_once_3 : decode cX12_once 3 = .ok (.iload_n 1, 1) := by decide +kernel
theorem dX12_once_4 : decode cX12_once 4 = .ok (.invokevirtual 420, 3) := by decide +kernel
theorem dX12_once_7 : decode cX12_once 7 = .ok (.ifCond .eq 9, 3) := by decide +kernel
theorem dX12_once_10 : decode cX12_once 10 = .ok (.iinc 1 1, 3) := by decide +kernel
theorem dX12_once_13 : decode cX12_once 13 = .ok (.goto (-11), 3) := by decide +kernel
theorem dX12_once_16 : decode cX12_once 16 = .ok (.iload_n 1, 1) := by decide +kernel
theorem dX12_once_17 : decode cX12_once 17 = .ok (.ireturn, 1) := by decide +kernel
set_option maxRecDepth 20000 in
theorem ggX12_fullPlaces_X12_figureOf : GoodIn wsX12_fullPlaces wsX12_figureOf := goodIn_r _ [7, 8, 2, 9, 10, 11, 12, 13, 14, 15, 16, 17, 18, 19, 20, 21, 22, 23, 24, 25, 26, 27, 28, 29, 30, 31, 32, 33, 34, 35, 36, 37, 38, 39, 40, 41, 42, 43, 44, 45, 46, 47, 48, 49, 50, 51, 52, 53, 54, 55, 56, 57, 58, 59, 60, 61, 62, 63, 64, 65, 66, 67, 68, 69, 70, 71, 72, 73, 74, 75, 76, 77, 78, 79, 80, 81] (by decide +kernel) (by decide +kernel)
set_option maxRecDepth 20000 in
theorem gX12_fullPlaces_X12_figureOf : GoodIn wsX12_fullPlaces (wsV RX12 394 RX12 yX12_figureOf wsX12_figureOf) := goodIn_app (goodIn_of _ (by decide +kernel)) ggX12_fullPlaces_X12_figureOf
theorem dX12_fullPlaces_0 : decode cX12_fullPlaces 0 = .ok (.iconst 0, 1) := by decide +kernel
theorem dX12_fullPlaces_1 : decode cX12_fullPlaces 1 = .ok (.istore_n 2, 1) := by decide +kernel
theorem dX12_fullPlaces_2 : decode cX12_fullPlaces 2 = .ok (.iconst 0, 1) := by decide +kernel
theorem dX12_fullPlaces_3 : decode cX12_fullPlaces 3 = .ok (.istore_n 3, 1) := by decide +kernel
theorem dX12_fullPlaces_4 : decode cX12_fullPlaces 4 = .ok (.iload_n 3, 1) := by decide +kernel
theorem dX12_fullPlaces_5 : decode cX12_fullPlaces 5 = .ok (.aload_n 0, 1) := by decide +kernel
theorem dX12_fullPlaces_6 : decode cX12_fullPlaces 6 = .ok (.getfield 73, 3) := by decide +kernel
theorem dX12_fullPlaces_9 : decode cX12_fullPlaces 9 = .ok (.aload_n 0, 1) := by decide +kernel
theorem dX12_fullPlaces_10 : decode cX12_fullPlaces 10 = .ok (.getfield 243, 3) := by decide +kernel
theorem dX12_fullPlaces_13 : decode cX12_fullPlaces 13 = .ok (.iaload, 1) := by decide +kernel
theorem dX12_fullPlaces_14 : decode cX12_fullPlaces 14 = .ok (.if_icmp .ge 21, 3) := by decide +kernel
theorem dX12_fullPlaces_17 : decode cX12_fullPlaces 17 = .ok (.aload_n 0, 1) := by decide +kernel
theorem dX12_fullPlaces_18 : decode cX12_fullPlaces 18 = .ok (.iload_n 1, 1) := by decide +kernel
theorem dX12_fullPlaces_19 : decode cX12_fullPlaces 19 = .ok (.iload_n 3, 1) := by decide +kernel
theorem dX12_fullPlaces_20 : decode cX12_fullPlaces 20 = .ok (.invokevirtual 394, 3) := by decide +kernel
theorem dX12_fullPlaces_23 : decode cX12_fullPlaces 23 = .ok (.ifCond .eq 6, 3) := by decide +kernel
theorem dX12_fullPlaces_26 : decode cX12_fullPlaces 26 = .ok (.iinc 2 1, 3) := by decide +kernel
theorem dX12_fullPlaces_29 : decode cX12_fullPlaces 29 = .ok (.iinc 3 1, 3) := by decide +kernel
theorem dX12_fullPlaces_32 : decode cX12_fullPlaces 32 = .ok (.goto (-28), 3) := by decide +kernel
theorem dX12_fullPlaces_35 : decode cX12_fullPlaces 35 = .ok (.iload_n 2, 1) := by decide +kernel
theorem dX12_fullPlaces_36 : decode cX12_fullPlaces 36 = .ok (.ireturn, 1) := by decide +kernel
set_option maxRecDepth 20000 in
theorem ggX12_few_X12_in : GoodIn wsX12_few wsX12_in := goodIn_r _ [8] (by decide +kernel) (by decide +kernel)
set_option maxRecDepth 20000 in
theorem gX12_few_X12_in : GoodIn wsX12_few (va_wsS RX12 332 yX12_in wsX12_in) := goodIn_app (goodIn_of _ (by decide +kernel)) ggX12_few_X12_in
set_option maxRecDepth 20000 in
theorem ggX12_few_X12_worldAll : GoodIn wsX12_few wsX12_worldAll := goodIn_r _ [12, 13, 14, 15, 41, 42, 43, 44, 45, 46, 47, 48, 49, 50, 51, 52, 53, 54, 55, 56, 57, 58, 59, 60, 61, 62, 63, 64, 65, 66, 67, 68, 69, 70, 71, 72, 73, 74, 75, 76, 77, 78, 79, 80, 81, 82, 83, 84, 85, 86, 87, 88, 89, 90, 91, 92, 93, 94, 95, 96, 97, 98, 99, 100, 101, 102, 103, 104, 105, 106, 107, 108, 109, 110, 111, 112, 113] (by decide +kernel) (by decide +kernel)
set_option maxRecDepth 20000 in
theorem gX12_few_X12_worldAll : GoodIn wsX12_few (wsV RX12 404 RX12 yX12_worldAll wsX12_worldAll) := goodIn_app (goodIn_of _ (by decide +kernel)) ggX12_few_X12_worldAll
set_option maxRecDepth 20000 in
theorem ggX12_few_X12_fullPlaces : GoodIn wsX12_few wsX12_fullPlaces := goodIn_r _ [19, 13, 14, 20, 21, 22, 7, 23, 15, 41, 42, 43, 44, 45, 46, 47, 48, 49, 50, 51, 52, 53, 54, 55, 56, 57, 58, 59, 60, 61, 62, 63, 64, 65, 66, 67, 68, 69, 70, 71, 72, 73, 74, 75, 76, 77, 78, 79, 80, 81, 82, 83, 84, 85, 86, 87, 88, 89, 90, 91, 92, 93, 94, 95, 96, 97, 98, 99, 100, 101, 102, 103, 104, 105, 106, 107, 108, 109, 110, 111, 112, 113] (by decide +kernel) (by decide +kernel)
set_option maxRecDepth 20000 in
theorem gX12_few_X12_fullPlaces : GoodIn wsX12_few (wsV RX12 425 RX12 yX12_fullPlaces wsX12_fullPlaces) := goodIn_app (goodIn_of _ (by decide +kernel)) ggX12_few_X12_fullPlaces
set_option maxRecDepth 20000 in
theorem ggX12_few_X12_clears : GoodIn wsX12_few wsX12_clears := goodIn_r _ [27, 28, 3, 29, 41, 42, 43, 44, 45, 46, 47, 48, 49, 50, 51, 52, 53, 54, 55, 56, 57, 58, 59, 60, 61, 62, 63, 64, 65, 66, 67, 68, 69, 70, 71, 72, 73, 74, 75, 76, 77, 78, 79, 80, 81, 82, 83, 84, 85, 86, 87, 88, 89, 90, 91, 92, 93, 94, 95, 96, 97, 98, 99, 100, 101, 102, 103, 104, 105, 106, 107, 108, 109, 110, 111, 112, 113] (by decide +kernel) (by decide +kernel)
set_option maxRecDepth 20000 in
theorem gX12_few_X12_clears : GoodIn wsX12_few (wsV RX12 401 RX12 yX12_clears wsX12_clears) := goodIn_app (goodIn_of _ (by decide +kernel)) ggX12_few_X12_clears
set_option maxRecDepth 20000 in
theorem ggX12_few_X12_worldComes : GoodIn wsX12_few wsX12_worldComes := goodIn_r _ [33, 13, 14, 20, 21, 22, 7, 23, 15, 41, 42, 43, 44, 45, 46, 47, 48, 49, 50, 51, 52, 53, 54, 55, 56, 57, 58, 59, 60, 61, 62, 63, 64, 65, 66, 67, 68, 69, 70, 71, 72, 73, 74, 75, 76, 77, 78, 79, 80, 81, 82, 83, 84, 85, 86, 87, 88, 89, 90, 91, 92, 93, 94, 95, 96, 97, 98, 99, 100, 101, 102, 103, 104, 105, 106, 107, 108, 109, 110, 111, 112, 113] (by decide +kernel) (by decide +kernel)
set_option maxRecDepth 20000 in
theorem gX12_few_X12_worldComes : GoodIn wsX12_few (wsV RX12 407 RX12 yX12_worldComes wsX12_worldComes) := goodIn_app (goodIn_of _ (by decide +kernel)) ggX12_few_X12_worldComes
set_option maxRecDepth 20000 in
theorem ggX12_few_X12_keyAt : GoodIn wsX12_few wsX12_keyAt := goodIn_r _ [37, 38, 39, 3, 40, 28, 41, 42, 43, 44, 45, 46, 47, 48, 49, 50, 51, 52, 53, 54, 55, 56, 57, 58, 59, 60, 61, 62, 63, 64, 65, 66, 67, 68, 69, 70, 71, 72, 73, 74, 75, 76, 77, 78, 79, 80, 81, 82, 83, 84, 85, 86, 87, 88, 89, 90, 91, 92, 93, 94, 95, 96, 97, 98, 99, 100, 101, 102, 103, 104, 105, 106, 107, 108, 109, 110, 111, 112, 113] (by decide +kernel) (by decide +kernel)
set_option maxRecDepth 20000 in
theorem gX12_few_X12_keyAt : GoodIn wsX12_few (wsV RX12 410 RX12 yX12_keyAt wsX12_keyAt) := goodIn_app (goodIn_of _ (by decide +kernel)) ggX12_few_X12_keyAt
theorem dX12_few_0 : decode cX12_few 0 = .ok (.iload_n 1, 1) := by decide +kernel
theorem dX12_few_1 : decode cX12_few 1 = .ok (.i2l, 1) := by decide +kernel
theorem dX12_few_2 : decode cX12_few 2 = .ok (.lconst 0, 1) := by decide +kernel
theorem dX12_few_3 : decode cX12_few 3 = .ok (.ldc2_w 423, 3) := by decide +kernel
theorem dX12_few_6 : decode cX12_few 6 = .ok (.invokestatic 332, 3) := by decide +kernel
theorem dX12_few_9 : decode cX12_few 9 = .ok (.ifCond .ne 5, 3) := by decide +kernel
theorem dX12_few_12 : decode cX12_few 12 = .ok (.iconst (-1), 1) := by decide +kernel
theorem dX12_few_13 : decode cX12_few 13 = .ok (.ireturn, 1) := by decide +kernel
theorem dX12_few_14 : decode cX12_few 14 = .ok (.iconst 0, 1) := by decide +kernel
theorem dX12_few_15 : decode cX12_few 15 = .ok (.istore_n 2, 1) := by decide +kernel
theorem dX12_few_16 : decode cX12_few 16 = .ok (.iload_n 2, 1) := by decide +kernel
theorem dX12_few_17 : decode cX12_few 17 = .ok (.aload_n 0, 1) := by decide +kernel
theorem dX12_few_18 : decode cX12_few 18 = .ok (.invokevirtual 404, 3) := by decide +kernel
theorem dX12_few_21 : decode cX12_few 21 = .ok (.if_icmp .ge 29, 3) := by decide +kernel
theorem dX12_few_24 : decode cX12_few 24 = .ok (.aload_n 0, 1) := by decide +kernel
theorem dX12_few_25 : decode cX12_few 25 = .ok (.getfield 129, 3) := by decide +kernel
theorem dX12_few_28 : decode cX12_few 28 = .ok (.iload_n 2, 1) := by decide +kernel
theorem dX12_few_29 : decode cX12_few 29 = .ok (.aload_n 0, 1) := by decide +kernel
theorem dX12_few_30 : decode cX12_few 30 = .ok (.iload_n 2, 1) := by decide +kernel
theorem dX12_few_31 : decode cX12_few 31 = .ok (.invokevirtual 425, 3) := by decide +kernel
theorem dX12_few_34 : decode cX12_few 34 = .ok (.iload_n 1, 1) := by decide +kernel
theorem dX12_few_35 : decode cX12_few 35 = .ok (.if_icmp .gt 7, 3) := by decide +kernel
theorem dX12_few_38 : decode cX12_few 38 = .ok (.iconst 0, 1) := by decide +kernel
theorem dX12_few_39 : decode cX12_few 39 = .ok (.goto 4, 3) := by decide +kernel
theorem dX12_few_42 : decode cX12_few 42 = .ok (.iconst (-1), 1) := by decide +kernel
theorem dX12_few_43 : decode cX12_few 43 = .ok (.iastore, 1) := by decide +kernel
theorem dX12_few_44 : decode cX12_few 44 = .ok (.iinc 2 1, 3) := by decide +kernel
theorem dX12_few_47 : decode cX12_few 47 = .ok (.goto (-31), 3) := by decide +kernel
theorem dX12_few_50 : decode cX12_few 50 = .ok (.iconst 1, 1) := by decide +kernel
theorem dX12_few_51 : decode cX12_few 51 = .ok (.istore_n 2, 1) := by decide +kernel
theorem dX12_few_52 : decode cX12_few 52 = .ok (.iload_n 2, 1) := by decide +kernel
theorem dX12_few_53 : decode cX12_few 53 = .ok (.bipush 10, 2) := by decide +kernel
theorem dX12_few_55 : decode cX12_few 55 = .ok (.if_icmp .ge 112, 3) := by decide +kernel
theorem dX12_few_58 : decode cX12_few 58 = .ok (.aload_n 0, 1) := by decide +kernel
theorem dX12_few_59 : decode cX12_few 59 = .ok (.invokevirtual 401, 3) := by decide +kernel
theorem dX12_few_62 : decode cX12_few 62 = .ok (.iconst 0, 1) := by decide +kernel
theorem dX12_few_63 : decode cX12_few 63 = .ok (.istore_n 3, 1) := by decide +kernel
theorem dX12_few_64 : decode cX12_few 64 = .ok (.iconst 0, 1) := by decide +kernel
theorem dX12_few_65 : decode cX12_few 65 = .ok (.istore 4, 2) := by decide +kernel
theorem dX12_few_67 : decode cX12_few 67 = .ok (.iload 4, 2) := by decide +kernel
theorem dX12_few_69 : decode cX12_few 69 = .ok (.aload_n 0, 1) := by decide +kernel
theorem dX12_few_70 : decode cX12_few 70 = .ok (.invokevirtual 404, 3) := by decide +kernel
theorem dX12_few_73 : decode cX12_few 73 = .ok (.if_icmp .ge 82, 3) := by decide +kernel
theorem dX12_few_76 : decode cX12_few 76 = .ok (.aload_n 0, 1) := by decide +kernel
theorem dX12_few_77 : decode cX12_few 77 = .ok (.getfield 129, 3) := by decide +kernel
theorem dX12_few_80 : decode cX12_few 80 = .ok (.iload 4, 2) := by decide +kernel
theorem dX12_few_82 : decode cX12_few 82 = .ok (.iaload, 1) := by decide +kernel
theorem dX12_few_83 : decode cX12_few 83 = .ok (.ifCond .ge 6, 3) := by decide +kernel
theorem dX12_few_86 : decode cX12_few 86 = .ok (.goto 63, 3) := by decide +kernel
theorem dX12_few_89 : decode cX12_few 89 = .ok (.aload_n 0, 1) := by decide +kernel
theorem dX12_few_90 : decode cX12_few 90 = .ok (.getfield 123, 3) := by decide +kernel
theorem dX12_few_93 : decode cX12_few 93 = .ok (.aload_n 0, 1) := by decide +kernel
theorem dX12_few_94 : decode cX12_few 94 = .ok (.ldc2_w 428, 3) := by decide +kernel
theorem dX12_few_97 : decode cX12_few 97 = .ok (.aload_n 0, 1) := by decide +kernel
theorem dX12_few_98 : decode cX12_few 98 = .ok (.getfield 129, 3) := by decide +kernel
theorem dX12_few_101 : decode cX12_few 101 = .ok (.iload 4, 2) := by decide +kernel
theorem dX12_few_103 : decode cX12_few 103 = .ok (.iaload, 1) := by decide +kernel
theorem dX12_few_104 : decode cX12_few 104 = .ok (.i2l, 1) := by decide +kernel
theorem dX12_few_105 : decode cX12_few 105 = .ok (.lmul, 1) := by decide +kernel
theorem dX12_few_106 : decode cX12_few 106 = .ok (.aload_n 0, 1) := by decide +kernel
theorem dX12_few_107 : decode cX12_few 107 = .ok (.iload 4, 2) := by decide +kernel
theorem dX12_few_109 : decode cX12_few 109 = .ok (.iload_n 2, 1) := by decide +kernel
theorem dX12_few_110 : decode cX12_few 110 = .ok (.i2l, 1) := by decide +kernel
theorem dX12_few_111 : decode cX12_few 111 = .ok (.invokevirtual 407, 3) := by decide +kernel
theorem dX12_few_114 : decode cX12_few 114 = .ok (.ladd, 1) := by decide +kernel
theorem dX12_few_115 : decode cX12_few 115 = .ok (.iload 4, 2) := by decide +kernel
theorem dX12_few_117 : decode cX12_few 117 = .ok (.invokevirtual 410, 3) := by decide +kernel
theorem dX12_few_120 : decode cX12_few 120 = .ok (.iaload, 1) := by decide +kernel
theorem dX12_few_121 : decode cX12_few 121 = .ok (.istore 5, 2) := by decide +kernel
theorem dX12_few_123 : decode cX12_few 123 = .ok (.iload_n 3, 1) := by decide +kernel
theorem dX12_few_124 : decode cX12_few 124 = .ok (.ifCond .ne 10, 3) := by decide +kernel
theorem dX12_few_127 : decode cX12_few 127 = .ok (.iload 5, 2) := by decide +kernel
theorem dX12_few_129 : decode cX12_few 129 = .ok (.iload 4, 2) := by decide +kernel
theorem dX12_few_131 : decode cX12_few 131 = .ok (.if_icmp .eq 7, 3) := by decide +kernel
theorem dX12_few_134 : decode cX12_few 134 = .ok (.iconst 1, 1) := by decide +kernel
theorem dX12_few_135 : decode cX12_few 135 = .ok (.goto 4, 3) := by decide +kernel
theorem dX12_few_138 : decode cX12_few 138 = .ok (.iconst 0, 1) := by decide +kernel
theorem dX12_few_139 : decode cX12_few 139 = .ok (.istore_n 3, 1) := by decide +kernel
theorem dX12_few_140 : decode cX12_few 140 = .ok (.aload_n 0, 1) := by decide +kernel
theorem dX12_few_141 : decode cX12_few 141 = .ok (.getfield 129, 3) := by decide +kernel
theorem dX12_few_144 : decode cX12_few 144 = .ok (.iload 4, 2) := by decide +kernel
theorem dX12_few_146 : decode cX12_few 146 = .ok (.iload 5, 2) := by decide +kernel
theorem dX12_few_148 : decode cX12_few 148 = .ok (.iastore, 1) := by decide +kernel
theorem dX12_few_149 : decode cX12_few 149 = .ok (.iinc 4 1, 3) := by decide +kernel
theorem dX12_few_152 : decode cX12_few 152 = .ok (.goto (-85), 3) := by decide +kernel
theorem dX12_few_155 : decode cX12_few 155 = .ok (.iload_n 3, 1) := by decide +kernel
theorem dX12_few_156 : decode cX12_few 156 = .ok (.ifCond .ne 5, 3) := by decide +kernel
theorem dX12_few_159 : decode cX12_few 159 = .ok (.iload_n 2, 1) := by decide +kernel
theorem dX12_few_160 : decode cX12_few 160 = .ok (.ireturn, 1) := by decide +kernel
theorem dX12_few_161 : decode cX12_few 161 = .ok (.iinc 2 1, 3) := by decide +kernel
theorem dX12_few_164 : decode cX12_few 164 = .ok (.goto (-112), 3) := by decide +kernel
theorem dX12_few_167 : decode cX12_few 167 = .ok (.bipush (-2), 2) := by decide +kernel
theorem dX12_few_169 : decode cX12_few 169 = .ok (.ireturn, 1) := by decide +kernel
set_option maxRecDepth 20000 in
theorem ggX12_tell__X12_in : GoodIn wsX12_tell_ wsX12_in := goodIn_r _ [11] (by decide +kernel) (by decide +kernel)
set_option maxRecDepth 20000 in
theorem gX12_tell__X12_in : GoodIn wsX12_tell_ (va_wsS RX12 332 yX12_in wsX12_in) := goodIn_app (goodIn_of _ (by decide +kernel)) ggX12_tell__X12_in
theorem dX12_tell__0 : decode cX12_tell_ 0 = .ok (.aload_n 0, 1) := by decide +kernel
theorem dX12_tell__1 : decode cX12_tell_ 1 = .ok (.getfield 265, 3) := by decide +kernel
theorem dX12_tell__4 : decode cX12_tell_ 4 = .ok (.bipush 20, 2) := by decide +kernel
theorem dX12_tell__6 : decode cX12_tell_ 6 = .ok (.if_icmp .eq 30, 3) := by decide +kernel
theorem dX12_tell__9 : decode cX12_tell_ 9 = .ok (.iload_n 1, 1) := by decide +kernel
theorem dX12_tell__10 : decode cX12_tell_ 10 = .ok (.i2l, 1) := by decide +kernel
theorem dX12_tell__11 : decode cX12_tell_ 11 = .ok (.ldc2_w 430, 3) := by decide +kernel
theorem dX12_tell__14 : decode cX12_tell_ 14 = .ok (.ldc2_w 432, 3) := by decide +kernel
theorem dX12_tell__17 : decode cX12_tell_ 17 = .ok (.invokestatic 332, 3) := by decide +kernel
theorem dX12_tell__20 : decode cX12_tell_ 20 = .ok (.ifCond .eq 16, 3) := by decide +kernel
theorem dX12_tell__23 : decode cX12_tell_ 23 = .ok (.lload_n 2, 1) := by decide +kernel
theorem dX12_tell__24 : decode cX12_tell_ 24 = .ok (.ldc2_w 434, 3) := by decide +kernel
theorem dX12_tell__27 : decode cX12_tell_ 27 = .ok (.ldc2_w 436, 3) := by decide +kernel
theorem dX12_tell__30 : decode cX12_tell_ 30 = .ok (.invokestatic 332, 3) := by decide +kernel
theorem dX12_tell__33 : decode cX12_tell_ 33 = .ok (.ifCond .ne 5, 3) := by decide +kernel
theorem dX12_tell__36 : decode cX12_tell_ 36 = .ok (.iconst (-1), 1) := by decide +kernel
theorem dX12_tell__37 : decode cX12_tell_ 37 = .ok (.ireturn, 1) := by decide +kernel
theorem dX12_tell__38 : decode cX12_tell_ 38 = .ok (.aload_n 0, 1) := by decide +kernel
theorem dX12_tell__39 : decode cX12_tell_ 39 = .ok (.getfield 132, 3) := by decide +kernel
theorem dX12_tell__42 : decode cX12_tell_ 42 = .ok (.aload_n 0, 1) := by decide +kernel
theorem dX12_tell__43 : decode cX12_tell_ 43 = .ok (.getfield 265, 3) := by decide +kernel
theorem dX12_tell__46 : decode cX12_tell_ 46 = .ok (.iload_n 1, 1) := by decide +kernel
theorem dX12_tell__47 : decode cX12_tell_ 47 = .ok (.iastore, 1) := by decide +kernel
theorem dX12_tell__48 : decode cX12_tell_ 48 = .ok (.aload_n 0, 1) := by decide +kernel
theorem dX12_tell__49 : decode cX12_tell_ 49 = .ok (.getfield 135, 3) := by decide +kernel
theorem dX12_tell__52 : decode cX12_tell_ 52 = .ok (.aload_n 0, 1) := by decide +kernel
theorem dX12_tell__53 : decode cX12_tell_ 53 = .ok (.getfield 265, 3) := by decide +kernel
theorem dX12_tell__56 : decode cX12_tell_ 56 = .ok (.lload_n 2, 1) := by decide +kernel
theorem dX12_tell__57 : decode cX12_tell_ 57 = .ok (.lastore, 1) := by decide +kernel
theorem dX12_tell__58 : decode cX12_tell_ 58 = .ok (.aload_n 0, 1) := by decide +kernel
theorem dX12_tell__59 : decode cX12_tell_ 59 = .ok (.dup, 1) := by decide +kernel
theorem dX12_tell__60 : decode cX12_tell_ 60 = .ok (.getfield 265, 3) := by decide +kernel
theorem dX12_tell__63 : decode cX12_tell_ 63 = .ok (.iconst 1, 1) := by decide +kernel
theorem dX12_tell__64 : decode cX12_tell_ 64 = .ok (.iadd, 1) := by decide +kernel
theorem dX12_tell__65 : decode cX12_tell_ 65 = .ok (.putfield 265, 3) := by decide +kernel
theorem dX12_tell__68 : decode cX12_tell_ 68 = .ok (.aload_n 0, 1) := by decide +kernel
theorem dX12_tell__69 : decode cX12_tell_ 69 = .ok (.getfield 265, 3) := by decide +kernel
theorem dX12_tell__72 : decode cX12_tell_ 72 = .ok (.iconst 1, 1) := by decide +kernel
theorem dX12_tell__73 : decode cX12_tell_ 73 = .ok (.isub, 1) := by decide +kernel
theorem dX12_tell__74 : decode cX12_tell_ 74 = .ok (.ireturn, 1) := by decide +kernel
theorem dX12_forget_0 : decode cX12_forget 0 = .ok (.aload_n 0, 1) := by decide +kernel
theorem dX12_forget_1 : decode cX12_forget 1 = .ok (.getfield 265, 3) := by decide +kernel
theorem dX12_forget_4 : decode cX12_forget 4 = .ok (.istore_n 1, 1) := by decide +kernel
theorem dX12_forget_5 : decode cX12_forget 5 = .ok (.aload_n 0, 1) := by decide +kernel
theorem dX12_forget_6 : decode cX12_forget 6 = .ok (.iconst 0, 1) := by decide +kernel
theorem dX12_forget_7 : decode cX12_forget 7 = .ok (.putfield 265, 3) := by decide +kernel
theorem dX12_forget_10 : decode cX12_forget 10 = .ok (.iload_n 1, 1) := by decide +kernel
theorem dX12_forget_11 : decode cX12_forget 11 = .ok (.ireturn, 1) := by decide +kernel
set_option maxRecDepth 20000 in
theorem ggX12_isRight_X12_worldComes : GoodIn wsX12_isRight wsX12_worldComes := goodIn_r _ [7, 8, 9, 10, 11, 12, 6, 13, 14, 15, 16, 17, 18, 19, 20, 21, 22, 23, 24, 25, 26, 27, 28, 29, 30, 31, 32, 33, 34, 35, 36, 37, 38, 39, 40, 41, 42, 43, 44, 45, 46, 47, 48, 49, 50, 51, 52, 53, 54, 55, 56, 57, 58, 59, 60, 61, 62, 63, 64, 65, 66, 67, 68, 69, 70, 71, 72, 73, 74, 75, 76, 77, 78, 79, 80, 81, 82, 83, 84, 85, 86, 87] (by decide +kernel) (by decide +kernel)
set_option maxRecDepth 20000 in
theorem gX12_isRight_X12_worldComes : GoodIn wsX12_isRight (wsV RX12 407 RX12 yX12_worldComes wsX12_worldComes) := goodIn_app (goodIn_of _ (by decide +kernel)) ggX12_isRight_X12_worldComes
theorem dX12_isRight_0 : decode cX12_isRight 0 = .ok (.aload_n 0, 1) := by decide +kernel
theorem dX12_isRight_1 : decode cX12_isRight 1 = .ok (.iload_n 1, 1) := by decide +kernel
theorem dX12_isRight_2 : decode cX12_isRight 2 = .ok (.aload_n 0, 1) := by decide +kernel
theorem dX12_isRight_3 : decode cX12_isRight 3 = .ok (.getfield 132, 3) := by decide +kernel
theorem dX12_isRight_6 : decode cX12_isRight 6 = .ok (.iload_n 2, 1) := by decide +kernel
theorem dX12_isRight_7 : decode cX12_isRight 7 = .ok (.iaload, 1) := by decide +kernel
theorem dX12_isRight_8 : decode cX12_isRight 8 = .ok (.i2l, 1) := by decide +kernel
theorem dX12_isRight_9 : decode cX12_isRight 9 = .ok (.invokevirtual 407, 3) := by decide +kernel
theorem dX12_isRight_12 : decode cX12_isRight 12 = .ok (.aload_n 0, 1) := by decide +kernel
theorem dX12_isRight_13 : decode cX12_isRight 13 = .ok (.getfield 135, 3) := by decide +kernel
theorem dX12_isRight_16 : decode cX12_isRight 16 = .ok (.iload_n 2, 1) := by decide +kernel
theorem dX12_isRight_17 : decode cX12_isRight 17 = .ok (.laload, 1) := by decide +kernel
theorem dX12_isRight_18 : decode cX12_isRight 18 = .ok (.lcmp, 1) := by decide +kernel
theorem dX12_isRight_19 : decode cX12_isRight 19 = .ok (.ifCond .ne 7, 3) := by decide +kernel
theorem dX12_isRight_22 : decode cX12_isRight 22 = .ok (.iconst 1, 1) := by decide +kernel
theorem dX12_isRight_23 : decode cX12_isRight 23 = .ok (.goto 4, 3) := by decide +kernel
theorem dX12_isRight_26 : decode cX12_isRight 26 = .ok (.iconst 0, 1) := by decide +kernel
theorem dX12_isRight_27 : decode cX12_isRight 27 = .ok (.ireturn, 1) := by decide +kernel
set_option maxRecDepth 20000 in
theorem ggX12_isFit_X12_fullPlaces : GoodIn wsX12_isFit wsX12_fullPlaces := goodIn_r _ [5, 6, 7, 8, 9, 10, 4, 11, 12, 23, 24, 25, 26, 27, 28, 29, 30, 31, 32, 33, 34, 35, 36, 37, 38, 39, 40, 41, 42, 43, 44, 45, 46, 47, 48, 49, 50, 51, 52, 53, 54, 55, 56, 57, 58, 59, 60, 61, 62, 63, 64, 65, 66, 67, 68, 69, 70, 71, 72, 73, 74, 75, 76, 77, 78, 79, 80, 81, 82, 83, 84, 85, 86, 87, 88, 89, 90, 91, 92, 93, 94, 95] (by decide +kernel) (by decide +kernel)
set_option maxRecDepth 20000 in
theorem gX12_isFit_X12_fullPlaces : GoodIn wsX12_isFit (wsV RX12 425 RX12 yX12_fullPlaces wsX12_fullPlaces) := goodIn_app (goodIn_of _ (by decide +kernel)) ggX12_isFit_X12_fullPlaces
set_option maxRecDepth 20000 in
theorem ggX12_isFit_X12_isRight : GoodIn wsX12_isFit wsX12_isRight := goodIn_r _ [16, 17, 18, 19, 20, 21, 4, 22, 6, 7, 8, 9, 10, 11, 12, 23, 24, 25, 26, 27, 28, 29, 30, 31, 32, 33, 34, 35, 36, 37, 38, 39, 40, 41, 42, 43, 44, 45, 46, 47, 48, 49, 50, 51, 52, 53, 54, 55, 56, 57, 58, 59, 60, 61, 62, 63, 64, 65, 66, 67, 68, 69, 70, 71, 72, 73, 74, 75, 76, 77, 78, 79, 80, 81, 82, 83, 84, 85, 86, 87, 88, 89, 90, 91, 92, 93, 94, 95] (by decide +kernel) (by decide +kernel)
set_option maxRecDepth 20000 in
theorem gX12_isFit_X12_isRight : GoodIn wsX12_isFit (wsV RX12 438 RX12 yX12_isRight wsX12_isRight) := goodIn_app (goodIn_of _ (by decide +kernel)) ggX12_isFit_X12_isRight
theorem dX12_isFit_0 : decode cX12_isFit 0 = .ok (.aload_n 0, 1) := by decide +kernel
theorem dX12_isFit_1 : decode cX12_isFit 1 = .ok (.iload_n 1, 1) := by decide +kernel
theorem dX12_isFit_2 : decode cX12_isFit 2 = .ok (.invokevirtual 425, 3) := by decide +kernel
theorem dX12_isFit_5 : decode cX12_isFit 5 = .ok (.iload 4, 2) := by decide +kernel
theorem dX12_isFit_7 : decode cX12_isFit 7 = .ok (.if_icmp .le 5, 3) := by decide +kernel
theorem dX12_isFit_10 : decode cX12_isFit 10 = .ok (.iconst 0, 1) := by decide +kernel
theorem dX12_isFit_11 : decode cX12_isFit 11 = .ok (.ireturn, 1) := by decide +kernel
theorem dX12_isFit_12 : decode cX12_isFit 12 = .ok (.iconst 0, 1) := by decide +kernel
theorem dX12_isFit_13 : decode cX12_isFit 13 = .ok (.istore 5, 2) := by decide +kernel
theorem dX12_isFit_15 : decode cX12_isFit 15 = .ok (.iconst 0, 1) := by decide +kernel
theorem dX12_isFit_16 : decode cX12_isFit 16 = .ok (.istore 6, 2) := by decide +kernel
theorem dX12_isFit_18 : decode cX12_isFit 18 = .ok (.iload 6, 2) := by decide +kernel
theorem dX12_isFit_20 : decode cX12_isFit 20 = .ok (.iload_n 2, 1) := by decide +kernel
theorem dX12_isFit_21 : decode cX12_isFit 21 = .ok (.if_icmp .ge 22, 3) := by decide +kernel
theorem dX12_isFit_24 : decode cX12_isFit 24 = .ok (.aload_n 0, 1) := by decide +kernel
theorem dX12_isFit_25 : decode cX12_isFit 25 = .ok (.iload_n 1, 1) := by decide +kernel
theorem dX12_isFit_26 : decode cX12_isFit 26 = .ok (.iload 6, 2) := by decide +kernel
theorem dX12_isFit_28 : decode cX12_isFit 28 = .ok (.invokevirtual 438, 3) := by decide +kernel
theorem dX12_isFit_31 : decode cX12_isFit 31 = .ok (.ifCond .ne 6, 3) := by decide +kernel
theorem dX12_isFit_34 : decode cX12_isFit 34 = .ok (.iinc 5 1, 3) := by decide +kernel
theorem dX12_isFit_37 : decode cX12_isFit 37 = .ok (.iinc 6 1, 3) := by decide +kernel
theorem dX12_isFit_40 : decode cX12_isFit 40 = .ok (.goto (-22), 3) := by decide +kernel
theorem dX12_isFit_43 : decode cX12_isFit 43 = .ok (.iload 5, 2) := by decide +kernel
theorem dX12_isFit_45 : decode cX12_isFit 45 = .ok (.iload_n 3, 1) := by decide +kernel
theorem dX12_isFit_46 : decode cX12_isFit 46 = .ok (.if_icmp .gt 7, 3) := by decide +kernel
theorem dX12_isFit_49 : decode cX12_isFit 49 = .ok (.iconst 1, 1) := by decide +kernel
theorem dX12_isFit_50 : decode cX12_isFit 50 = .ok (.goto 4, 3) := by decide +kernel
theorem dX12_isFit_53 : decode cX12_isFit 53 = .ok (.iconst 0, 1) := by decide +kernel
theorem dX12_isFit_54 : decode cX12_isFit 54 = .ok (.ireturn, 1) := by decide +kernel
set_option maxRecDepth 20000 in
theorem ggX12_isAsked_X12_in : GoodIn wsX12_isAsked wsX12_in := goodIn_r _ [7] (by decide +kernel) (by decide +kernel)
set_option maxRecDepth 20000 in
theorem gX12_isAsked_X12_in : GoodIn wsX12_isAsked (va_wsS RX12 332 yX12_in wsX12_in) := goodIn_app (goodIn_of _ (by decide +kernel)) ggX12_isAsked_X12_in
theorem dX12_isAsked_0 : decode cX12_isAsked 0 = .ok (.iload_n 1, 1) := by decide +kernel
theorem dX12_isAsked_1 : decode cX12_isAsked 1 = .ok (.i2l, 1) := by decide +kernel
theorem dX12_isAsked_2 : decode cX12_isAsked 2 = .ok (.lconst 0, 1) := by decide +kernel
theorem dX12_isAsked_3 : decode cX12_isAsked 3 = .ok (.aload_n 0, 1) := by decide +kernel
theorem dX12_isAsked_4 : decode cX12_isAsked 4 = .ok (.getfield 265, 3) := by decide +kernel
theorem dX12_isAsked_7 : decode cX12_isAsked 7 = .ok (.i2l, 1) := by decide +kernel
theorem dX12_isAsked_8 : decode cX12_isAsked 8 = .ok (.invokestatic 332, 3) := by decide +kernel
theorem dX12_isAsked_11 : decode cX12_isAsked 11 = .ok (.ifCond .eq 31, 3) := by decide +kernel
theorem dX12_isAsked_14 : decode cX12_isAsked 14 = .ok (.iload_n 2, 1) := by decide +kernel
theorem dX12_isAsked_15 : decode cX12_isAsked 15 = .ok (.i2l, 1) := by decide +kernel
theorem dX12_isAsked_16 : decode cX12_isAsked 16 = .ok (.lconst 0, 1) := by decide +kernel
theorem dX12_isAsked_17 : decode cX12_isAsked 17 = .ok (.ldc2_w 442, 3) := by decide +kernel
theorem dX12_isAsked_20 : decode cX12_isAsked 20 = .ok (.invokestatic 332, 3) := by decide +kernel
theorem dX12_isAsked_23 : decode cX12_isAsked 23 = .ok (.ifCond .eq 19, 3) := by decide +kernel
theorem dX12_isAsked_26 : decode cX12_isAsked 26 = .ok (.iload_n 3, 1) := by decide +kernel
theorem dX12_isAsked_27 : decode cX12_isAsked 27 = .ok (.i2l, 1) := by decide +kernel
theorem dX12_isAsked_28 : decode cX12_isAsked 28 = .ok (.lconst 0, 1) := by decide +kernel
theorem dX12_isAsked_29 : decode cX12_isAsked 29 = .ok (.ldc2_w 423, 3) := by decide +kernel
theorem dX12_isAsked_32 : decode cX12_isAsked 32 = .ok (.invokestatic 332, 3) := by decide +kernel
theorem dX12_isAsked_35 : decode cX12_isAsked 35 = .ok (.ifCond .eq 7, 3) := by decide +kernel
theorem dX12_isAsked_38 : decode cX12_isAsked 38 = .ok (.iconst 1, 1) := by decide +kernel
theorem dX12_isAsked_39 : decode cX12_isAsked 39 = .ok (.goto 4, 3) := by decide +kernel
theorem dX12_isAsked_42 : decode cX12_isAsked 42 = .ok (.iconst 0, 1) := by decide +kernel
theorem dX12_isAsked_43 : decode cX12_isAsked 43 = .ok (.ireturn, 1) := by decide +kernel
set_option maxRecDepth 20000 in
theorem ggX12_fillsFits_X12_worldAll : GoodIn wsX12_fillsFits wsX12_worldAll := goodIn_r _ [6, 7, 8, 9, 32, 33, 34, 35, 36, 37, 38, 39, 40, 41, 42, 43, 44, 45, 46, 47, 48, 49, 50, 51, 52, 53, 54, 55, 56, 57, 58, 59, 60, 61, 62, 63, 64, 65, 66, 67, 68, 69, 70, 71, 72, 73, 74, 75, 76, 77, 78, 79, 80, 81, 82, 83, 84, 85, 86, 87, 88, 89, 90, 91, 92, 93, 94, 95, 96, 97, 98, 99, 100, 101, 102, 103, 104] (by decide +kernel) (by decide +kernel)
set_option maxRecDepth 20000 in
theorem gX12_fillsFits_X12_worldAll : GoodIn wsX12_fillsFits (wsV RX12 404 RX12 yX12_worldAll wsX12_worldAll) := goodIn_app (goodIn_of _ (by decide +kernel)) ggX12_fillsFits_X12_worldAll
set_option maxRecDepth 20000 in
theorem ggX12_fillsFits_X12_isFit : GoodIn wsX12_fillsFits wsX12_isFit := goodIn_r _ [13, 14, 15, 16, 5, 17, 7, 8, 18, 19, 20, 21, 9, 22, 23, 24, 25, 26, 27, 28, 29, 30, 31, 32, 33, 34, 35, 36, 37, 38, 39, 40, 41, 42, 43, 44, 45, 46, 47, 48, 49, 50, 51, 52, 53, 54, 55, 56, 57, 58, 59, 60, 61, 62, 63, 64, 65, 66, 67, 68, 69, 70, 71, 72, 73, 74, 75, 76, 77, 78, 79, 80, 81, 82, 83, 84, 85, 86, 87, 88, 89, 90, 91, 92, 93, 94, 95, 96, 97, 98, 99, 100, 101, 102, 103, 104] (by decide +kernel) (by decide +kernel)
set_option maxRecDepth 20000 in
theorem gX12_fillsFits_X12_isFit : GoodIn wsX12_fillsFits (wsV RX12 444 RX12 yX12_isFit wsX12_isFit) := goodIn_app (goodIn_of _ (by decide +kernel)) ggX12_fillsFits_X12_isFit
theorem dX12_fillsFits_0 : decode cX12_fillsFits 0 = .ok (.iconst 0, 1) := by decide +kernel
theorem dX12_fillsFits_1 : decode cX12_fillsFits 1 = .ok (.istore 4, 2) := by decide +kernel
theorem dX12_fillsFits_3 : decode cX12_fillsFits 3 = .ok (.iconst 0, 1) := by decide +kernel
theorem dX12_fillsFits_4 : decode cX12_fillsFits 4 = .ok (.istore 5, 2) := by decide +kernel
theorem dX12_fillsFits_6 : decode cX12_fillsFits 6 = .ok (.iload 5, 2) := by decide +kernel
theorem dX12_fillsFits_8 : decode cX12_fillsFits 8 = .ok (.aload_n 0, 1) := by decide +kernel
theorem dX12_fillsFits_9 : decode cX12_fillsFits 9 = .ok (.invokevirtual 404, 3) := by decide +kernel
theorem dX12_fillsFits_12 : decode cX12_fillsFits 12 = .ok (.if_icmp .ge 38, 3) := by decide +kernel
theorem dX12_fillsFits_15 : decode cX12_fillsFits 15 = .ok (.aload_n 0, 1) := by decide +kernel
theorem dX12_fillsFits_16 : decode cX12_fillsFits 16 = .ok (.getfield 138, 3) := by decide +kernel
theorem dX12_fillsFits_19 : decode cX12_fillsFits 19 = .ok (.iload 5, 2) := by decide +kernel
theorem dX12_fillsFits_21 : decode cX12_fillsFits 21 = .ok (.aload_n 0, 1) := by decide +kernel
theorem dX12_fillsFits_22 : decode cX12_fillsFits 22 = .ok (.iload 5, 2) := by decide +kernel
theorem dX12_fillsFits_24 : decode cX12_fillsFits 24 = .ok (.iload_n 1, 1) := by decide +kernel
theorem dX12_fillsFits_25 : decode cX12_fillsFits 25 = .ok (.iload_n 2, 1) := by decide +kernel
theorem dX12_fillsFits_26 : decode cX12_fillsFits 26 = .ok (.iload_n 3, 1) := by decide +kernel
theorem dX12_fillsFits_27 : decode cX12_fillsFits 27 = .ok (.invokevirtual 444, 3) := by decide +kernel
theorem dX12_fillsFits_30 : decode cX12_fillsFits 30 = .ok (.bastore, 1) := by decide +kernel
theorem dX12_fillsFits_31 : decode cX12_fillsFits 31 = .ok (.aload_n 0, 1) := by decide +kernel
theorem dX12_fillsFits_32 : decode cX12_fillsFits 32 = .ok (.getfield 138, 3) := by decide +kernel
theorem dX12_fillsFits_35 : decode cX12_fillsFits 35 = .ok (.iload 5, 2) := by decide +kernel
theorem dX12_fillsFits_37 : decode cX12_fillsFits 37 = .ok (.baload, 1) := by decide +kernel
theorem dX12_fillsFits_38 : decode cX12_fillsFits 38 = .ok (.ifCond .eq 6, 3) := by decide +kernel
theorem dX12_fillsFits_41 : decode cX12_fillsFits 41 = .ok (.iinc 4 1, 3) := by decide +kernel
theorem dX12_fillsFits_44 : decode cX12_fillsFits 44 = .ok (.iinc 5 1, 3) := by decide +kernel
theorem dX12_fillsFits_47 : decode cX12_fillsFits 47 = .ok (.goto (-41), 3) := by decide +kernel
theorem dX12_fillsFits_50 : decode cX12_fillsFits 50 = .ok (.iload 4, 2) := by decide +kernel
theorem dX12_fillsFits_52 : decode cX12_fillsFits 52 = .ok (.ireturn, 1) := by decide +kernel
set_option maxRecDepth 20000 in
theorem ggX12_fits_X12_isAsked : GoodIn wsX12_fits wsX12_isAsked := goodIn_r _ [6, 7, 8, 9, 10, 11, 5, 12, 46, 47, 48, 49, 50, 51, 52, 53, 54, 55, 56, 57, 58, 59, 60, 61, 62, 63, 64, 65, 66, 67, 68, 69, 70, 71, 72, 73, 74, 75, 76, 77, 78, 79, 80, 81, 82, 83, 84, 85, 86, 87, 88, 89, 90, 91, 92, 93, 94, 95, 96, 97, 98, 99, 100, 101, 102, 103, 104, 105, 106, 107, 108, 109, 110, 111, 112, 113, 114, 115, 116, 117, 118] (by decide +kernel) (by decide +kernel)
set_option maxRecDepth 20000 in
theorem gX12_fits_X12_isAsked : GoodIn wsX12_fits (wsV RX12 448 RX12 yX12_isAsked wsX12_isAsked) := goodIn_app (goodIn_of _ (by decide +kernel)) ggX12_fits_X12_isAsked
set_option maxRecDepth 20000 in
theorem ggX12_fits_X12_fillsFits : GoodIn wsX12_fits wsX12_fillsFits := goodIn_r _ [16, 1, 17, 18, 19, 5, 20, 21, 22, 23, 24, 25, 26, 27, 28, 29, 30, 31, 32, 33, 34, 35, 36, 37, 38, 39, 40, 41, 42, 43, 44, 45, 46, 47, 48, 49, 50, 51, 52, 53, 54, 55, 56, 57, 58, 59, 60, 61, 62, 63, 64, 65, 66, 67, 68, 69, 70, 71, 72, 73, 74, 75, 76, 77, 78, 79, 80, 81, 82, 83, 84, 85, 86, 87, 88, 89, 90, 91, 92, 93, 94, 95, 96, 97, 98, 99, 100, 101, 102, 103, 104, 105, 106, 107, 108, 109, 110, 111, 112, 113, 114, 115, 116, 117, 118] (by decide +kernel) (by decide +kernel)
set_option maxRecDepth 20000 in
theorem gX12_fits_X12_fillsFits : GoodIn wsX12_fits (wsV RX12 451 RX12 yX12_fillsFits wsX12_fillsFits) := goodIn_app (goodIn_of _ (by decide +kernel)) ggX12_fits_X12_fillsFits
set_option maxRecDepth 20000 in
theorem ggX12_fits_X12_worldAll : GoodIn wsX12_fits wsX12_worldAll := goodIn_r _ [20, 21, 22, 23, 46, 47, 48, 49, 50, 51, 52, 53, 54, 55, 56, 57, 58, 59, 60, 61, 62, 63, 64, 65, 66, 67, 68, 69, 70, 71, 72, 73, 74, 75, 76, 77, 78, 79, 80, 81, 82, 83, 84, 85, 86, 87, 88, 89, 90, 91, 92, 93, 94, 95, 96, 97, 98, 99, 100, 101, 102, 103, 104, 105, 106, 107, 108, 109, 110, 111, 112, 113, 114, 115, 116, 117, 118] (by decide +kernel) (by decide +kernel)
set_option maxRecDepth 20000 in
theorem gX12_fits_X12_worldAll : GoodIn wsX12_fits (wsV RX12 404 RX12 yX12_worldAll wsX12_worldAll) := goodIn_app (goodIn_of _ (by decide +kernel)) ggX12_fits_X12_worldAll
theorem dX12_fits_0 : decode cX12_fits 0 = .ok (.aload_n 0, 1) := by decide +kernel
theorem dX12_fits_1 : decode cX12_fits 1 = .ok (.iload_n 1, 1) := by decide +kernel
theorem dX12_fits_2 : decode cX12_fits 2 = .ok (.iload_n 2, 1) := by decide +kernel
theorem dX12_fits_3 : decode cX12_fits 3 = .ok (.iload_n 3, 1) := by decide +kernel
theorem dX12_fits_4 : decode cX12_fits 4 = .ok (.invokevirtual 448, 3) := by decide +kernel
theorem dX12_fits_7 : decode cX12_fits 7 = .ok (.ifCond .eq 9, 3) := by decide +kernel
theorem dX12_fits_10 : decode cX12_fits 10 = .ok (.iload 4, 2) := by decide +kernel
theorem dX12_fits_12 : decode cX12_fits 12 = .ok (.iconst (-1), 1) := by decide +kernel
theorem dX12_fits_13 : decode cX12_fits 13 = .ok (.if_icmp .ge 5, 3) := by decide +kernel
theorem dX12_fits_16 : decode cX12_fits 16 = .ok (.iconst (-1), 1) := by decide +kernel
theorem dX12_fits_17 : decode cX12_fits 17 = .ok (.ireturn, 1) := by decide +kernel
theorem dX12_fits_18 : decode cX12_fits 18 = .ok (.aload_n 0, 1) := by decide +kernel
theorem dX12_fits_19 : decode cX12_fits 19 = .ok (.iload_n 1, 1) := by decide +kernel
theorem dX12_fits_20 : decode cX12_fits 20 = .ok (.iload_n 2, 1) := by decide +kernel
theorem dX12_fits_21 : decode cX12_fits 21 = .ok (.iload_n 3, 1) := by decide +kernel
theorem dX12_fits_22 : decode cX12_fits 22 = .ok (.invokevirtual 451, 3) := by decide +kernel
theorem dX12_fits_25 : decode cX12_fits 25 = .ok (.istore 5, 2) := by decide +kernel
theorem dX12_fits_27 : decode cX12_fits 27 = .ok (.iload 4, 2) := by decide +kernel
theorem dX12_fits_29 : decode cX12_fits 29 = .ok (.iconst (-1), 1) := by decide +kernel
theorem dX12_fits_30 : decode cX12_fits 30 = .ok (.if_icmp .ne 6, 3) := by decide +kernel
theorem dX12_fits_33 : decode cX12_fits 33 = .ok (.iload 5, 2) := by decide +kernel
theorem dX12_fits_35 : decode cX12_fits 35 = .ok (.ireturn, 1) := by decide +kernel
theorem dX12_fits_36 : decode cX12_fits 36 = .ok (.iconst 0, 1) := by decide +kernel
theorem dX12_fits_37 : decode cX12_fits 37 = .ok (.istore 6, 2) := by decide +kernel
theorem dX12_fits_39 : decode cX12_fits 39 = .ok (.iconst 0, 1) := by decide +kernel
theorem dX12_fits_40 : decode cX12_fits 40 = .ok (.istore 7, 2) := by decide +kernel
theorem dX12_fits_42 : decode cX12_fits 42 = .ok (.iload 7, 2) := by decide +kernel
theorem dX12_fits_44 : decode cX12_fits 44 = .ok (.aload_n 0, 1) := by decide +kernel
theorem dX12_fits_45 : decode cX12_fits 45 = .ok (.invokevirtual 404, 3) := by decide +kernel
theorem dX12_fits_48 : decode cX12_fits 48 = .ok (.if_icmp .ge 35, 3) := by decide +kernel
theorem dX12_fits_51 : decode cX12_fits 51 = .ok (.aload_n 0, 1) := by decide +kernel
theorem dX12_fits_52 : decode cX12_fits 52 = .ok (.getfield 138, 3) := by decide +kernel
theorem dX12_fits_55 : decode cX12_fits 55 = .ok (.iload 7, 2) := by decide +kernel
theorem dX12_fits_57 : decode cX12_fits 57 = .ok (.baload, 1) := by decide +kernel
theorem dX12_fits_58 : decode cX12_fits 58 = .ok (.ifCond .ne 6, 3) := by decide +kernel
theorem dX12_fits_61 : decode cX12_fits 61 = .ok (.goto 16, 3) := by decide +kernel
theorem dX12_fits_64 : decode cX12_fits 64 = .ok (.iload 6, 2) := by decide +kernel
theorem dX12_fits_66 : decode cX12_fits 66 = .ok (.iload 4, 2) := by decide +kernel
theorem dX12_fits_68 : decode cX12_fits 68 = .ok (.if_icmp .ne 6, 3) := by decide +kernel
theorem dX12_fits_71 : decode cX12_fits 71 = .ok (.iload 7, 2) := by decide +kernel
theorem dX12_fits_73 : decode cX12_fits 73 = .ok (.ireturn, 1) := by decide +kernel
theorem dX12_fits_74 : decode cX12_fits 74 = .ok (.iinc 6 1, 3) := by decide +kernel
theorem dX12_fits_77 : decode cX12_fits 77 = .ok (.iinc 7 1, 3) := by decide +kernel
theorem dX12_fits_80 : decode cX12_fits 80 = .ok (.goto (-38), 3) := by decide +kernel
theorem dX12_fits_83 : decode cX12_fits 83 = .ok (.iconst (-1), 1) := by decide +kernel
theorem dX12_fits_84 : decode cX12_fits 84 = .ok (.ireturn, 1) := by decide +kernel
set_option maxRecDepth 20000 in
theorem ggX12_spanOf_X12_worldAll : GoodIn wsX12_spanOf wsX12_worldAll := goodIn_r _ [6, 7, 8, 9, 14, 15, 16, 17, 18, 19, 20, 21, 22, 23, 24, 25, 26, 27, 28, 29, 30, 31, 32, 33, 34, 35, 36, 37, 38, 39, 40, 41, 42, 43, 44, 45, 46, 47, 48, 49, 50, 51, 52, 53, 54, 55, 56, 57, 58, 59, 60, 61, 62, 63, 64, 65, 66, 67, 68, 69, 70, 71, 72, 73, 74, 75, 76, 77, 78, 79, 80, 81, 82, 83, 84, 85, 86] (by decide +kernel) (by decide +kernel)
set_option maxRecDepth 20000 in
theorem gX12_spanOf_X12_worldAll : GoodIn wsX12_spanOf (wsV RX12 404 RX12 yX12_worldAll wsX12_worldAll) := goodIn_app (goodIn_of _ (by decide +kernel)) ggX12_spanOf_X12_worldAll
set_option maxRecDepth 20000 in
theorem ggX12_spanOf_X12_figureOf : GoodIn wsX12_spanOf wsX12_figureOf := goodIn_r _ [13, 9, 8, 14, 15, 16, 17, 18, 19, 20, 21, 22, 23, 24, 25, 26, 27, 28, 29, 30, 31, 32, 33, 34, 35, 36, 37, 38, 39, 40, 41, 42, 43, 44, 45, 46, 47, 48, 49, 50, 51, 52, 53, 54, 55, 56, 57, 58, 59, 60, 61, 62, 63, 64, 65, 66, 67, 68, 69, 70, 71, 72, 73, 74, 75, 76, 77, 78, 79, 80, 81, 82, 83, 84, 85, 86] (by decide +kernel) (by decide +kernel)
set_option maxRecDepth 20000 in
theorem gX12_spanOf_X12_figureOf : GoodIn wsX12_spanOf (wsV RX12 394 RX12 yX12_figureOf wsX12_figureOf) := goodIn_app (goodIn_of _ (by decide +kernel)) ggX12_spanOf_X12_figureOf
theorem dX12_spanOf_0 : decode cX12_spanOf 0 = .ok (.bipush 10, 2) := by decide +kernel
theorem dX12_spanOf_2 : decode cX12_spanOf 2 = .ok (.istore_n 2, 1) := by decide +kernel
theorem dX12_spanOf_3 : decode cX12_spanOf 3 = .ok (.iconst 0, 1) := by decide +kernel
theorem dX12_spanOf_4 : decode cX12_spanOf 4 = .ok (.istore_n 3, 1) := by decide +kernel
theorem dX12_spanOf_5 : decode cX12_spanOf 5 = .ok (.iconst 0, 1) := by decide +kernel
theorem dX12_spanOf_6 : decode cX12_spanOf 6 = .ok (.istore 4, 2) := by decide +kernel
theorem dX12_spanOf_8 : decode cX12_spanOf 8 = .ok (.iload 4, 2) := by decide +kernel
theorem dX12_spanOf_10 : decode cX12_spanOf 10 = .ok (.aload_n 0, 1) := by decide +kernel
theorem dX12_spanOf_11 : decode cX12_spanOf 11 = .ok (.invokevirtual 404, 3) := by decide +kernel
theorem dX12_spanOf_14 : decode cX12_spanOf 14 = .ok (.if_icmp .ge 49, 3) := by decide +kernel
theorem dX12_spanOf_17 : decode cX12_spanOf 17 = .ok (.aload_n 0, 1) := by decide +kernel
theorem dX12_spanOf_18 : decode cX12_spanOf 18 = .ok (.getfield 138, 3) := by decide +kernel
theorem dX12_spanOf_21 : decode cX12_spanOf 21 = .ok (.iload 4, 2) := by decide +kernel
theorem dX12_spanOf_23 : decode cX12_spanOf 23 = .ok (.baload, 1) := by decide +kernel
theorem dX12_spanOf_24 : decode cX12_spanOf 24 = .ok (.ifCond .ne 6, 3) := by decide +kernel
theorem dX12_spanOf_27 : decode cX12_spanOf 27 = .ok (.goto 30, 3) := by decide +kernel
theorem dX12_spanOf_30 : decode cX12_spanOf 30 = .ok (.aload_n 0, 1) := by decide +kernel
theorem dX12_spanOf_31 : decode cX12_spanOf 31 = .ok (.iload 4, 2) := by decide +kernel
theorem dX12_spanOf_33 : decode cX12_spanOf 33 = .ok (.iload_n 1, 1) := by decide +kernel
theorem dX12_spanOf_34 : decode cX12_spanOf 34 = .ok (.invokevirtual 394, 3) := by decide +kernel
theorem dX12_spanOf_37 : decode cX12_spanOf 37 = .ok (.istore 5, 2) := by decide +kernel
theorem dX12_spanOf_39 : decode cX12_spanOf 39 = .ok (.iload 5, 2) := by decide +kernel
theorem dX12_spanOf_41 : decode cX12_spanOf 41 = .ok (.iload_n 2, 1) := by decide +kernel
theorem dX12_spanOf_42 : decode cX12_spanOf 42 = .ok (.if_icmp .ge 6, 3) := by decide +kernel
theorem dX12_spanOf_45 : decode cX12_spanOf 45 = .ok (.iload 5, 2) := by decide +kernel
theorem dX12_spanOf_47 : decode cX12_spanOf 47 = .ok (.istore_n 2, 1) := by decide +kernel
theorem dX12_spanOf_48 : decode cX12_spanOf 48 = .ok (.iload 5, 2) := by decide +kernel
theorem dX12_spanOf_50 : decode cX12_spanOf 50 = .ok (.iload_n 3, 1) := by decide +kernel
theorem dX12_spanOf_51 : decode cX12_spanOf 51 = .ok (.if_icmp .le 6, 3) := by decide +kernel
theorem dX12_spanOf_54 : decode cX12_spanOf 54 = .ok (.iload 5, 2) := by decide +kernel
theorem dX12_spanOf_56 : decode cX12_spanOf 56 = .ok (.istore_n 3, 1) := by decide +kernel
theorem dX12_spanOf_57 : decode cX12_spanOf 57 = .ok (.iinc 4 1, 3) := by decide +kernel
theorem dX12_spanOf_60 : decode cX12_spanOf 60 = .ok (.goto (-52), 3) := by decide +kernel
theorem dX12_spanOf_63 : decode cX12_spanOf 63 = .ok (.bipush 10, 2) := by decide +kernel
theorem dX12_spanOf_65 : decode cX12_spanOf 65 = .ok (.iload_n 2, 1) := by decide +kernel
theorem dX12_spanOf_66 : decode cX12_spanOf 66 = .ok (.imul, 1) := by decide +kernel
theorem dX12_spanOf_67 : decode cX12_spanOf 67 = .ok (.iload_n 3, 1) := by decide +kernel
theorem dX12_spanOf_68 : decode cX12_spanOf 68 = .ok (.iadd, 1) := by decide +kernel
theorem dX12_spanOf_69 : decode cX12_spanOf 69 = .ok (.ireturn, 1) := by decide +kernel
set_option maxRecDepth 20000 in
theorem ggX12_sure_X12_isAsked : GoodIn wsX12_sure wsX12_isAsked := goodIn_r _ [7, 8, 9, 10, 11, 12, 6, 13, 50, 51, 52, 53, 54, 55, 56, 57, 58, 59, 60, 61, 62, 63, 64, 65, 66, 67, 68, 69, 70, 71, 72, 73, 74, 75, 76, 77, 78, 79, 80, 81, 82, 83, 84, 85, 86, 87, 88, 89, 90, 91, 92, 93, 94, 95, 96, 97, 98, 99, 100, 101, 102, 103, 104, 105, 106, 107, 108, 109, 110, 111, 112, 113, 114, 115, 116, 117, 118, 119, 120, 121, 122] (by decide +kernel) (by decide +kernel)
set_option maxRecDepth 20000 in
theorem gX12_sure_X12_isAsked : GoodIn wsX12_sure (wsV RX12 448 RX12 yX12_isAsked wsX12_isAsked) := goodIn_app (goodIn_of _ (by decide +kernel)) ggX12_sure_X12_isAsked
set_option maxRecDepth 20000 in
theorem ggX12_sure_X12_fillsFits : GoodIn wsX12_sure wsX12_fillsFits := goodIn_r _ [17, 18, 19, 20, 21, 6, 22, 1, 2, 23, 24, 25, 26, 27, 28, 29, 30, 31, 32, 33, 34, 35, 36, 37, 38, 39, 40, 41, 42, 43, 44, 45, 50, 51, 52, 53, 54, 55, 56, 57, 58, 59, 60, 61, 62, 63, 64, 65, 66, 67, 68, 69, 70, 71, 72, 73, 74, 75, 76, 77, 78, 79, 80, 81, 82, 83, 84, 85, 86, 87, 88, 89, 90, 91, 92, 93, 94, 95, 96, 97, 98, 99, 100, 101, 102, 103, 104, 105, 106, 107, 108, 109, 110, 111, 112, 113, 114, 115, 116, 117, 118, 119, 120, 121, 122] (by decide +kernel) (by decide +kernel)
set_option maxRecDepth 20000 in
theorem gX12_sure_X12_fillsFits : GoodIn wsX12_sure (wsV RX12 451 RX12 yX12_fillsFits wsX12_fillsFits) := goodIn_app (goodIn_of _ (by decide +kernel)) ggX12_sure_X12_fillsFits
set_option maxRecDepth 20000 in
theorem ggX12_sure_X12_spanOf : GoodIn wsX12_sure wsX12_spanOf := goodIn_r _ [49, 18, 19, 20, 21, 6, 22, 1, 2, 23, 32, 33, 34, 35, 50, 51, 52, 53, 54, 55, 56, 57, 58, 59, 60, 61, 62, 63, 64, 65, 66, 67, 68, 69, 70, 71, 72, 73, 74, 75, 76, 77, 78, 79, 80, 81, 82, 83, 84, 85, 86, 87, 88, 89, 90, 91, 92, 93, 94, 95, 96, 97, 98, 99, 100, 101, 102, 103, 104, 105, 106, 107, 108, 109, 110, 111, 112, 113, 114, 115, 116, 117, 118, 119, 120, 121, 122] (by decide +kernel) (by decide +kernel)
set_option maxRecDepth 20000 in
theorem gX12_sure_X12_spanOf : GoodIn wsX12_sure (wsV RX12 454 RX12 yX12_spanOf wsX12_spanOf) := goodIn_app (goodIn_of _ (by decide +kernel)) ggX12_sure_X12_spanOf
theorem dX12_sure_0 : decode cX12_sure 0 = .ok (.aload_n 0, 1) := by decide +kernel
theorem dX12_sure_1 : decode cX12_sure 1 = .ok (.iload_n 1, 1) := by decide +kernel
theorem dX12_sure_2 : decode cX12_sure 2 = .ok (.iload_n 2, 1) := by decide +kernel
theorem dX12_sure_3 : decode cX12_sure 3 = .ok (.iload_n 3, 1) := by decide +kernel
theorem dX12_sure_4 : decode cX12_sure 4 = .ok (.invokevirtual 448, 3) := by decide +kernel
theorem dX12_sure_7 : decode cX12_sure 7 = .ok (.ifCond .ne 5, 3) := by decide +kernel
theorem dX12_sure_10 : decode cX12_sure 10 = .ok (.iconst (-1), 1) := by decide +kernel
theorem dX12_sure_11 : decode cX12_sure 11 = .ok (.ireturn, 1) := by decide +kernel
theorem dX12_sure_12 : decode cX12_sure 12 = .ok (.iconst 0, 1) := by decide +kernel
theorem dX12_sure_13 : decode cX12_sure 13 = .ok (.istore 4, 2) := by decide +kernel
theorem dX12_sure_15 : decode cX12_sure 15 = .ok (.aload_n 0, 1) := by decide +kernel
theorem dX12_sure_16 : decode cX12_sure 16 = .ok (.iload_n 1, 1) := by decide +kernel
theorem dX12_sure_17 : decode cX12_sure 17 = .ok (.iload_n 2, 1) := by decide +kernel
theorem dX12_sure_18 : decode cX12_sure 18 = .ok (.iload_n 3, 1) := by decide +kernel
theorem dX12_sure_19 : decode cX12_sure 19 = .ok (.invokevirtual 451, 3) := by decide +kernel
theorem dX12_sure_22 : decode cX12_sure 22 = .ok (.ifCond .le 47, 3) := by decide +kernel
theorem dX12_sure_25 : decode cX12_sure 25 = .ok (.iconst 0, 1) := by decide +kernel
theorem dX12_sure_26 : decode cX12_sure 26 = .ok (.istore 5, 2) := by decide +kernel
theorem dX12_sure_28 : decode cX12_sure 28 = .ok (.iload 5, 2) := by decide +kernel
theorem dX12_sure_30 : decode cX12_sure 30 = .ok (.aload_n 0, 1) := by decide +kernel
theorem dX12_sure_31 : decode cX12_sure 31 = .ok (.getfield 73, 3) := by decide +kernel
theorem dX12_sure_34 : decode cX12_sure 34 = .ok (.aload_n 0, 1) := by decide +kernel
theorem dX12_sure_35 : decode cX12_sure 35 = .ok (.getfield 243, 3) := by decide +kernel
theorem dX12_sure_38 : decode cX12_sure 38 = .ok (.iaload, 1) := by decide +kernel
theorem dX12_sure_39 : decode cX12_sure 39 = .ok (.if_icmp .ge 30, 3) := by decide +kernel
theorem dX12_sure_42 : decode cX12_sure 42 = .ok (.aload_n 0, 1) := by decide +kernel
theorem dX12_sure_43 : decode cX12_sure 43 = .ok (.iload 5, 2) := by decide +kernel
theorem dX12_sure_45 : decode cX12_sure 45 = .ok (.invokevirtual 454, 3) := by decide +kernel
theorem dX12_sure_48 : decode cX12_sure 48 = .ok (.bipush 11, 2) := by decide +kernel
theorem dX12_sure_50 : decode cX12_sure 50 = .ok (.irem, 1) := by decide +kernel
theorem dX12_sure_51 : decode cX12_sure 51 = .ok (.ifCond .ne 12, 3) := by decide +kernel
theorem dX12_sure_54 : decode cX12_sure 54 = .ok (.iload 4, 2) := by decide +kernel
theorem dX12_sure_56 : decode cX12_sure 56 = .ok (.iconst 1, 1) := by decide +kernel
theorem dX12_sure_57 : decode cX12_sure 57 = .ok (.iload 5, 2) := by decide +kernel
theorem dX12_sure_59 : decode cX12_sure 59 = .ok (.ishl, 1) := by decide +kernel
theorem dX12_sure_60 : decode cX12_sure 60 = .ok (.ior, 1) := by decide +kernel
theorem dX12_sure_61 : decode cX12_sure 61 = .ok (.istore 4, 2) := by decide +kernel
theorem dX12_sure_63 : decode cX12_sure 63 = .ok (.iinc 5 1, 3) := by decide +kernel
theorem dX12_sure_66 : decode cX12_sure 66 = .ok (.goto (-38), 3) := by decide +kernel
theorem dX12_sure_69 : decode cX12_sure 69 = .ok (.iload 4, 2) := by decide +kernel
theorem dX12_sure_71 : decode cX12_sure 71 = .ok (.ireturn, 1) := by decide +kernel
set_option maxRecDepth 20000 in
theorem ggX12_span_X12_isAsked : GoodIn wsX12_span wsX12_isAsked := goodIn_r _ [7, 8, 9, 10, 11, 12, 6, 13, 50, 51, 52, 53, 54, 55, 56, 57, 58, 59, 60, 61, 62, 63, 64, 65, 66, 67, 68, 69, 70, 71, 72, 73, 74, 75, 76, 77, 78, 79, 80, 81, 82, 83, 84, 85, 86, 87, 88, 89, 90, 91, 92, 93, 94, 95, 96, 97, 98, 99, 100, 101, 102, 103, 104, 105, 106, 107, 108, 109, 110, 111, 112, 113, 114, 115, 116, 117, 118, 119, 120, 121, 122] (by decide +kernel) (by decide +kernel)
set_option maxRecDepth 20000 in
theorem gX12_span_X12_isAsked : GoodIn wsX12_span (wsV RX12 448 RX12 yX12_isAsked wsX12_isAsked) := goodIn_app (goodIn_of _ (by decide +kernel)) ggX12_span_X12_isAsked
set_option maxRecDepth 20000 in
theorem ggX12_span_X12_in : GoodIn wsX12_span wsX12_in := goodIn_r _ [13] (by decide +kernel) (by decide +kernel)
set_option maxRecDepth 20000 in
theorem gX12_span_X12_in : GoodIn wsX12_span (va_wsS RX12 332 yX12_in wsX12_in) := goodIn_app (goodIn_of _ (by decide +kernel)) ggX12_span_X12_in
set_option maxRecDepth 20000 in
theorem ggX12_span_X12_fillsFits : GoodIn wsX12_span wsX12_fillsFits := goodIn_r _ [17, 18, 19, 20, 21, 6, 22, 1, 2, 23, 24, 25, 26, 27, 28, 29, 30, 31, 32, 33, 34, 35, 36, 37, 38, 39, 40, 41, 42, 43, 44, 45, 50, 51, 52, 53, 54, 55, 56, 57, 58, 59, 60, 61, 62, 63, 64, 65, 66, 67, 68, 69, 70, 71, 72, 73, 74, 75, 76, 77, 78, 79, 80, 81, 82, 83, 84, 85, 86, 87, 88, 89, 90, 91, 92, 93, 94, 95, 96, 97, 98, 99, 100, 101, 102, 103, 104, 105, 106, 107, 108, 109, 110, 111, 112, 113, 114, 115, 116, 117, 118, 119, 120, 121, 122] (by decide +kernel) (by decide +kernel)
set_option maxRecDepth 20000 in
theorem gX12_span_X12_fillsFits : GoodIn wsX12_span (wsV RX12 451 RX12 yX12_fillsFits wsX12_fillsFits) := goodIn_app (goodIn_of _ (by decide +kernel)) ggX12_span_X12_fillsFits
set_option maxRecDepth 20000 in
theorem ggX12_span_X12_spanOf : GoodIn wsX12_span wsX12_spanOf := goodIn_r _ [49, 18, 19, 20, 21, 6, 22, 1, 2, 23, 32, 33, 34, 35, 50, 51, 52, 53, 54, 55, 56, 57, 58, 59, 60, 61, 62, 63, 64, 65, 66, 67, 68, 69, 70, 71, 72, 73, 74, 75, 76, 77, 78, 79, 80, 81, 82, 83, 84, 85, 86, 87, 88, 89, 90, 91, 92, 93, 94, 95, 96, 97, 98, 99, 100, 101, 102, 103, 104, 105, 106, 107, 108, 109, 110, 111, 112, 113, 114, 115, 116, 117, 118, 119, 120, 121, 122] (by decide +kernel) (by decide +kernel)
set_option maxRecDepth 20000 in
theorem gX12_span_X12_spanOf : GoodIn wsX12_span (wsV RX12 454 RX12 yX12_spanOf wsX12_spanOf) := goodIn_app (goodIn_of _ (by decide +kernel)) ggX12_span_X12_spanOf
theorem dX12_span_0 : decode cX12_span 0 = .ok (.aload_n 0, 1) := by decide +kernel
theorem dX12_span_1 : decode cX12_span 1 = .ok (.iload_n 1, 1) := by decide +kernel
theorem dX12_span_2 : decode cX12_span 2 = .ok (.iload_n 2, 1) := by decide +kernel
theorem dX12_span_3 : decode cX12_span 3 = .ok (.iload_n 3, 1) := by decide +kernel
theorem dX12_span_4 : decode cX12_span 4 = .ok (.invokevirtual 448, 3) := by decide +kernel
theorem dX12_span_7 : decode cX12_span 7 = .ok (.ifCond .eq 25, 3) := by decide +kernel
theorem dX12_span_10 : decode cX12_span 10 = .ok (.iload 4, 2) := by decide +kernel
theorem dX12_span_12 : decode cX12_span 12 = .ok (.i2l, 1) := by decide +kernel
theorem dX12_span_13 : decode cX12_span 13 = .ok (.lconst 0, 1) := by decide +kernel
theorem dX12_span_14 : decode cX12_span 14 = .ok (.aload_n 0, 1) := by decide +kernel
theorem dX12_span_15 : decode cX12_span 15 = .ok (.getfield 73, 3) := by decide +kernel
theorem dX12_span_18 : decode cX12_span 18 = .ok (.aload_n 0, 1) := by decide +kernel
theorem dX12_span_19 : decode cX12_span 19 = .ok (.getfield 243, 3) := by decide +kernel
theorem dX12_span_22 : decode cX12_span 22 = .ok (.iaload, 1) := by decide +kernel
theorem dX12_span_23 : decode cX12_span 23 = .ok (.iconst 1, 1) := by decide +kernel
theorem dX12_span_24 : decode cX12_span 24 = .ok (.isub, 1) := by decide +kernel
theorem dX12_span_25 : decode cX12_span 25 = .ok (.i2l, 1) := by decide +kernel
theorem dX12_span_26 : decode cX12_span 26 = .ok (.invokestatic 332, 3) := by decide +kernel
theorem dX12_span_29 : decode cX12_span 29 = .ok (.ifCond .ne 5, 3) := by decide +kernel
theorem dX12_span_32 : decode cX12_span 32 = .ok (.iconst (-1), 1) := by decide +kernel
theorem dX12_span_33 : decode cX12_span 33 = .ok (.ireturn, 1) := by decide +kernel
theorem dX12_span_34 : decode cX12_span 34 = .ok (.aload_n 0, 1) := by decide +kernel
theorem dX12_span_35 : decode cX12_span 35 = .ok (.iload_n 1, 1) := by decide +kernel
theorem dX12_span_36 : decode cX12_span 36 = .ok (.iload_n 2, 1) := by decide +kernel
theorem dX12_span_37 : decode cX12_span 37 = .ok (.iload_n 3, 1) := by decide +kernel
theorem dX12_span_38 : decode cX12_span 38 = .ok (.invokevirtual 451, 3) := by decide +kernel
theorem dX12_span_41 : decode cX12_span 41 = .ok (.ifCond .ne 8, 3) := by decide +kernel
theorem dX12_span_44 : decode cX12_span 44 = .ok (.bipush (-2), 2) := by decide +kernel
theorem dX12_span_46 : decode cX12_span 46 = .ok (.goto 9, 3) := by decide +kernel
theorem dX12_span_49 : decode cX12_span 49 = .ok (.aload_n 0, 1) := by decide +kernel
theorem dX12_span_50 : decode cX12_span 50 = .ok (.iload 4, 2) := by decide +kernel
theorem dX12_span_52 : decode cX12_span 52 = .ok (.invokevirtual 454, 3) := by decide +kernel
theorem dX12_span_55 : decode cX12_span 55 = .ok (.ireturn, 1) := by decide +kernel
set_option maxRecDepth 20000 in
theorem ggX12_liars_X12_isAsked : GoodIn wsX12_liars wsX12_isAsked := goodIn_r _ [6, 7, 8, 9, 10, 11, 5, 12, 46, 47, 48, 49, 50, 51, 52, 53, 54, 55, 56, 57, 58, 59, 60, 61, 62, 63, 64, 65, 66, 67, 68, 69, 70, 71, 72, 73, 74, 75, 76, 77, 78, 79, 80, 81, 82, 83, 84, 85, 86, 87, 88, 89, 90, 91, 92, 93, 94, 95, 96, 97, 98, 99, 100, 101, 102, 103, 104, 105, 106, 107, 108, 109, 110, 111, 112, 113, 114, 115, 116, 117, 118] (by decide +kernel) (by decide +kernel)
set_option maxRecDepth 20000 in
theorem gX12_liars_X12_isAsked : GoodIn wsX12_liars (wsV RX12 448 RX12 yX12_isAsked wsX12_isAsked) := goodIn_app (goodIn_of _ (by decide +kernel)) ggX12_liars_X12_isAsked
set_option maxRecDepth 20000 in
theorem ggX12_liars_X12_fillsFits : GoodIn wsX12_liars wsX12_fillsFits := goodIn_r _ [16, 1, 17, 18, 19, 5, 20, 21, 22, 23, 24, 25, 26, 27, 28, 29, 30, 31, 32, 33, 34, 35, 36, 37, 38, 39, 40, 41, 42, 43, 44, 45, 46, 47, 48, 49, 50, 51, 52, 53, 54, 55, 56, 57, 58, 59, 60, 61, 62, 63, 64, 65, 66, 67, 68, 69, 70, 71, 72, 73, 74, 75, 76, 77, 78, 79, 80, 81, 82, 83, 84, 85, 86, 87, 88, 89, 90, 91, 92, 93, 94, 95, 96, 97, 98, 99, 100, 101, 102, 103, 104, 105, 106, 107, 108, 109, 110, 111, 112, 113, 114, 115, 116, 117, 118] (by decide +kernel) (by decide +kernel)
set_option maxRecDepth 20000 in
theorem gX12_liars_X12_fillsFits : GoodIn wsX12_liars (wsV RX12 451 RX12 yX12_fillsFits wsX12_fillsFits) := goodIn_app (goodIn_of _ (by decide +kernel)) ggX12_liars_X12_fillsFits
set_option maxRecDepth 20000 in
theorem ggX12_liars_X12_worldAll : GoodIn wsX12_liars wsX12_worldAll := goodIn_r _ [20, 21, 22, 23, 46, 47, 48, 49, 50, 51, 52, 53, 54, 55, 56, 57, 58, 59, 60, 61, 62, 63, 64, 65, 66, 67, 68, 69, 70, 71, 72, 73, 74, 75, 76, 77, 78, 79, 80, 81, 82, 83, 84, 85, 86, 87, 88, 89, 90, 91, 92, 93, 94, 95, 96, 97, 98, 99, 100, 101, 102, 103, 104, 105, 106, 107, 108, 109, 110, 111, 112, 113, 114, 115, 116, 117, 118] (by decide +kernel) (by decide +kernel)
set_option maxRecDepth 20000 in
theorem gX12_liars_X12_worldAll : GoodIn wsX12_liars (wsV RX12 404 RX12 yX12_worldAll wsX12_worldAll) := goodIn_app (goodIn_of _ (by decide +kernel)) ggX12_liars_X12_worldAll
set_option maxRecDepth 20000 in
theorem ggX12_liars_X12_isRight : GoodIn wsX12_liars wsX12_isRight := goodIn_r _ [39, 40, 41, 42, 43, 44, 5, 45, 21, 22, 32, 33, 34, 35, 23, 46, 47, 48, 49, 50, 51, 52, 53, 54, 55, 56, 57, 58, 59, 60, 61, 62, 63, 64, 65, 66, 67, 68, 69, 70, 71, 72, 73, 74, 75, 76, 77, 78, 79, 80, 81, 82, 83, 84, 85, 86, 87, 88, 89, 90, 91, 92, 93, 94, 95, 96, 97, 98, 99, 100, 101, 102, 103, 104, 105, 106, 107, 108, 109, 110, 111, 112, 113, 114, 115, 116, 117, 118] (by decide +kernel) (by decide +kernel)
set_option maxRecDepth 20000 in
theorem gX12_liars_X12_isRight : GoodIn wsX12_liars (wsV RX12 438 RX12 yX12_isRight wsX12_isRight) := goodIn_app (goodIn_of _ (by decide +kernel)) ggX12_liars_X12_isRight
theorem dX12_liars_0 : decode cX12_liars 0 = .ok (.aload_n 0, 1) := by decide +kernel
theorem dX12_liars_1 : decode cX12_liars 1 = .ok (.iload_n 1, 1) := by decide +kernel
theorem dX12_liars_2 : decode cX12_liars 2 = .ok (.iload_n 2, 1) := by decide +kernel
theorem dX12_liars_3 : decode cX12_liars 3 = .ok (.iload_n 3, 1) := by decide +kernel
theorem dX12_liars_4 : decode cX12_liars 4 = .ok (.invokevirtual 448, 3) := by decide +kernel
theorem dX12_liars_7 : decode cX12_liars 7 = .ok (.ifCond .ne 5, 3) := by decide +kernel
theorem dX12_liars_10 : decode cX12_liars 10 = .ok (.iconst (-1), 1) := by decide +kernel
theorem dX12_liars_11 : decode cX12_liars 11 = .ok (.ireturn, 1) := by decide +kernel
theorem dX12_liars_12 : decode cX12_liars 12 = .ok (.aload_n 0, 1) := by decide +kernel
theorem dX12_liars_13 : decode cX12_liars 13 = .ok (.iload_n 1, 1) := by decide +kernel
theorem dX12_liars_14 : decode cX12_liars 14 = .ok (.iload_n 2, 1) := by decide +kernel
theorem dX12_liars_15 : decode cX12_liars 15 = .ok (.iload_n 3, 1) := by decide +kernel
theorem dX12_liars_16 : decode cX12_liars 16 = .ok (.invokevirtual 451, 3) := by decide +kernel
theorem dX12_liars_19 : decode cX12_liars 19 = .ok (.ifCond .ne 7, 3) := by decide +kernel
theorem dX12_liars_22 : decode cX12_liars 22 = .ok (.iconst 0, 1) := by decide +kernel
theorem dX12_liars_23 : decode cX12_liars 23 = .ok (.goto 8, 3) := by decide +kernel
theorem dX12_liars_26 : decode cX12_liars 26 = .ok (.iconst 1, 1) := by decide +kernel
theorem dX12_liars_27 : decode cX12_liars 27 = .ok (.iload_n 1, 1) := by decide +kernel
theorem dX12_liars_28 : decode cX12_liars 28 = .ok (.ishl, 1) := by decide +kernel
theorem dX12_liars_29 : decode cX12_liars 29 = .ok (.iconst 1, 1) := by decide +kernel
theorem dX12_liars_30 : decode cX12_liars 30 = .ok (.isub, 1) := by decide +kernel
theorem dX12_liars_31 : decode cX12_liars 31 = .ok (.istore 4, 2) := by decide +kernel
theorem dX12_liars_33 : decode cX12_liars 33 = .ok (.iconst 0, 1) := by decide +kernel
theorem dX12_liars_34 : decode cX12_liars 34 = .ok (.istore 5, 2) := by decide +kernel
theorem dX12_liars_36 : decode cX12_liars 36 = .ok (.iload 5, 2) := by decide +kernel
theorem dX12_liars_38 : decode cX12_liars 38 = .ok (.aload_n 0, 1) := by decide +kernel
theorem dX12_liars_39 : decode cX12_liars 39 = .ok (.invokevirtual 404, 3) := by decide +kernel
theorem dX12_liars_42 : decode cX12_liars 42 = .ok (.if_icmp .ge 56, 3) := by decide +kernel
theorem dX12_liars_45 : decode cX12_liars 45 = .ok (.aload_n 0, 1) := by decide +kernel
theorem dX12_liars_46 : decode cX12_liars 46 = .ok (.getfield 138, 3) := by decide +kernel
theorem dX12_liars_49 : decode cX12_liars 49 = .ok (.iload 5, 2) := by decide +kernel
theorem dX12_liars_51 : decode cX12_liars 51 = .ok (.baload, 1) := by decide +kernel
theorem dX12_liars_52 : decode cX12_liars 52 = .ok (.ifCond .eq 40, 3) := by decide +kernel
theorem dX12_liars_55 : decode cX12_liars 55 = .ok (.iconst 0, 1) := by decide +kernel
theorem dX12_liars_56 : decode cX12_liars 56 = .ok (.istore 6, 2) := by decide +kernel
theorem dX12_liars_58 : decode cX12_liars 58 = .ok (.iload 6, 2) := by decide +kernel
theorem dX12_liars_60 : decode cX12_liars 60 = .ok (.iload_n 1, 1) := by decide +kernel
theorem dX12_liars_61 : decode cX12_liars 61 = .ok (.if_icmp .ge 31, 3) := by decide +kernel
theorem dX12_liars_64 : decode cX12_liars 64 = .ok (.aload_n 0, 1) := by decide +kernel
theorem dX12_liars_65 : decode cX12_liars 65 = .ok (.iload 5, 2) := by decide +kernel
theorem dX12_liars_67 : decode cX12_liars 67 = .ok (.iload 6, 2) := by decide +kernel
theorem dX12_liars_69 : decode cX12_liars 69 = .ok (.invokevirtual 438, 3) := by decide +kernel
theorem dX12_liars_72 : decode cX12_liars 72 = .ok (.ifCond .eq 14, 3) := by decide +kernel
theorem dX12_liars_75 : decode cX12_liars 75 = .ok (.iload 4, 2) := by decide +kernel
theorem dX12_liars_77 : decode cX12_liars 77 = .ok (.iconst 1, 1) := by decide +kernel
theorem dX12_liars_78 : decode cX12_liars 78 = .ok (.iload 6, 2) := by decide +kernel
theorem dX12_liars_80 : decode cX12_liars 80 = .ok (.ishl, 1) := by decide +kernel
theorem dX12_liars_81 : decode cX12_liars 81 = .ok (.iconst (-1), 1) := by decide +kernel
theorem dX12_liars_82 : decode cX12_liars 82 = .ok (.ixor, 1) := by decide +kernel
theorem dX12_liars_83 : decode cX12_liars 83 = .ok (.iand, 1) := by decide +kernel
theorem dX12_liars_84 : decode cX12_liars 84 = .ok (.istore 4, 2) := by decide +kernel
theorem dX12_liars_86 : decode cX12_liars 86 = .ok (.iinc 6 1, 3) := by decide +kernel
theorem dX12_liars_89 : decode cX12_liars 89 = .ok (.goto (-31), 3) := by decide +kernel
theorem dX12_liars_92 : decode cX12_liars 92 = .ok (.iinc 5 1, 3) := by decide +kernel
theorem dX12_liars_95 : decode cX12_liars 95 = .ok (.goto (-59), 3) := by decide +kernel
theorem dX12_liars_98 : decode cX12_liars 98 = .ok (.iload 4, 2) := by decide +kernel
theorem dX12_liars_100 : decode cX12_liars 100 = .ok (.ireturn, 1) := by decide +kernel
set_option maxRecDepth 20000 in
theorem ggX12_next_X12_isAsked : GoodIn wsX12_next wsX12_isAsked := goodIn_r _ [7, 8, 9, 10, 11, 12, 6, 13, 60, 61, 62, 63, 64, 65, 66, 67, 68, 69, 70, 71, 72, 73, 74, 75, 76, 77, 78, 79, 80, 81, 82, 83, 84, 85, 86, 87, 88, 89, 90, 91, 92, 93, 94, 95, 96, 97, 98, 99, 100, 101, 102, 103, 104, 105, 106, 107, 108, 109, 110, 111, 112, 113, 114, 115, 116, 117, 118, 119, 120, 121, 122, 123, 124, 125, 126, 127, 128, 129, 130, 131, 132] (by decide +kernel) (by decide +kernel)
set_option maxRecDepth 20000 in
theorem gX12_next_X12_isAsked : GoodIn wsX12_next (wsV RX12 448 RX12 yX12_isAsked wsX12_isAsked) := goodIn_app (goodIn_of _ (by decide +kernel)) ggX12_next_X12_isAsked
set_option maxRecDepth 20000 in
theorem ggX12_next_X12_in : GoodIn wsX12_next wsX12_in := goodIn_r _ [13] (by decide +kernel) (by decide +kernel)
set_option maxRecDepth 20000 in
theorem gX12_next_X12_in : GoodIn wsX12_next (va_wsS RX12 332 yX12_in wsX12_in) := goodIn_app (goodIn_of _ (by decide +kernel)) ggX12_next_X12_in
set_option maxRecDepth 20000 in
theorem ggX12_next_X12_fillsFits : GoodIn wsX12_next wsX12_fillsFits := goodIn_r _ [17, 1, 18, 19, 20, 6, 21, 22, 23, 24, 25, 26, 27, 28, 29, 30, 31, 32, 33, 34, 35, 36, 37, 38, 39, 40, 41, 42, 43, 44, 45, 46, 60, 61, 62, 63, 64, 65, 66, 67, 68, 69, 70, 71, 72, 73, 74, 75, 76, 77, 78, 79, 80, 81, 82, 83, 84, 85, 86, 87, 88, 89, 90, 91, 92, 93, 94, 95, 96, 97, 98, 99, 100, 101, 102, 103, 104, 105, 106, 107, 108, 109, 110, 111, 112, 113, 114, 115, 116, 117, 118, 119, 120, 121, 122, 123, 124, 125, 126, 127, 128, 129, 130, 131, 132] (by decide +kernel) (by decide +kernel)
set_option maxRecDepth 20000 in
theorem gX12_next_X12_fillsFits : GoodIn wsX12_next (wsV RX12 451 RX12 yX12_fillsFits wsX12_fillsFits) := goodIn_app (goodIn_of _ (by decide +kernel)) ggX12_next_X12_fillsFits
set_option maxRecDepth 20000 in
theorem ggX12_next_X12_clears : GoodIn wsX12_next wsX12_clears := goodIn_r _ [50, 51, 52, 2, 60, 61, 62, 63, 64, 65, 66, 67, 68, 69, 70, 71, 72, 73, 74, 75, 76, 77, 78, 79, 80, 81, 82, 83, 84, 85, 86, 87, 88, 89, 90, 91, 92, 93, 94, 95, 96, 97, 98, 99, 100, 101, 102, 103, 104, 105, 106, 107, 108, 109, 110, 111, 112, 113, 114, 115, 116, 117, 118, 119, 120, 121, 122, 123, 124, 125, 126, 127, 128, 129, 130, 131, 132] (by decide +kernel) (by decide +kernel)
set_option maxRecDepth 20000 in
theorem gX12_next_X12_clears : GoodIn wsX12_next (wsV RX12 401 RX12 yX12_clears wsX12_clears) := goodIn_app (goodIn_of _ (by decide +kernel)) ggX12_next_X12_clears
set_option maxRecDepth 20000 in
theorem ggX12_next_X12_worldAll : GoodIn wsX12_next wsX12_worldAll := goodIn_r _ [21, 22, 23, 24, 60, 61, 62, 63, 64, 65, 66, 67, 68, 69, 70, 71, 72, 73, 74, 75, 76, 77, 78, 79, 80, 81, 82, 83, 84, 85, 86, 87, 88, 89, 90, 91, 92, 93, 94, 95, 96, 97, 98, 99, 100, 101, 102, 103, 104, 105, 106, 107, 108, 109, 110, 111, 112, 113, 114, 115, 116, 117, 118, 119, 120, 121, 122, 123, 124, 125, 126, 127, 128, 129, 130, 131, 132] (by decide +kernel) (by decide +kernel)
set_option maxRecDepth 20000 in
theorem gX12_next_X12_worldAll : GoodIn wsX12_next (wsV RX12 404 RX12 yX12_worldAll wsX12_worldAll) := goodIn_app (goodIn_of _ (by decide +kernel)) ggX12_next_X12_worldAll
set_option maxRecDepth 20000 in
theorem ggX12_next_X12_worldComes : GoodIn wsX12_next wsX12_worldComes := goodIn_r _ [46, 22, 23, 33, 34, 35, 6, 36, 24, 60, 61, 62, 63, 64, 65, 66, 67, 68, 69, 70, 71, 72, 73, 74, 75, 76, 77, 78, 79, 80, 81, 82, 83, 84, 85, 86, 87, 88, 89, 90, 91, 92, 93, 94, 95, 96, 97, 98, 99, 100, 101, 102, 103, 104, 105, 106, 107, 108, 109, 110, 111, 112, 113, 114, 115, 116, 117, 118, 119, 120, 121, 122, 123, 124, 125, 126, 127, 128, 129, 130, 131, 132] (by decide +kernel) (by decide +kernel)
set_option maxRecDepth 20000 in
theorem gX12_next_X12_worldComes : GoodIn wsX12_next (wsV RX12 407 RX12 yX12_worldComes wsX12_worldComes) := goodIn_app (goodIn_of _ (by decide +kernel)) ggX12_next_X12_worldComes
set_option maxRecDepth 20000 in
theorem ggX12_next_X12_keyAt : GoodIn wsX12_next wsX12_keyAt := goodIn_r _ [56, 57, 58, 52, 59, 51, 60, 61, 62, 63, 64, 65, 66, 67, 68, 69, 70, 71, 72, 73, 74, 75, 76, 77, 78, 79, 80, 81, 82, 83, 84, 85, 86, 87, 88, 89, 90, 91, 92, 93, 94, 95, 96, 97, 98, 99, 100, 101, 102, 103, 104, 105, 106, 107, 108, 109, 110, 111, 112, 113, 114, 115, 116, 117, 118, 119, 120, 121, 122, 123, 124, 125, 126, 127, 128, 129, 130, 131, 132] (by decide +kernel) (by decide +kernel)
set_option maxRecDepth 20000 in
theorem gX12_next_X12_keyAt : GoodIn wsX12_next (wsV RX12 410 RX12 yX12_keyAt wsX12_keyAt) := goodIn_app (goodIn_of _ (by decide +kernel)) ggX12_next_X12_keyAt
theorem dX12_next_0 : decode cX12_next 0 = .ok (.aload_n 0, 1) := by decide +kernel
theorem dX12_next_1 : decode cX12_next 1 = .ok (.iload_n 1, 1) := by decide +kernel
theorem dX12_next_2 : decode cX12_next 2 = .ok (.iload_n 2, 1) := by decide +kernel
theorem dX12_next_3 : decode cX12_next 3 = .ok (.iload_n 3, 1) := by decide +kernel
theorem dX12_next_4 : decode cX12_next 4 = .ok (.invokevirtual 448, 3) := by decide +kernel
theorem dX12_next_7 : decode cX12_next 7 = .ok (.ifCond .eq 14, 3) := by decide +kernel
theorem dX12_next_10 : decode cX12_next 10 = .ok (.iload 4, 2) := by decide +kernel
theorem dX12_next_12 : decode cX12_next 12 = .ok (.i2l, 1) := by decide +kernel
theorem dX12_next_13 : decode cX12_next 13 = .ok (.lconst 0, 1) := by decide +kernel
theorem dX12_next_14 : decode cX12_next 14 = .ok (.lconst 1, 1) := by decide +kernel
theorem dX12_next_15 : decode cX12_next 15 = .ok (.invokestatic 332, 3) := by decide +kernel
theorem dX12_next_18 : decode cX12_next 18 = .ok (.ifCond .ne 7, 3) := by decide +kernel
theorem dX12_next_21 : decode cX12_next 21 = .ok (.sipush (-1000), 3) := by decide +kernel
theorem dX12_next_24 : decode cX12_next 24 = .ok (.ireturn, 1) := by decide +kernel
theorem dX12_next_25 : decode cX12_next 25 = .ok (.aload_n 0, 1) := by decide +kernel
theorem dX12_next_26 : decode cX12_next 26 = .ok (.iload_n 1, 1) := by decide +kernel
theorem dX12_next_27 : decode cX12_next 27 = .ok (.iload_n 2, 1) := by decide +kernel
theorem dX12_next_28 : decode cX12_next 28 = .ok (.iload_n 3, 1) := by decide +kernel
theorem dX12_next_29 : decode cX12_next 29 = .ok (.invokevirtual 451, 3) := by decide +kernel
theorem dX12_next_32 : decode cX12_next 32 = .ok (.ifCond .ne 7, 3) := by decide +kernel
theorem dX12_next_35 : decode cX12_next 35 = .ok (.sipush (-2000), 3) := by decide +kernel
theorem dX12_next_38 : decode cX12_next 38 = .ok (.ireturn, 1) := by decide +kernel
theorem dX12_next_39 : decode cX12_next 39 = .ok (.iconst 0, 1) := by decide +kernel
theorem dX12_next_40 : decode cX12_next 40 = .ok (.istore 5, 2) := by decide +kernel
theorem dX12_next_42 : decode cX12_next 42 = .ok (.iconst (-1), 1) := by decide +kernel
theorem dX12_next_43 : decode cX12_next 43 = .ok (.istore 6, 2) := by decide +kernel
theorem dX12_next_45 : decode cX12_next 45 = .ok (.bipush (-9), 2) := by decide +kernel
theorem dX12_next_47 : decode cX12_next 47 = .ok (.istore 7, 2) := by decide +kernel
theorem dX12_next_49 : decode cX12_next 49 = .ok (.iload 7, 2) := by decide +kernel
theorem dX12_next_51 : decode cX12_next 51 = .ok (.bipush 10, 2) := by decide +kernel
theorem dX12_next_53 : decode cX12_next 53 = .ok (.if_icmp .ge 119, 3) := by decide +kernel
theorem dX12_next_56 : decode cX12_next 56 = .ok (.aload_n 0, 1) := by decide +kernel
theorem dX12_next_57 : decode cX12_next 57 = .ok (.invokevirtual 401, 3) := by decide +kernel
theorem dX12_next_60 : decode cX12_next 60 = .ok (.iconst 0, 1) := by decide +kernel
theorem dX12_next_61 : decode cX12_next 61 = .ok (.istore 8, 2) := by decide +kernel
theorem dX12_next_63 : decode cX12_next 63 = .ok (.iconst 0, 1) := by decide +kernel
theorem dX12_next_64 : decode cX12_next 64 = .ok (.istore 9, 2) := by decide +kernel
theorem dX12_next_66 : decode cX12_next 66 = .ok (.iload 9, 2) := by decide +kernel
theorem dX12_next_68 : decode cX12_next 68 = .ok (.aload_n 0, 1) := by decide +kernel
theorem dX12_next_69 : decode cX12_next 69 = .ok (.invokevirtual 404, 3) := by decide +kernel
theorem dX12_next_72 : decode cX12_next 72 = .ok (.if_icmp .ge 71, 3) := by decide +kernel
theorem dX12_next_75 : decode cX12_next 75 = .ok (.aload_n 0, 1) := by decide +kernel
theorem dX12_next_76 : decode cX12_next 76 = .ok (.getfield 138, 3) := by decide +kernel
theorem dX12_next_79 : decode cX12_next 79 = .ok (.iload 9, 2) := by decide +kernel
theorem dX12_next_81 : decode cX12_next 81 = .ok (.baload, 1) := by decide +kernel
theorem dX12_next_82 : decode cX12_next 82 = .ok (.ifCond .ne 6, 3) := by decide +kernel
theorem dX12_next_85 : decode cX12_next 85 = .ok (.goto 52, 3) := by decide +kernel
theorem dX12_next_88 : decode cX12_next 88 = .ok (.aload_n 0, 1) := by decide +kernel
theorem dX12_next_89 : decode cX12_next 89 = .ok (.aload_n 0, 1) := by decide +kernel
theorem dX12_next_90 : decode cX12_next 90 = .ok (.iload 9, 2) := by decide +kernel
theorem dX12_next_92 : decode cX12_next 92 = .ok (.iload 7, 2) := by decide +kernel
theorem dX12_next_94 : decode cX12_next 94 = .ok (.i2l, 1) := by decide +kernel
theorem dX12_next_95 : decode cX12_next 95 = .ok (.invokevirtual 407, 3) := by decide +kernel
theorem dX12_next_98 : decode cX12_next 98 = .ok (.iload 9, 2) := by decide +kernel
theorem dX12_next_100 : decode cX12_next 100 = .ok (.invokevirtual 410, 3) := by decide +kernel
theorem dX12_next_103 : decode cX12_next 103 = .ok (.istore 10, 2) := by decide +kernel
theorem dX12_next_105 : decode cX12_next 105 = .ok (.aload_n 0, 1) := by decide +kernel
theorem dX12_next_106 : decode cX12_next 106 = .ok (.getfield 126, 3) := by decide +kernel
theorem dX12_next_109 : decode cX12_next 109 = .ok (.iload 10, 2) := by decide +kernel
theorem dX12_next_111 : decode cX12_next 111 = .ok (.dup2, 1) := by decide +kernel
theorem dX12_next_112 : decode cX12_next 112 = .ok (.iaload, 1) := by decide +kernel
theorem dX12_next_113 : decode cX12_next 113 = .ok (.iconst 1, 1) := by decide +kernel
theorem dX12_next_114 : decode cX12_next 114 = .ok (.iadd, 1) := by decide +kernel
theorem dX12_next_115 : decode cX12_next 115 = .ok (.iastore, 1) := by decide +kernel
theorem dX12_next_116 : decode cX12_next 116 = .ok (.aload_n 0, 1) := by decide +kernel
theorem dX12_next_117 : decode cX12_next 117 = .ok (.getfield 126, 3) := by decide +kernel
theorem dX12_next_120 : decode cX12_next 120 = .ok (.iload 10, 2) := by decide +kernel
theorem dX12_next_122 : decode cX12_next 122 = .ok (.iaload, 1) := by decide +kernel
theorem dX12_next_123 : decode cX12_next 123 = .ok (.iload 8, 2) := by decide +kernel
theorem dX12_next_125 : decode cX12_next 125 = .ok (.if_icmp .le 12, 3) := by decide +kernel
theorem dX12_next_128 : decode cX12_next 128 = .ok (.aload_n 0, 1) := by decide +kernel
theorem dX12_next_129 : decode cX12_next 129 = .ok (.getfield 126, 3) := by decide +kernel
theorem dX12_next_132 : decode cX12_next 132 = .ok (.iload 10, 2) := by decide +kernel
theorem dX12_next_134 : decode cX12_next 134 = .ok (.iaload, 1) := by decide +kernel
theorem dX12_next_135 : decode cX12_next 135 = .ok (.istore 8, 2) := by decide +kernel
theorem dX12_next_137 : decode cX12_next 137 = .ok (.iinc 9 1, 3) := by decide +kernel
theorem dX12_next_140 : decode cX12_next 140 = .ok (.goto (-74), 3) := by decide +kernel
theorem dX12_next_143 : decode cX12_next 143 = .ok (.iload 6, 2) := by decide +kernel
theorem dX12_next_145 : decode cX12_next 145 = .ok (.ifCond .lt 13, 3) := by decide +kernel
theorem dX12_next_148 : decode cX12_next 148 = .ok (.iload 8, 2) := by decide +kernel
theorem dX12_next_150 : decode cX12_next 150 = .ok (.iload 6, 2) := by decide +kernel
theorem dX12_next_152 : decode cX12_next 152 = .ok (.if_icmp .lt 6, 3) := by decide +kernel
theorem dX12_next_155 : decode cX12_next 155 = .ok (.goto 11, 3) := by decide +kernel
theorem dX12_next_158 : decode cX12_next 158 = .ok (.iload 7, 2) := by decide +kernel
theorem dX12_next_160 : decode cX12_next 160 = .ok (.istore 5, 2) := by decide +kernel
theorem dX12_next_162 : decode cX12_next 162 = .ok (.iload 8, 2) := by decide +kernel
theorem dX12_next_164 : decode cX12_next 164 = .ok (.istore 6, 2) := by decide +kernel
theorem dX12_next_166 : decode cX12_next 166 = .ok (.iinc 7 1, 3) := by decide +kernel
theorem dX12_next_169 : decode cX12_next 169 = .ok (.goto (-120), 3) := by decide +kernel
theorem dX12_next_172 : decode cX12_next 172 = .ok (.iload 4, 2) := by decide +kernel
theorem dX12_next_174 : decode cX12_next 174 = .ok (.ifCond .ne 8, 3) := by decide +kernel
theorem dX12_next_177 : decode cX12_next 177 = .ok (.iload 5, 2) := by decide +kernel
theorem dX12_next_179 : decode cX12_next 179 = .ok (.goto 5, 3) := by decide +kernel
theorem dX12_next_182 : decode cX12_next 182 = .ok (.iload 6, 2) := by decide +kernel
theorem dX12_next_184 : decode cX12_next 184 = .ok (.ireturn, 1) := by decide +kernel
set_option maxRecDepth 20000 in
theorem ggX12_worldsAt_X12_in : GoodIn wsX12_worldsAt wsX12_in := goodIn_r _ [6] (by decide +kernel) (by decide +kernel)
set_option maxRecDepth 20000 in
theorem gX12_worldsAt_X12_in : GoodIn wsX12_worldsAt (va_wsS RX12 332 yX12_in wsX12_in) := goodIn_app (goodIn_of _ (by decide +kernel)) ggX12_worldsAt_X12_in
set_option maxRecDepth 20000 in
theorem ggX12_worldsAt_X12_worldAll : GoodIn wsX12_worldsAt wsX12_worldAll := goodIn_r _ [10, 11, 12, 13, 22, 23, 24, 25, 26, 27, 28, 29, 30, 31, 32, 33, 34, 35, 36, 37, 38, 39, 40, 41, 42, 43, 44, 45, 46, 47, 48, 49, 50, 51, 52, 53, 54, 55, 56, 57, 58, 59, 60, 61, 62, 63, 64, 65, 66, 67, 68, 69, 70, 71, 72, 73, 74, 75, 76, 77, 78, 79, 80, 81, 82, 83, 84, 85, 86, 87, 88, 89, 90, 91, 92, 93, 94] (by decide +kernel) (by decide +kernel)
set_option maxRecDepth 20000 in
theorem gX12_worldsAt_X12_worldAll : GoodIn wsX12_worldsAt (wsV RX12 404 RX12 yX12_worldAll wsX12_worldAll) := goodIn_app (goodIn_of _ (by decide +kernel)) ggX12_worldsAt_X12_worldAll
set_option maxRecDepth 20000 in
theorem ggX12_worldsAt_X12_worldComes : GoodIn wsX12_worldsAt wsX12_worldComes := goodIn_r _ [17, 11, 12, 18, 19, 20, 5, 21, 13, 22, 23, 24, 25, 26, 27, 28, 29, 30, 31, 32, 33, 34, 35, 36, 37, 38, 39, 40, 41, 42, 43, 44, 45, 46, 47, 48, 49, 50, 51, 52, 53, 54, 55, 56, 57, 58, 59, 60, 61, 62, 63, 64, 65, 66, 67, 68, 69, 70, 71, 72, 73, 74, 75, 76, 77, 78, 79, 80, 81, 82, 83, 84, 85, 86, 87, 88, 89, 90, 91, 92, 93, 94] (by decide +kernel) (by decide +kernel)
set_option maxRecDepth 20000 in
theorem gX12_worldsAt_X12_worldComes : GoodIn wsX12_worldsAt (wsV RX12 407 RX12 yX12_worldComes wsX12_worldComes) := goodIn_app (goodIn_of _ (by decide +kernel)) ggX12_worldsAt_X12_worldComes
theorem dX12_worldsAt_0 : decode cX12_worldsAt 0 = .ok (.iload_n 1, 1) := by decide +kernel
theorem dX12_worldsAt_1 : decode cX12_worldsAt 1 = .ok (.i2l, 1) := by decide +kernel
theorem dX12_worldsAt_2 : decode cX12_worldsAt 2 = .ok (.ldc2_w 430, 3) := by decide +kernel
theorem dX12_worldsAt_5 : decode cX12_worldsAt 5 = .ok (.ldc2_w 432, 3) := by decide +kernel
theorem dX12_worldsAt_8 : decode cX12_worldsAt 8 = .ok (.invokestatic 332, 3) := by decide +kernel
theorem dX12_worldsAt_11 : decode cX12_worldsAt 11 = .ok (.ifCond .ne 5, 3) := by decide +kernel
theorem dX12_worldsAt_14 : decode cX12_worldsAt 14 = .ok (.iconst (-1), 1) := by decide +kernel
theorem dX12_worldsAt_15 : decode cX12_worldsAt 15 = .ok (.ireturn, 1) := by decide +kernel
theorem dX12_worldsAt_16 : decode cX12_worldsAt 16 = .ok (.iconst 0, 1) := by decide +kernel
theorem dX12_worldsAt_17 : decode cX12_worldsAt 17 = .ok (.istore 4, 2) := by decide +kernel
theorem dX12_worldsAt_19 : decode cX12_worldsAt 19 = .ok (.iconst 0, 1) := by decide +kernel
theorem dX12_worldsAt_20 : decode cX12_worldsAt 20 = .ok (.istore 5, 2) := by decide +kernel
theorem dX12_worldsAt_22 : decode cX12_worldsAt 22 = .ok (.iload 5, 2) := by decide +kernel
theorem dX12_worldsAt_24 : decode cX12_worldsAt 24 = .ok (.aload_n 0, 1) := by decide +kernel
theorem dX12_worldsAt_25 : decode cX12_worldsAt 25 = .ok (.invokevirtual 404, 3) := by decide +kernel
theorem dX12_worldsAt_28 : decode cX12_worldsAt 28 = .ok (.if_icmp .ge 25, 3) := by decide +kernel
theorem dX12_worldsAt_31 : decode cX12_worldsAt 31 = .ok (.aload_n 0, 1) := by decide +kernel
theorem dX12_worldsAt_32 : decode cX12_worldsAt 32 = .ok (.iload 5, 2) := by decide +kernel
theorem dX12_worldsAt_34 : decode cX12_worldsAt 34 = .ok (.iload_n 1, 1) := by decide +kernel
theorem dX12_worldsAt_35 : decode cX12_worldsAt 35 = .ok (.i2l, 1) := by decide +kernel
theorem dX12_worldsAt_36 : decode cX12_worldsAt 36 = .ok (.invokevirtual 407, 3) := by decide +kernel
theorem dX12_worldsAt_39 : decode cX12_worldsAt 39 = .ok (.lload_n 2, 1) := by decide +kernel
theorem dX12_worldsAt_40 : decode cX12_worldsAt 40 = .ok (.lcmp, 1) := by decide +kernel
theorem dX12_worldsAt_41 : decode cX12_worldsAt 41 = .ok (.ifCond .ne 6, 3) := by decide +kernel
theorem dX12_worldsAt_44 : decode cX12_worldsAt 44 = .ok (.iinc 4 1, 3) := by decide +kernel
theorem dX12_worldsAt_47 : decode cX12_worldsAt 47 = .ok (.iinc 5 1, 3) := by decide +kernel
theorem dX12_worldsAt_50 : decode cX12_worldsAt 50 = .ok (.goto (-28), 3) := by decide +kernel
theorem dX12_worldsAt_53 : decode cX12_worldsAt 53 = .ok (.iload 4, 2) := by decide +kernel
theorem dX12_worldsAt_55 : decode cX12_worldsAt 55 = .ok (.ireturn, 1) := by decide +kernel
set_option maxRecDepth 20000 in
theorem ggX12_cost_X12_in : GoodIn wsX12_cost wsX12_in := goodIn_r _ [6] (by decide +kernel) (by decide +kernel)
set_option maxRecDepth 20000 in
theorem gX12_cost_X12_in : GoodIn wsX12_cost (va_wsS RX12 332 yX12_in wsX12_in) := goodIn_app (goodIn_of _ (by decide +kernel)) ggX12_cost_X12_in
set_option maxRecDepth 20000 in
theorem ggX12_cost_X12_figures : GoodIn wsX12_cost wsX12_figures := goodIn_r _ [9, 10] (by decide +kernel) (by decide +kernel)
set_option maxRecDepth 20000 in
theorem gX12_cost_X12_figures : GoodIn wsX12_cost (va_wsS RX12 366 yX12_figures wsX12_figures) := goodIn_app (goodIn_of _ (by decide +kernel)) ggX12_cost_X12_figures
theorem dX12_cost_0 : decode cX12_cost 0 = .ok (.iload_n 1, 1) := by decide +kernel
theorem dX12_cost_1 : decode cX12_cost 1 = .ok (.i2l, 1) := by decide +kernel
theorem dX12_cost_2 : decode cX12_cost 2 = .ok (.lconst 0, 1) := by decide +kernel
theorem dX12_cost_3 : decode cX12_cost 3 = .ok (.aload_n 0, 1) := by decide +kernel
theorem dX12_cost_4 : decode cX12_cost 4 = .ok (.getfield 265, 3) := by decide +kernel
theorem dX12_cost_7 : decode cX12_cost 7 = .ok (.i2l, 1) := by decide +kernel
theorem dX12_cost_8 : decode cX12_cost 8 = .ok (.invokestatic 332, 3) := by decide +kernel
theorem dX12_cost_11 : decode cX12_cost 11 = .ok (.ifCond .ne 5, 3) := by decide +kernel
theorem dX12_cost_14 : decode cX12_cost 14 = .ok (.iconst (-1), 1) := by decide +kernel
theorem dX12_cost_15 : decode cX12_cost 15 = .ok (.ireturn, 1) := by decide +kernel
theorem dX12_cost_16 : decode cX12_cost 16 = .ok (.iconst 0, 1) := by decide +kernel
theorem dX12_cost_17 : decode cX12_cost 17 = .ok (.istore_n 2, 1) := by decide +kernel
theorem dX12_cost_18 : decode cX12_cost 18 = .ok (.iconst 0, 1) := by decide +kernel
theorem dX12_cost_19 : decode cX12_cost 19 = .ok (.istore_n 3, 1) := by decide +kernel
theorem dX12_cost_20 : decode cX12_cost 20 = .ok (.iload_n 3, 1) := by decide +kernel
theorem dX12_cost_21 : decode cX12_cost 21 = .ok (.iload_n 1, 1) := by decide +kernel
theorem dX12_cost_22 : decode cX12_cost 22 = .ok (.if_icmp .ge 22, 3) := by decide +kernel
theorem dX12_cost_25 : decode cX12_cost 25 = .ok (.iload_n 2, 1) := by decide +kernel
theorem dX12_cost_26 : decode cX12_cost 26 = .ok (.aload_n 0, 1) := by decide +kernel
theorem dX12_cost_27 : decode cX12_cost 27 = .ok (.getfield 132, 3) := by decide +kernel
theorem dX12_cost_30 : decode cX12_cost 30 = .ok (.iload_n 3, 1) := by decide +kernel
theorem dX12_cost_31 : decode cX12_cost 31 = .ok (.iaload, 1) := by decide +kernel
theorem dX12_cost_32 : decode cX12_cost 32 = .ok (.i2l, 1) := by decide +kernel
theorem dX12_cost_33 : decode cX12_cost 33 = .ok (.invokestatic 366, 3) := by decide +kernel
theorem dX12_cost_36 : decode cX12_cost 36 = .ok (.iadd, 1) := by decide +kernel
theorem dX12_cost_37 : decode cX12_cost 37 = .ok (.istore_n 2, 1) := by decide +kernel
theorem dX12_cost_38 : decode cX12_cost 38 = .ok (.iinc 3 1, 3) := by decide +kernel
theorem dX12_cost_41 : decode cX12_cost 41 = .ok (.goto (-21), 3) := by decide +kernel
theorem dX12_cost_44 : decode cX12_cost 44 = .ok (.iload_n 2, 1) := by decide +kernel
theorem dX12_cost_45 : decode cX12_cost 45 = .ok (.ireturn, 1) := by decide +kernel
set_option maxRecDepth 20000 in
theorem ggX12_hide_X12_isRow : GoodIn wsX12_hide wsX12_isRow := goodIn_r _ [8, 9, 10, 11, 12, 7, 13, 14, 15, 16, 17, 18, 19, 20, 21, 22, 23, 24, 25, 26, 27, 28, 29, 30, 31, 32, 33, 34, 35, 36, 37, 38, 39, 40, 41, 42, 43, 44, 45, 46, 47, 48, 49, 50, 51, 52, 53, 54, 55, 56, 57, 58, 59, 60, 61, 62, 63, 64, 65, 66, 67, 68, 69, 70, 71, 72, 73, 74, 75, 76, 77, 78, 79, 80, 81, 82, 83, 84, 85, 86] (by decide +kernel) (by decide +kernel)
set_option maxRecDepth 20000 in
theorem gX12_hide_X12_isRow : GoodIn wsX12_hide (wsV RX12 336 RX12 yX12_isRow wsX12_isRow) := goodIn_app (goodIn_of _ (by decide +kernel)) ggX12_hide_X12_isRow
theorem dX12_hide_0 : decode cX12_hide 0 = .ok (.aload_n 0, 1) := by decide +kernel
theorem dX12_hide_1 : decode cX12_hide 1 = .ok (.iload_n 1, 1) := by decide +kernel
theorem dX12_hide_2 : decode cX12_hide 2 = .ok (.invokevirtual 336, 3) := by decide +kernel
theorem dX12_hide_5 : decode cX12_hide 5 = .ok (.ifCond .ne 5, 3) := by decide +kernel
theorem dX12_hide_8 : decode cX12_hide 8 = .ok (.iconst 0, 1) := by decide +kernel
theorem dX12_hide_9 : decode cX12_hide 9 = .ok (.ireturn, 1) := by decide +kernel
theorem dX12_hide_10 : decode cX12_hide 10 = .ok (.aload_n 0, 1) := by decide +kernel
theorem dX12_hide_11 : decode cX12_hide 11 = .ok (.iload_n 1, 1) := by decide +kernel
theorem dX12_hide_12 : decode cX12_hide 12 = .ok (.putfield 141, 3) := by decide +kernel
theorem dX12_hide_15 : decode cX12_hide 15 = .ok (.aload_n 0, 1) := by decide +kernel
theorem dX12_hide_16 : decode cX12_hide 16 = .ok (.iconst 0, 1) := by decide +kernel
theorem dX12_hide_17 : decode cX12_hide 17 = .ok (.putfield 268, 3) := by decide +kernel
theorem dX12_hide_20 : decode cX12_hide 20 = .ok (.aload_n 0, 1) := by decide +kernel
theorem dX12_hide_21 : decode cX12_hide 21 = .ok (.iconst 0, 1) := by decide +kernel
theorem dX12_hide_22 : decode cX12_hide 22 = .ok (.putfield 265, 3) := by decide +kernel
theorem dX12_hide_25 : decode cX12_hide 25 = .ok (.iconst 1, 1) := by decide +kernel
theorem dX12_hide_26 : decode cX12_hide 26 = .ok (.ireturn, 1) := by decide +kernel
set_option maxRecDepth 20000 in
theorem ggX12_ask_X12_in : GoodIn wsX12_ask wsX12_in := goodIn_r _ [14] (by decide +kernel) (by decide +kernel)
set_option maxRecDepth 20000 in
theorem gX12_ask_X12_in : GoodIn wsX12_ask (va_wsS RX12 332 yX12_in wsX12_in) := goodIn_app (goodIn_of _ (by decide +kernel)) ggX12_ask_X12_in
set_option maxRecDepth 20000 in
theorem ggX12_ask_X12_comesBy : GoodIn wsX12_ask wsX12_comesBy := goodIn_r _ [18, 19, 20, 21, 13, 22, 23, 8, 24, 25, 26, 27, 28, 29, 30, 31, 32, 33, 34, 35, 36, 37, 38, 39, 40, 41, 42, 43, 44, 45, 46, 47, 48, 49, 50, 51, 52, 53, 54, 55, 56, 57, 58, 59, 60, 61, 62, 63, 64, 65, 66, 67, 68, 69, 70, 71, 72, 73, 74, 75, 76, 77, 78, 79, 80, 81, 82, 83, 84, 85, 86, 87, 88, 89, 90, 91, 92, 93, 94, 95, 96, 97, 98, 99, 100, 101] (by decide +kernel) (by decide +kernel)
set_option maxRecDepth 20000 in
theorem gX12_ask_X12_comesBy : GoodIn wsX12_ask (wsV RX12 349 RX12 yX12_comesBy wsX12_comesBy) := goodIn_app (goodIn_of _ (by decide +kernel)) ggX12_ask_X12_comesBy
theorem dX12_ask_0 : decode cX12_ask 0 = .ok (.aload_n 0, 1) := by decide +kernel
theorem dX12_ask_1 : decode cX12_ask 1 = .ok (.getfield 141, 3) := by decide +kernel
theorem dX12_ask_4 : decode cX12_ask 4 = .ok (.ifCond .lt 26, 3) := by decide +kernel
theorem dX12_ask_7 : decode cX12_ask 7 = .ok (.aload_n 0, 1) := by decide +kernel
theorem dX12_ask_8 : decode cX12_ask 8 = .ok (.getfield 265, 3) := by decide +kernel
theorem dX12_ask_11 : decode cX12_ask 11 = .ok (.bipush 20, 2) := by decide +kernel
theorem dX12_ask_13 : decode cX12_ask 13 = .ok (.if_icmp .eq 17, 3) := by decide +kernel
theorem dX12_ask_16 : decode cX12_ask 16 = .ok (.iload_n 1, 1) := by decide +kernel
theorem dX12_ask_17 : decode cX12_ask 17 = .ok (.i2l, 1) := by decide +kernel
theorem dX12_ask_18 : decode cX12_ask 18 = .ok (.ldc2_w 430, 3) := by decide +kernel
theorem dX12_ask_21 : decode cX12_ask 21 = .ok (.ldc2_w 432, 3) := by decide +kernel
theorem dX12_ask_24 : decode cX12_ask 24 = .ok (.invokestatic 332, 3) := by decide +kernel
theorem dX12_ask_27 : decode cX12_ask 27 = .ok (.ifCond .ne 7, 3) := by decide +kernel
theorem dX12_ask_30 : decode cX12_ask 30 = .ok (.ldc2_w 353, 3) := by decide +kernel
theorem dX12_ask_33 : decode cX12_ask 33 = .ok (.lreturn, 1) := by decide +kernel
theorem dX12_ask_34 : decode cX12_ask 34 = .ok (.aload_n 0, 1) := by decide +kernel
theorem dX12_ask_35 : decode cX12_ask 35 = .ok (.dup, 1) := by decide +kernel
theorem dX12_ask_36 : decode cX12_ask 36 = .ok (.getfield 268, 3) := by decide +kernel
theorem dX12_ask_39 : decode cX12_ask 39 = .ok (.iconst 1, 1) := by decide +kernel
theorem dX12_ask_40 : decode cX12_ask 40 = .ok (.iadd, 1) := by decide +kernel
theorem dX12_ask_41 : decode cX12_ask 41 = .ok (.putfield 268, 3) := by decide +kernel
theorem dX12_ask_44 : decode cX12_ask 44 = .ok (.aload_n 0, 1) := by decide +kernel
theorem dX12_ask_45 : decode cX12_ask 45 = .ok (.aload_n 0, 1) := by decide +kernel
theorem dX12_ask_46 : decode cX12_ask 46 = .ok (.getfield 141, 3) := by decide +kernel
theorem dX12_ask_49 : decode cX12_ask 49 = .ok (.iload_n 1, 1) := by decide +kernel
theorem dX12_ask_50 : decode cX12_ask 50 = .ok (.i2l, 1) := by decide +kernel
theorem dX12_ask_51 : decode cX12_ask 51 = .ok (.invokevirtual 349, 3) := by decide +kernel
theorem dX12_ask_54 : decode cX12_ask 54 = .ok (.lstore_n 2, 1) := by decide +kernel
theorem dX12_ask_55 : decode cX12_ask 55 = .ok (.aload_n 0, 1) := by decide +kernel
theorem dX12_ask_56 : decode cX12_ask 56 = .ok (.getfield 79, 3) := by decide +kernel
theorem dX12_ask_59 : decode cX12_ask 59 = .ok (.aload_n 0, 1) := by decide +kernel
theorem dX12_ask_60 : decode cX12_ask 60 = .ok (.getfield 243, 3) := by decide +kernel
theorem dX12_ask_63 : decode cX12_ask 63 = .ok (.iaload, 1) := by decide +kernel
theorem dX12_ask_64 : decode cX12_ask 64 = .ok (.ifCond .le 24, 3) := by decide +kernel
theorem dX12_ask_67 : decode cX12_ask 67 = .ok (.aload_n 0, 1) := by decide +kernel
theorem dX12_ask_68 : decode cX12_ask 68 = .ok (.getfield 268, 3) := by decide +kernel
theorem dX12_ask_71 : decode cX12_ask 71 = .ok (.aload_n 0, 1) := by decide +kernel
theorem dX12_ask_72 : decode cX12_ask 72 = .ok (.getfield 79, 3) := by decide +kernel
theorem dX12_ask_75 : decode cX12_ask 75 = .ok (.aload_n 0, 1) := by decide +kernel
theorem dX12_ask_76 : decode cX12_ask 76 = .ok (.getfield 243, 3) := by decide +kernel
theorem dX12_ask_79 : decode cX12_ask 79 = .ok (.iaload, 1) := by decide +kernel
theorem dX12_ask_80 : decode cX12_ask 80 = .ok (.irem, 1) := by decide +kernel
theorem dX12_ask_81 : decode cX12_ask 81 = .ok (.ifCond .ne 7, 3) := by decide +kernel
theorem dX12_ask_84 : decode cX12_ask 84 = .ok (.lload_n 2, 1) := by decide +kernel
theorem dX12_ask_85 : decode cX12_ask 85 = .ok (.lconst 1, 1) := by decide +kernel
theorem dX12_ask_86 : decode cX12_ask 86 = .ok (.ladd, 1) := by decide +kernel
theorem dX12_ask_87 : decode cX12_ask 87 = .ok (.lstore_n 2, 1) := by decide +kernel
theorem dX12_ask_88 : decode cX12_ask 88 = .ok (.aload_n 0, 1) := by decide +kernel
theorem dX12_ask_89 : decode cX12_ask 89 = .ok (.getfield 132, 3) := by decide +kernel
theorem dX12_ask_92 : decode cX12_ask 92 = .ok (.aload_n 0, 1) := by decide +kernel
theorem dX12_ask_93 : decode cX12_ask 93 = .ok (.getfield 265, 3) := by decide +kernel
theorem dX12_ask_96 : decode cX12_ask 96 = .ok (.iload_n 1, 1) := by decide +kernel
theorem dX12_ask_97 : decode cX12_ask 97 = .ok (.iastore, 1) := by decide +kernel
theorem dX12_ask_98 : decode cX12_ask 98 = .ok (.aload_n 0, 1) := by decide +kernel
theorem dX12_ask_99 : decode cX12_ask 99 = .ok (.getfield 135, 3) := by decide +kernel
theorem dX12_ask_102 : decode cX12_ask 102 = .ok (.aload_n 0, 1) := by decide +kernel
theorem dX12_ask_103 : decode cX12_ask 103 = .ok (.getfield 265, 3) := by decide +kernel
theorem dX12_ask_106 : decode cX12_ask 106 = .ok (.lload_n 2, 1) := by decide +kernel
theorem dX12_ask_107 : decode cX12_ask 107 = .ok (.lastore, 1) := by decide +kernel
theorem dX12_ask_108 : decode cX12_ask 108 = .ok (.aload_n 0, 1) := by decide +kernel
theorem dX12_ask_109 : decode cX12_ask 109 = .ok (.dup, 1) := by decide +kernel
theorem dX12_ask_110 : decode cX12_ask 110 = .ok (.getfield 265, 3) := by decide +kernel
theorem dX12_ask_113 : decode cX12_ask 113 = .ok (.iconst 1, 1) := by decide +kernel
theorem dX12_ask_114 : decode cX12_ask 114 = .ok (.iadd, 1) := by decide +kernel
theorem dX12_ask_115 : decode cX12_ask 115 = .ok (.putfield 265, 3) := by decide +kernel
theorem dX12_ask_118 : decode cX12_ask 118 = .ok (.lload_n 2, 1) := by decide +kernel
theorem dX12_ask_119 : decode cX12_ask 119 = .ok (.lreturn, 1) := by decide +kernel
set_option maxRecDepth 20000 in
theorem ggX12_asksAfter_X12_tellsBy : GoodIn wsX12_asksAfter wsX12_tellsBy := goodIn_r _ [10, 11, 1, 3, 12, 13, 14, 15, 16, 17, 18, 19, 9, 20, 21, 22, 23, 4, 24, 25, 26, 27, 28, 29, 30, 31, 32, 33, 34, 35, 36, 37, 38, 39, 40, 41, 42, 43, 44, 45, 46, 47, 48, 49, 50, 51, 52, 53, 54, 55, 56, 57, 58, 59, 60, 61, 62, 63, 64, 65, 66, 67, 68, 69, 70, 71, 72, 73, 74, 75, 76, 77, 78, 79, 80, 81, 82, 83, 84, 85, 86, 87, 88, 89, 90, 91, 92, 93, 94, 95, 96] (by decide +kernel) (by decide +kernel)
set_option maxRecDepth 20000 in
theorem gX12_asksAfter_X12_tellsBy : GoodIn wsX12_asksAfter (wsV RX12 300 RX12 yX12_tellsBy wsX12_tellsBy) := goodIn_app (goodIn_of _ (by decide +kernel)) ggX12_asksAfter_X12_tellsBy
theorem dX12_asksAfter_0 : decode cX12_asksAfter 0 = .ok (.aload_n 0, 1) := by decide +kernel
theorem dX12_asksAfter_1 : decode cX12_asksAfter 1 = .ok (.getfield 82, 3) := by decide +kernel
theorem dX12_asksAfter_4 : decode cX12_asksAfter 4 = .ok (.iconst 2, 1) := by decide +kernel
theorem dX12_asksAfter_5 : decode cX12_asksAfter 5 = .ok (.aload_n 0, 1) := by decide +kernel
theorem dX12_asksAfter_6 : decode cX12_asksAfter 6 = .ok (.getfield 243, 3) := by decide +kernel
theorem dX12_asksAfter_9 : decode cX12_asksAfter 9 = .ok (.imul, 1) := by decide +kernel
theorem dX12_asksAfter_10 : decode cX12_asksAfter 10 = .ok (.iaload, 1) := by decide +kernel
theorem dX12_asksAfter_11 : decode cX12_asksAfter 11 = .ok (.aload_n 0, 1) := by decide +kernel
theorem dX12_asksAfter_12 : decode cX12_asksAfter 12 = .ok (.getfield 85, 3) := by decide +kernel
theorem dX12_asksAfter_15 : decode cX12_asksAfter 15 = .ok (.iconst 2, 1) := by decide +kernel
theorem dX12_asksAfter_16 : decode cX12_asksAfter 16 = .ok (.aload_n 0, 1) := by decide +kernel
theorem dX12_asksAfter_17 : decode cX12_asksAfter 17 = .ok (.getfield 243, 3) := by decide +kernel
theorem dX12_asksAfter_20 : decode cX12_asksAfter 20 = .ok (.imul, 1) := by decide +kernel
theorem dX12_asksAfter_21 : decode cX12_asksAfter 21 = .ok (.iaload, 1) := by decide +kernel
theorem dX12_asksAfter_22 : decode cX12_asksAfter 22 = .ok (.if_icmp .ne 7, 3) := by decide +kernel
theorem dX12_asksAfter_25 : decode cX12_asksAfter 25 = .ok (.iload_n 1, 1) := by decide +kernel
theorem dX12_asksAfter_26 : decode cX12_asksAfter 26 = .ok (.iconst 1, 1) := by decide +kernel
theorem dX12_asksAfter_27 : decode cX12_asksAfter 27 = .ok (.iadd, 1) := by decide +kernel
theorem dX12_asksAfter_28 : decode cX12_asksAfter 28 = .ok (.ireturn, 1) := by decide +kernel
theorem dX12_asksAfter_29 : decode cX12_asksAfter 29 = .ok (.iconst 0, 1) := by decide +kernel
theorem dX12_asksAfter_30 : decode cX12_asksAfter 30 = .ok (.istore 5, 2) := by decide +kernel
theorem dX12_asksAfter_32 : decode cX12_asksAfter 32 = .ok (.iload 5, 2) := by decide +kernel
theorem dX12_asksAfter_34 : decode cX12_asksAfter 34 = .ok (.iconst 3, 1) := by decide +kernel
theorem dX12_asksAfter_35 : decode cX12_asksAfter 35 = .ok (.if_icmp .ge 17, 3) := by decide +kernel
theorem dX12_asksAfter_38 : decode cX12_asksAfter 38 = .ok (.aload_n 0, 1) := by decide +kernel
theorem dX12_asksAfter_39 : decode cX12_asksAfter 39 = .ok (.getfield 113, 3) := by decide +kernel
theorem dX12_asksAfter_42 : decode cX12_asksAfter 42 = .ok (.iload 5, 2) := by decide +kernel
theorem dX12_asksAfter_44 : decode cX12_asksAfter 44 = .ok (.iconst 0, 1) := by decide +kernel
theorem dX12_asksAfter_45 : decode cX12_asksAfter 45 = .ok (.iastore, 1) := by decide +kernel
theorem dX12_asksAfter_46 : decode cX12_asksAfter 46 = .ok (.iinc 5 1, 3) := by decide +kernel
theorem dX12_asksAfter_49 : decode cX12_asksAfter 49 = .ok (.goto (-17), 3) := by decide +kernel
theorem dX12_asksAfter_52 : decode cX12_asksAfter 52 = .ok (.aload_n 0, 1) := by decide +kernel
theorem dX12_asksAfter_53 : decode cX12_asksAfter 53 = .ok (.getfield 113, 3) := by decide +kernel
theorem dX12_asksAfter_56 : decode cX12_asksAfter 56 = .ok (.iconst 3, 1) := by decide +kernel
theorem dX12_asksAfter_57 : decode cX12_asksAfter 57 = .ok (.iload_n 1, 1) := by decide +kernel
theorem dX12_asksAfter_58 : decode cX12_asksAfter 58 = .ok (.iastore, 1) := by decide +kernel
theorem dX12_asksAfter_59 : decode cX12_asksAfter 59 = .ok (.aload_n 0, 1) := by decide +kernel
theorem dX12_asksAfter_60 : decode cX12_asksAfter 60 = .ok (.getfield 113, 3) := by decide +kernel
theorem dX12_asksAfter_63 : decode cX12_asksAfter 63 = .ok (.iconst 4, 1) := by decide +kernel
theorem dX12_asksAfter_64 : decode cX12_asksAfter 64 = .ok (.lload_n 2, 1) := by decide +kernel
theorem dX12_asksAfter_65 : decode cX12_asksAfter 65 = .ok (.ldc2_w 457, 3) := by decide +kernel
theorem dX12_asksAfter_68 : decode cX12_asksAfter 68 = .ok (.lrem, 1) := by decide +kernel
theorem dX12_asksAfter_69 : decode cX12_asksAfter 69 = .ok (.l2i, 1) := by decide +kernel
theorem dX12_asksAfter_70 : decode cX12_asksAfter 70 = .ok (.iastore, 1) := by decide +kernel
theorem dX12_asksAfter_71 : decode cX12_asksAfter 71 = .ok (.aload_n 0, 1) := by decide +kernel
theorem dX12_asksAfter_72 : decode cX12_asksAfter 72 = .ok (.getfield 113, 3) := by decide +kernel
theorem dX12_asksAfter_75 : decode cX12_asksAfter 75 = .ok (.iconst 5, 1) := by decide +kernel
theorem dX12_asksAfter_76 : decode cX12_asksAfter 76 = .ok (.iload 4, 2) := by decide +kernel
theorem dX12_asksAfter_78 : decode cX12_asksAfter 78 = .ok (.iastore, 1) := by decide +kernel
theorem dX12_asksAfter_79 : decode cX12_asksAfter 79 = .ok (.aload_n 0, 1) := by decide +kernel
theorem dX12_asksAfter_80 : decode cX12_asksAfter 80 = .ok (.iconst 2, 1) := by decide +kernel
theorem dX12_asksAfter_81 : decode cX12_asksAfter 81 = .ok (.aload_n 0, 1) := by decide +kernel
theorem dX12_asksAfter_82 : decode cX12_asksAfter 82 = .ok (.getfield 243, 3) := by decide +kernel
theorem dX12_asksAfter_85 : decode cX12_asksAfter 85 = .ok (.imul, 1) := by decide +kernel
theorem dX12_asksAfter_86 : decode cX12_asksAfter 86 = .ok (.invokevirtual 300, 3) := by decide +kernel
theorem dX12_asksAfter_89 : decode cX12_asksAfter 89 = .ok (.ireturn, 1) := by decide +kernel
set_option maxRecDepth 20000 in
theorem ggX12_asks_X12_asksAfter : GoodIn wsX12_asks wsX12_asksAfter := goodIn_r _ [8, 9, 10, 11, 12, 13, 14, 15, 16, 7, 17, 18, 19, 20, 21, 22, 23, 24, 25, 26, 27, 28, 29, 30, 31, 32, 33, 34, 35, 36, 37, 38, 39, 40, 41, 42, 43, 44, 45, 46, 47, 48, 49, 50, 51, 52, 53, 54, 55, 56, 57, 58, 59, 60, 61, 62, 63, 64, 65, 66, 67, 68, 69, 70, 71, 72, 73, 74, 75, 76, 77, 78, 79, 80, 81, 82, 83, 84, 85, 86, 87, 88, 89, 90, 91, 92, 93, 94, 95, 96, 97, 98, 99, 100, 101, 102, 103] (by decide +kernel) (by decide +kernel)
set_option maxRecDepth 20000 in
theorem gX12_asks_X12_asksAfter : GoodIn wsX12_asks (wsV RX12 459 RX12 yX12_asksAfter wsX12_asksAfter) := goodIn_app (goodIn_of _ (by decide +kernel)) ggX12_asks_X12_asksAfter
theorem dX12_asks_0 : decode cX12_asks 0 = .ok (.aload_n 0, 1) := by decide +kernel
theorem dX12_asks_1 : decode cX12_asks 1 = .ok (.getfield 265, 3) := by decide +kernel
theorem dX12_asks_4 : decode cX12_asks 4 = .ok (.ifCond .ne 13, 3) := by decide +kernel
theorem dX12_asks_7 : decode cX12_asks 7 = .ok (.aload_n 0, 1) := by decide +kernel
theorem dX12_asks_8 : decode cX12_asks 8 = .ok (.iconst 0, 1) := by decide +kernel
theorem dX12_asks_9 : decode cX12_asks 9 = .ok (.lconst 0, 1) := by decide +kernel
theorem dX12_asks_10 : decode cX12_asks 10 = .ok (.iconst 0, 1) := by decide +kernel
theorem dX12_asks_11 : decode cX12_asks 11 = .ok (.invokevirtual 459, 3) := by decide +kernel
theorem dX12_asks_14 : decode cX12_asks 14 = .ok (.goto 33, 3) := by decide +kernel
theorem dX12_asks_17 : decode cX12_asks 17 = .ok (.aload_n 0, 1) := by decide +kernel
theorem dX12_asks_18 : decode cX12_asks 18 = .ok (.aload_n 0, 1) := by decide +kernel
theorem dX12_asks_19 : decode cX12_asks 19 = .ok (.getfield 265, 3) := by decide +kernel
theorem dX12_asks_22 : decode cX12_asks 22 = .ok (.aload_n 0, 1) := by decide +kernel
theorem dX12_asks_23 : decode cX12_asks 23 = .ok (.getfield 135, 3) := by decide +kernel
theorem dX12_asks_26 : decode cX12_asks 26 = .ok (.aload_n 0, 1) := by decide +kernel
theorem dX12_asks_27 : decode cX12_asks 27 = .ok (.getfield 265, 3) := by decide +kernel
theorem dX12_asks_30 : decode cX12_asks 30 = .ok (.iconst 1, 1) := by decide +kernel
theorem dX12_asks_31 : decode cX12_asks 31 = .ok (.isub, 1) := by decide +kernel
theorem dX12_asks_32 : decode cX12_asks 32 = .ok (.laload, 1) := by decide +kernel
theorem dX12_asks_33 : decode cX12_asks 33 = .ok (.aload_n 0, 1) := by decide +kernel
theorem dX12_asks_34 : decode cX12_asks 34 = .ok (.getfield 132, 3) := by decide +kernel
theorem dX12_asks_37 : decode cX12_asks 37 = .ok (.aload_n 0, 1) := by decide +kernel
theorem dX12_asks_38 : decode cX12_asks 38 = .ok (.getfield 265, 3) := by decide +kernel
theorem dX12_asks_41 : decode cX12_asks 41 = .ok (.iconst 1, 1) := by decide +kernel
theorem dX12_asks_42 : decode cX12_asks 42 = .ok (.isub, 1) := by decide +kernel
theorem dX12_asks_43 : decode cX12_asks 43 = .ok (.iaload, 1) := by decide +kernel
theorem dX12_asks_44 : decode cX12_asks 44 = .ok (.invokevirtual 459, 3) := by decide +kernel
theorem dX12_asks_47 : decode cX12_asks 47 = .ok (.ireturn, 1) := by decide +kernel
set_option maxRecDepth 20000 in
theorem ggX12_isOneEnough_X12_worldComes : GoodIn wsX12_isOneEnough wsX12_worldComes := goodIn_r _ [7, 8, 9, 10, 11, 12, 6, 13, 14, 15, 16, 17, 18, 19, 20, 21, 22, 23, 24, 25, 26, 27, 28, 29, 30, 31, 32, 33, 34, 35, 36, 37, 38, 39, 40, 41, 42, 43, 44, 45, 46, 47, 48, 49, 50, 51, 52, 53, 54, 55, 56, 57, 58, 59, 60, 61, 62, 63, 64, 65, 66, 67, 68, 69, 70, 71, 72, 73, 74, 75, 76, 77, 78, 79, 80, 81, 82, 83, 84, 85, 86, 87] (by decide +kernel) (by decide +kernel)
set_option maxRecDepth 20000 in
theorem gX12_isOneEnough_X12_worldComes : GoodIn wsX12_isOneEnough (wsV RX12 407 RX12 yX12_worldComes wsX12_worldComes) := goodIn_app (goodIn_of _ (by decide +kernel)) ggX12_isOneEnough_X12_worldComes
theorem dX12_isOneEnough_0 : decode cX12_isOneEnough 0 = .ok (.bipush (-9), 2) := by decide +kernel
theorem dX12_isOneEnough_2 : decode cX12_isOneEnough 2 = .ok (.istore_n 2, 1) := by decide +kernel
theorem dX12_isOneEnough_3 : decode cX12_isOneEnough 3 = .ok (.iload_n 2, 1) := by decide +kernel
theorem dX12_isOneEnough_4 : decode cX12_isOneEnough 4 = .ok (.bipush 10, 2) := by decide +kernel
theorem dX12_isOneEnough_6 : decode cX12_isOneEnough 6 = .ok (.if_icmp .ge 108, 3) := by decide +kernel
theorem dX12_isOneEnough_9 : decode cX12_isOneEnough 9 = .ok (.iconst 1, 1) := by decide +kernel
theorem dX12_isOneEnough_10 : decode cX12_isOneEnough 10 = .ok (.istore_n 3, 1) := by decide +kernel
theorem dX12_isOneEnough_11 : decode cX12_isOneEnough 11 = .ok (.iconst 0, 1) := by decide +kernel
theorem dX12_isOneEnough_12 : decode cX12_isOneEnough 12 = .ok (.istore 4, 2) := by decide +kernel
theorem dX12_isOneEnough_14 : decode cX12_isOneEnough 14 = .ok (.iload 4, 2) := by decide +kernel
theorem dX12_isOneEnough_16 : decode cX12_isOneEnough 16 = .ok (.iload_n 1, 1) := by decide +kernel
theorem dX12_isOneEnough_17 : decode cX12_isOneEnough 17 = .ok (.if_icmp .ge 85, 3) := by decide +kernel
theorem dX12_isOneEnough_20 : decode cX12_isOneEnough 20 = .ok (.iload_n 3, 1) := by decide +kernel
theorem dX12_isOneEnough_21 : decode cX12_isOneEnough 21 = .ok (.ifCond .eq 81, 3) := by decide +kernel
theorem dX12_isOneEnough_24 : decode cX12_isOneEnough 24 = .ok (.iconst 0, 1) := by decide +kernel
theorem dX12_isOneEnough_25 : decode cX12_isOneEnough 25 = .ok (.istore 5, 2) := by decide +kernel
theorem dX12_isOneEnough_27 : decode cX12_isOneEnough 27 = .ok (.iload 5, 2) := by decide +kernel
theorem dX12_isOneEnough_29 : decode cX12_isOneEnough 29 = .ok (.iload 4, 2) := by decide +kernel
theorem dX12_isOneEnough_31 : decode cX12_isOneEnough 31 = .ok (.if_icmp .ge 65, 3) := by decide +kernel
theorem dX12_isOneEnough_34 : decode cX12_isOneEnough 34 = .ok (.iload_n 3, 1) := by decide +kernel
theorem dX12_isOneEnough_35 : decode cX12_isOneEnough 35 = .ok (.ifCond .eq 61, 3) := by decide +kernel
theorem dX12_isOneEnough_38 : decode cX12_isOneEnough 38 = .ok (.aload_n 0, 1) := by decide +kernel
theorem dX12_isOneEnough_39 : decode cX12_isOneEnough 39 = .ok (.getfield 147, 3) := by decide +kernel
theorem dX12_isOneEnough_42 : decode cX12_isOneEnough 42 = .ok (.iload 4, 2) := by decide +kernel
theorem dX12_isOneEnough_44 : decode cX12_isOneEnough 44 = .ok (.baload, 1) := by decide +kernel
theorem dX12_isOneEnough_45 : decode cX12_isOneEnough 45 = .ok (.ifCond .eq 45, 3) := by decide +kernel
theorem dX12_isOneEnough_48 : decode cX12_isOneEnough 48 = .ok (.aload_n 0, 1) := by decide +kernel
theorem dX12_isOneEnough_49 : decode cX12_isOneEnough 49 = .ok (.getfield 147, 3) := by decide +kernel
theorem dX12_isOneEnough_52 : decode cX12_isOneEnough 52 = .ok (.iload 5, 2) := by decide +kernel
theorem dX12_isOneEnough_54 : decode cX12_isOneEnough 54 = .ok (.baload, 1) := by decide +kernel
theorem dX12_isOneEnough_55 : decode cX12_isOneEnough 55 = .ok (.ifCond .eq 35, 3) := by decide +kernel
theorem dX12_isOneEnough_58 : decode cX12_isOneEnough 58 = .ok (.aload_n 0, 1) := by decide +kernel
theorem dX12_isOneEnough_59 : decode cX12_isOneEnough 59 = .ok (.aload_n 0, 1) := by decide +kernel
theorem dX12_isOneEnough_60 : decode cX12_isOneEnough 60 = .ok (.getfield 144, 3) := by decide +kernel
theorem dX12_isOneEnough_63 : decode cX12_isOneEnough 63 = .ok (.iload 4, 2) := by decide +kernel
theorem dX12_isOneEnough_65 : decode cX12_isOneEnough 65 = .ok (.iaload, 1) := by decide +kernel
theorem dX12_isOneEnough_66 : decode cX12_isOneEnough 66 = .ok (.iload_n 2, 1) := by decide +kernel
theorem dX12_isOneEnough_67 : decode cX12_isOneEnough 67 = .ok (.i2l, 1) := by decide +kernel
theorem dX12_isOneEnough_68 : decode cX12_isOneEnough 68 = .ok (.invokevirtual 407, 3) := by decide +kernel
theorem dX12_isOneEnough_71 : decode cX12_isOneEnough 71 = .ok (.aload_n 0, 1) := by decide +kernel
theorem dX12_isOneEnough_72 : decode cX12_isOneEnough 72 = .ok (.aload_n 0, 1) := by decide +kernel
theorem dX12_isOneEnough_73 : decode cX12_isOneEnough 73 = .ok (.getfield 144, 3) := by decide +kernel
theorem dX12_isOneEnough_76 : decode cX12_isOneEnough 76 = .ok (.iload 5, 2) := by decide +kernel
theorem dX12_isOneEnough_78 : decode cX12_isOneEnough 78 = .ok (.iaload, 1) := by decide +kernel
theorem dX12_isOneEnough_79 : decode cX12_isOneEnough 79 = .ok (.iload_n 2, 1) := by decide +kernel
theorem dX12_isOneEnough_80 : decode cX12_isOneEnough 80 = .ok (.i2l, 1) := by decide +kernel
theorem dX12_isOneEnough_81 : decode cX12_isOneEnough 81 = .ok (.invokevirtual 407, 3) := by decide +kernel
theorem dX12_isOneEnough_84 : decode cX12_isOneEnough 84 = .ok (.lcmp, 1) := by decide +kernel
theorem dX12_isOneEnough_85 : decode cX12_isOneEnough 85 = .ok (.ifCond .ne 5, 3) := by decide +kernel
theorem dX12_isOneEnough_88 : decode cX12_isOneEnough 88 = .ok (.iconst 0, 1) := by decide +kernel
theorem dX12_isOneEnough_89 : decode cX12_isOneEnough 89 = .ok (.istore_n 3, 1) := by decide +kernel
theorem dX12_isOneEnough_90 : decode cX12_isOneEnough 90 = .ok (.iinc 5 1, 3) := by decide +kernel
theorem dX12_isOneEnough_93 : decode cX12_isOneEnough 93 = .ok (.goto (-66), 3) := by decide +kernel
theorem dX12_isOneEnough_96 : decode cX12_isOneEnough 96 = .ok (.iinc 4 1, 3) := by decide +kernel
theorem dX12_isOneEnough_99 : decode cX12_isOneEnough 99 = .ok (.goto (-85), 3) := by decide +kernel
theorem dX12_isOneEnough_102 : decode cX12_isOneEnough 102 = .ok (.iload_n 3, 1) := by decide +kernel
theorem dX12_isOneEnough_103 : decode cX12_isOneEnough 103 = .ok (.ifCond .eq 5, 3) := by decide +kernel
theorem dX12_isOneEnough_106 : decode cX12_isOneEnough 106 = .ok (.iconst 1, 1) := by decide +kernel
theorem dX12_isOneEnough_107 : decode cX12_isOneEnough 107 = .ok (.ireturn, 1) := by decide +kernel
theorem dX12_isOneEnough_108 : decode cX12_isOneEnough 108 = .ok (.iinc 2 1, 3) := by decide +kernel
theorem dX12_isOneEnough_111 : decode cX12_isOneEnough 111 = .ok (.goto (-108), 3) := by decide +kernel
theorem dX12_isOneEnough_114 : decode cX12_isOneEnough 114 = .ok (.iconst 0, 1) := by decide +kernel
theorem dX12_isOneEnough_115 : decode cX12_isOneEnough 115 = .ok (.ireturn, 1) := by decide +kernel
set_option maxRecDepth 20000 in
theorem ggX12_areTwoEnough_X12_worldComes : GoodIn wsX12_areTwoEnough wsX12_worldComes := goodIn_r _ [7, 8, 9, 10, 11, 12, 6, 13, 14, 19, 20, 21, 22, 23, 24, 25, 26, 27, 28, 29, 30, 31, 32, 33, 34, 35, 36, 37, 38, 39, 40, 41, 42, 43, 44, 45, 46, 47, 48, 49, 50, 51, 52, 53, 54, 55, 56, 57, 58, 59, 60, 61, 62, 63, 64, 65, 66, 67, 68, 69, 70, 71, 72, 73, 74, 75, 76, 77, 78, 79, 80, 81, 82, 83, 84, 85, 86, 87, 88, 89, 90, 91] (by decide +kernel) (by decide +kernel)
set_option maxRecDepth 20000 in
theorem gX12_areTwoEnough_X12_worldComes : GoodIn wsX12_areTwoEnough (wsV RX12 407 RX12 yX12_worldComes wsX12_worldComes) := goodIn_app (goodIn_of _ (by decide +kernel)) ggX12_areTwoEnough_X12_worldComes
set_option maxRecDepth 20000 in
theorem ggX12_areTwoEnough_X12_isOneEnough : GoodIn wsX12_areTwoEnough wsX12_isOneEnough := goodIn_r _ [18, 2, 1, 3, 4, 5, 6, 7, 8, 9, 10, 11, 12, 13, 14, 19, 20, 21, 22, 23, 24, 25, 26, 27, 28, 29, 30, 31, 32, 33, 34, 35, 36, 37, 38, 39, 40, 41, 42, 43, 44, 45, 46, 47, 48, 49, 50, 51, 52, 53, 54, 55, 56, 57, 58, 59, 60, 61, 62, 63, 64, 65, 66, 67, 68, 69, 70, 71, 72, 73, 74, 75, 76, 77, 78, 79, 80, 81, 82, 83, 84, 85, 86, 87, 88, 89, 90, 91] (by decide +kernel) (by decide +kernel)
set_option maxRecDepth 20000 in
theorem gX12_areTwoEnough_X12_isOneEnough : GoodIn wsX12_areTwoEnough (wsV RX12 463 RX12 yX12_isOneEnough wsX12_isOneEnough) := goodIn_app (goodIn_of _ (by decide +kernel)) ggX12_areTwoEnough_X12_isOneEnough
theorem dX12_areTwoEnough_0 : decode cX12_areTwoEnough 0 = .ok (.bipush (-9), 2) := by decide +kernel
theorem dX12_areTwoEnough_2 : decode cX12_areTwoEnough 2 = .ok (.istore_n 2, 1) := by decide +kernel
theorem dX12_areTwoEnough_3 : decode cX12_areTwoEnough 3 = .ok (.iload_n 2, 1) := by decide +kernel
theorem dX12_areTwoEnough_4 : decode cX12_areTwoEnough 4 = .ok (.bipush 10, 2) := by decide +kernel
theorem dX12_areTwoEnough_6 : decode cX12_areTwoEnough 6 = .ok (.if_icmp .ge 103, 3) := by decide +kernel
theorem dX12_areTwoEnough_9 : decode cX12_areTwoEnough 9 = .ok (.iconst 1, 1) := by decide +kernel
theorem dX12_areTwoEnough_10 : decode cX12_areTwoEnough 10 = .ok (.istore_n 3, 1) := by decide +kernel
theorem dX12_areTwoEnough_11 : decode cX12_areTwoEnough 11 = .ok (.iconst 0, 1) := by decide +kernel
theorem dX12_areTwoEnough_12 : decode cX12_areTwoEnough 12 = .ok (.istore 4, 2) := by decide +kernel
theorem dX12_areTwoEnough_14 : decode cX12_areTwoEnough 14 = .ok (.iload 4, 2) := by decide +kernel
theorem dX12_areTwoEnough_16 : decode cX12_areTwoEnough 16 = .ok (.iload_n 1, 1) := by decide +kernel
theorem dX12_areTwoEnough_17 : decode cX12_areTwoEnough 17 = .ok (.if_icmp .ge 80, 3) := by decide +kernel
theorem dX12_areTwoEnough_20 : decode cX12_areTwoEnough 20 = .ok (.iload_n 3, 1) := by decide +kernel
theorem dX12_areTwoEnough_21 : decode cX12_areTwoEnough 21 = .ok (.ifCond .eq 76, 3) := by decide +kernel
theorem dX12_areTwoEnough_24 : decode cX12_areTwoEnough 24 = .ok (.aload_n 0, 1) := by decide +kernel
theorem dX12_areTwoEnough_25 : decode cX12_areTwoEnough 25 = .ok (.aload_n 0, 1) := by decide +kernel
theorem dX12_areTwoEnough_26 : decode cX12_areTwoEnough 26 = .ok (.getfield 144, 3) := by decide +kernel
theorem dX12_areTwoEnough_29 : decode cX12_areTwoEnough 29 = .ok (.iload 4, 2) := by decide +kernel
theorem dX12_areTwoEnough_31 : decode cX12_areTwoEnough 31 = .ok (.iaload, 1) := by decide +kernel
theorem dX12_areTwoEnough_32 : decode cX12_areTwoEnough 32 = .ok (.iload_n 2, 1) := by decide +kernel
theorem dX12_areTwoEnough_33 : decode cX12_areTwoEnough 33 = .ok (.i2l, 1) := by decide +kernel
theorem dX12_areTwoEnough_34 : decode cX12_areTwoEnough 34 = .ok (.invokevirtual 407, 3) := by decide +kernel
theorem dX12_areTwoEnough_37 : decode cX12_areTwoEnough 37 = .ok (.lstore 5, 2) := by decide +kernel
theorem dX12_areTwoEnough_39 : decode cX12_areTwoEnough 39 = .ok (.iconst 0, 1) := by decide +kernel
theorem dX12_areTwoEnough_40 : decode cX12_areTwoEnough 40 = .ok (.istore 7, 2) := by decide +kernel
theorem dX12_areTwoEnough_42 : decode cX12_areTwoEnough 42 = .ok (.iload 7, 2) := by decide +kernel
theorem dX12_areTwoEnough_44 : decode cX12_areTwoEnough 44 = .ok (.iload_n 1, 1) := by decide +kernel
theorem dX12_areTwoEnough_45 : decode cX12_areTwoEnough 45 = .ok (.if_icmp .ge 40, 3) := by decide +kernel
theorem dX12_areTwoEnough_48 : decode cX12_areTwoEnough 48 = .ok (.aload_n 0, 1) := by decide +kernel
theorem dX12_areTwoEnough_49 : decode cX12_areTwoEnough 49 = .ok (.getfield 147, 3) := by decide +kernel
theorem dX12_areTwoEnough_52 : decode cX12_areTwoEnough 52 = .ok (.iload 7, 2) := by decide +kernel
theorem dX12_areTwoEnough_54 : decode cX12_areTwoEnough 54 = .ok (.aload_n 0, 1) := by decide +kernel
theorem dX12_areTwoEnough_55 : decode cX12_areTwoEnough 55 = .ok (.aload_n 0, 1) := by decide +kernel
theorem dX12_areTwoEnough_56 : decode cX12_areTwoEnough 56 = .ok (.getfield 144, 3) := by decide +kernel
theorem dX12_areTwoEnough_59 : decode cX12_areTwoEnough 59 = .ok (.iload 7, 2) := by decide +kernel
theorem dX12_areTwoEnough_61 : decode cX12_areTwoEnough 61 = .ok (.iaload, 1) := by decide +kernel
theorem dX12_areTwoEnough_62 : decode cX12_areTwoEnough 62 = .ok (.iload_n 2, 1) := by decide +kernel
theorem dX12_areTwoEnough_63 : decode cX12_areTwoEnough 63 = .ok (.i2l, 1) := by decide +kernel
theorem dX12_areTwoEnough_64 : decode cX12_areTwoEnough 64 = .ok (.invokevirtual 407, 3) := by decide +kernel
theorem dX12_areTwoEnough_67 : decode cX12_areTwoEnough 67 = .ok (.lload 5, 2) := by decide +kernel
theorem dX12_areTwoEnough_69 : decode cX12_areTwoEnough 69 = .ok (.lcmp, 1) := by decide +kernel
theorem dX12_areTwoEnough_70 : decode cX12_areTwoEnough 70 = .ok (.ifCond .ne 7, 3) := by decide +kernel
theorem dX12_areTwoEnough_73 : decode cX12_areTwoEnough 73 = .ok (.iconst 1, 1) := by decide +kernel
theorem dX12_areTwoEnough_74 : decode cX12_areTwoEnough 74 = .ok (.goto 4, 3) := by decide +kernel
theorem dX12_areTwoEnough_77 : decode cX12_areTwoEnough 77 = .ok (.iconst 0, 1) := by decide +kernel
theorem dX12_areTwoEnough_78 : decode cX12_areTwoEnough 78 = .ok (.bastore, 1) := by decide +kernel
theorem dX12_areTwoEnough_79 : decode cX12_areTwoEnough 79 = .ok (.iinc 7 1, 3) := by decide +kernel
theorem dX12_areTwoEnough_82 : decode cX12_areTwoEnough 82 = .ok (.goto (-40), 3) := by decide +kernel
theorem dX12_areTwoEnough_85 : decode cX12_areTwoEnough 85 = .ok (.aload_n 0, 1) := by decide +kernel
theorem dX12_areTwoEnough_86 : decode cX12_areTwoEnough 86 = .ok (.iload_n 1, 1) := by decide +kernel
theorem dX12_areTwoEnough_87 : decode cX12_areTwoEnough 87 = .ok (.invokevirtual 463, 3) := by decide +kernel
theorem dX12_areTwoEnough_90 : decode cX12_areTwoEnough 90 = .ok (.istore_n 3, 1) := by decide +kernel
theorem dX12_areTwoEnough_91 : decode cX12_areTwoEnough 91 = .ok (.iinc 4 1, 3) := by decide +kernel
theorem dX12_areTwoEnough_94 : decode cX12_areTwoEnough 94 = .ok (.goto (-80), 3) := by decide +kernel
theorem dX12_areTwoEnough_97 : decode cX12_areTwoEnough 97 = .ok (.iload_n 3, 1) := by decide +kernel
theorem dX12_areTwoEnough_98 : decode cX12_areTwoEnough 98 = .ok (.ifCond .eq 5, 3) := by decide +kernel
theorem dX12_areTwoEnough_101 : decode cX12_areTwoEnough 101 = .ok (.iconst 1, 1) := by decide +kernel
theorem dX12_areTwoEnough_102 : decode cX12_areTwoEnough 102 = .ok (.ireturn, 1) := by decide +kernel
theorem dX12_areTwoEnough_103 : decode cX12_areTwoEnough 103 = .ok (.iinc 2 1, 3) := by decide +kernel
theorem dX12_areTwoEnough_106 : decode cX12_areTwoEnough 106 = .ok (.goto (-103), 3) := by decide +kernel
theorem dX12_areTwoEnough_109 : decode cX12_areTwoEnough 109 = .ok (.iconst 0, 1) := by decide +kernel
theorem dX12_areTwoEnough_110 : decode cX12_areTwoEnough 110 = .ok (.ireturn, 1) := by decide +kernel
set_option maxRecDepth 20000 in
theorem ggX12_enough_X12_isAsked : GoodIn wsX12_enough wsX12_isAsked := goodIn_r _ [8, 9, 10, 11, 12, 13, 7, 14, 56, 57, 58, 59, 60, 61, 62, 63, 64, 65, 66, 67, 68, 69, 70, 71, 72, 73, 74, 75, 76, 77, 78, 79, 80, 81, 82, 83, 84, 85, 86, 87, 88, 89, 90, 91, 92, 93, 94, 95, 96, 97, 98, 99, 100, 101, 102, 103, 104, 105, 106, 107, 108, 109, 110, 111, 112, 113, 114, 115, 116, 117, 118, 119, 120, 121, 122, 123, 124, 125, 126, 127, 128] (by decide +kernel) (by decide +kernel)
set_option maxRecDepth 20000 in
theorem gX12_enough_X12_isAsked : GoodIn wsX12_enough (wsV RX12 448 RX12 yX12_isAsked wsX12_isAsked) := goodIn_app (goodIn_of _ (by decide +kernel)) ggX12_enough_X12_isAsked
set_option maxRecDepth 20000 in
theorem ggX12_enough_X12_fillsFits : GoodIn wsX12_enough wsX12_fillsFits := goodIn_r _ [18, 1, 19, 20, 21, 7, 22, 23, 24, 25, 26, 27, 28, 29, 30, 31, 32, 33, 34, 35, 36, 37, 38, 39, 40, 41, 42, 43, 44, 45, 46, 47, 56, 57, 58, 59, 60, 61, 62, 63, 64, 65, 66, 67, 68, 69, 70, 71, 72, 73, 74, 75, 76, 77, 78, 79, 80, 81, 82, 83, 84, 85, 86, 87, 88, 89, 90, 91, 92, 93, 94, 95, 96, 97, 98, 99, 100, 101, 102, 103, 104, 105, 106, 107, 108, 109, 110, 111, 112, 113, 114, 115, 116, 117, 118, 119, 120, 121, 122, 123, 124, 125, 126, 127, 128] (by decide +kernel) (by decide +kernel)
set_option maxRecDepth 20000 in
theorem gX12_enough_X12_fillsFits : GoodIn wsX12_enough (wsV RX12 451 RX12 yX12_fillsFits wsX12_fillsFits) := goodIn_app (goodIn_of _ (by decide +kernel)) ggX12_enough_X12_fillsFits
set_option maxRecDepth 20000 in
theorem ggX12_enough_X12_worldAll : GoodIn wsX12_enough wsX12_worldAll := goodIn_r _ [22, 23, 24, 25, 56, 57, 58, 59, 60, 61, 62, 63, 64, 65, 66, 67, 68, 69, 70, 71, 72, 73, 74, 75, 76, 77, 78, 79, 80, 81, 82, 83, 84, 85, 86, 87, 88, 89, 90, 91, 92, 93, 94, 95, 96, 97, 98, 99, 100, 101, 102, 103, 104, 105, 106, 107, 108, 109, 110, 111, 112, 113, 114, 115, 116, 117, 118, 119, 120, 121, 122, 123, 124, 125, 126, 127, 128] (by decide +kernel) (by decide +kernel)
set_option maxRecDepth 20000 in
theorem gX12_enough_X12_worldAll : GoodIn wsX12_enough (wsV RX12 404 RX12 yX12_worldAll wsX12_worldAll) := goodIn_app (goodIn_of _ (by decide +kernel)) ggX12_enough_X12_worldAll
set_option maxRecDepth 20000 in
theorem ggX12_enough_X12_isOneEnough : GoodIn wsX12_enough wsX12_isOneEnough := goodIn_r _ [51, 3, 2, 44, 45, 46, 7, 47, 23, 24, 34, 35, 36, 37, 25, 56, 57, 58, 59, 60, 61, 62, 63, 64, 65, 66, 67, 68, 69, 70, 71, 72, 73, 74, 75, 76, 77, 78, 79, 80, 81, 82, 83, 84, 85, 86, 87, 88, 89, 90, 91, 92, 93, 94, 95, 96, 97, 98, 99, 100, 101, 102, 103, 104, 105, 106, 107, 108, 109, 110, 111, 112, 113, 114, 115, 116, 117, 118, 119, 120, 121, 122, 123, 124, 125, 126, 127, 128] (by decide +kernel) (by decide +kernel)
set_option maxRecDepth 20000 in
theorem gX12_enough_X12_isOneEnough : GoodIn wsX12_enough (wsV RX12 463 RX12 yX12_isOneEnough wsX12_isOneEnough) := goodIn_app (goodIn_of _ (by decide +kernel)) ggX12_enough_X12_isOneEnough
set_option maxRecDepth 20000 in
theorem ggX12_enough_X12_areTwoEnough : GoodIn wsX12_enough wsX12_areTwoEnough := goodIn_r _ [55, 2, 3, 44, 45, 46, 7, 47, 23, 24, 34, 35, 36, 37, 25, 48, 49, 50, 51, 56, 57, 58, 59, 60, 61, 62, 63, 64, 65, 66, 67, 68, 69, 70, 71, 72, 73, 74, 75, 76, 77, 78, 79, 80, 81, 82, 83, 84, 85, 86, 87, 88, 89, 90, 91, 92, 93, 94, 95, 96, 97, 98, 99, 100, 101, 102, 103, 104, 105, 106, 107, 108, 109, 110, 111, 112, 113, 114, 115, 116, 117, 118, 119, 120, 121, 122, 123, 124, 125, 126, 127, 128] (by decide +kernel) (by decide +kernel)
set_option maxRecDepth 20000 in
theorem gX12_enough_X12_areTwoEnough : GoodIn wsX12_enough (wsV RX12 466 RX12 yX12_areTwoEnough wsX12_areTwoEnough) := goodIn_app (goodIn_of _ (by decide +kernel)) ggX12_enough_X12_areTwoEnough
theorem dX12_enough_0 : decode cX12_enough 0 = .ok (.aload_n 0, 1) := by decide +kernel
theorem dX12_enough_1 : decode cX12_enough 1 = .ok (.iload_n 1, 1) := by decide +kernel
theorem dX12_enough_2 : decode cX12_enough 2 = .ok (.iload_n 2, 1) := by decide +kernel
theorem dX12_enough_3 : decode cX12_enough 3 = .ok (.iload_n 3, 1) := by decide +kernel
theorem dX12_enough_4 : decode cX12_enough 4 = .ok (.invokevirtual 448, 3) := by decide +kernel
theorem dX12_enough_7 : decode cX12_enough 7 = .ok (.ifCond .ne 5, 3) := by decide +kernel
theorem dX12_enough_10 : decode cX12_enough 10 = .ok (.iconst (-1), 1) := by decide +kernel
theorem dX12_enough_11 : decode cX12_enough 11 = .ok (.ireturn, 1) := by decide +kernel
theorem dX12_enough_12 : decode cX12_enough 12 = .ok (.aload_n 0, 1) := by decide +kernel
theorem dX12_enough_13 : decode cX12_enough 13 = .ok (.iload_n 1, 1) := by decide +kernel
theorem dX12_enough_14 : decode cX12_enough 14 = .ok (.iload_n 2, 1) := by decide +kernel
theorem dX12_enough_15 : decode cX12_enough 15 = .ok (.iload_n 3, 1) := by decide +kernel
theorem dX12_enough_16 : decode cX12_enough 16 = .ok (.invokevirtual 451, 3) := by decide +kernel
theorem dX12_enough_19 : decode cX12_enough 19 = .ok (.istore 4, 2) := by decide +kernel
theorem dX12_enough_21 : decode cX12_enough 21 = .ok (.iload 4, 2) := by decide +kernel
theorem dX12_enough_23 : decode cX12_enough 23 = .ok (.bipush 24, 2) := by decide +kernel
theorem dX12_enough_25 : decode cX12_enough 25 = .ok (.if_icmp .le 6, 3) := by decide +kernel
theorem dX12_enough_28 : decode cX12_enough 28 = .ok (.bipush (-2), 2) := by decide +kernel
theorem dX12_enough_30 : decode cX12_enough 30 = .ok (.ireturn, 1) := by decide +kernel
theorem dX12_enough_31 : decode cX12_enough 31 = .ok (.iload 4, 2) := by decide +kernel
theorem dX12_enough_33 : decode cX12_enough 33 = .ok (.iconst 2, 1) := by decide +kernel
theorem dX12_enough_34 : decode cX12_enough 34 = .ok (.if_icmp .ge 5, 3) := by decide +kernel
theorem dX12_enough_37 : decode cX12_enough 37 = .ok (.iconst 0, 1) := by decide +kernel
theorem dX12_enough_38 : decode cX12_enough 38 = .ok (.ireturn, 1) := by decide +kernel
theorem dX12_enough_39 : decode cX12_enough 39 = .ok (.iconst 0, 1) := by decide +kernel
theorem dX12_enough_40 : decode cX12_enough 40 = .ok (.istore 5, 2) := by decide +kernel
theorem dX12_enough_42 : decode cX12_enough 42 = .ok (.iconst 0, 1) := by decide +kernel
theorem dX12_enough_43 : decode cX12_enough 43 = .ok (.istore 6, 2) := by decide +kernel
theorem dX12_enough_45 : decode cX12_enough 45 = .ok (.iload 6, 2) := by decide +kernel
theorem dX12_enough_47 : decode cX12_enough 47 = .ok (.aload_n 0, 1) := by decide +kernel
theorem dX12_enough_48 : decode cX12_enough 48 = .ok (.invokevirtual 404, 3) := by decide +kernel
theorem dX12_enough_51 : decode cX12_enough 51 = .ok (.if_icmp .ge 42, 3) := by decide +kernel
theorem dX12_enough_54 : decode cX12_enough 54 = .ok (.aload_n 0, 1) := by decide +kernel
theorem dX12_enough_55 : decode cX12_enough 55 = .ok (.getfield 138, 3) := by decide +kernel
theorem dX12_enough_58 : decode cX12_enough 58 = .ok (.iload 6, 2) := by decide +kernel
theorem dX12_enough_60 : decode cX12_enough 60 = .ok (.baload, 1) := by decide +kernel
theorem dX12_enough_61 : decode cX12_enough 61 = .ok (.ifCond .ne 6, 3) := by decide +kernel
theorem dX12_enough_64 : decode cX12_enough 64 = .ok (.goto 23, 3) := by decide +kernel
theorem dX12_enough_67 : decode cX12_enough 67 = .ok (.aload_n 0, 1) := by decide +kernel
theorem dX12_enough_68 : decode cX12_enough 68 = .ok (.getfield 144, 3) := by decide +kernel
theorem dX12_enough_71 : decode cX12_enough 71 = .ok (.iload 5, 2) := by decide +kernel
theorem dX12_enough_73 : decode cX12_enough 73 = .ok (.iload 6, 2) := by decide +kernel
theorem dX12_enough_75 : decode cX12_enough 75 = .ok (.iastore, 1) := by decide +kernel
theorem dX12_enough_76 : decode cX12_enough 76 = .ok (.aload_n 0, 1) := by decide +kernel
theorem dX12_enough_77 : decode cX12_enough 77 = .ok (.getfield 147, 3) := by decide +kernel
theorem dX12_enough_80 : decode cX12_enough 80 = .ok (.iload 5, 2) := by decide +kernel
theorem dX12_enough_82 : decode cX12_enough 82 = .ok (.iconst 1, 1) := by decide +kernel
theorem dX12_enough_83 : decode cX12_enough 83 = .ok (.bastore, 1) := by decide +kernel
theorem dX12_enough_84 : decode cX12_enough 84 = .ok (.iinc 5 1, 3) := by decide +kernel
theorem dX12_enough_87 : decode cX12_enough 87 = .ok (.iinc 6 1, 3) := by decide +kernel
theorem dX12_enough_90 : decode cX12_enough 90 = .ok (.goto (-45), 3) := by decide +kernel
theorem dX12_enough_93 : decode cX12_enough 93 = .ok (.aload_n 0, 1) := by decide +kernel
theorem dX12_enough_94 : decode cX12_enough 94 = .ok (.iload 4, 2) := by decide +kernel
theorem dX12_enough_96 : decode cX12_enough 96 = .ok (.invokevirtual 463, 3) := by decide +kernel
theorem dX12_enough_99 : decode cX12_enough 99 = .ok (.ifCond .eq 7, 3) := by decide +kernel
theorem dX12_enough_102 : decode cX12_enough 102 = .ok (.iconst 1, 1) := by decide +kernel
theorem dX12_enough_103 : decode cX12_enough 103 = .ok (.goto 17, 3) := by decide +kernel
theorem dX12_enough_106 : decode cX12_enough 106 = .ok (.aload_n 0, 1) := by decide +kernel
theorem dX12_enough_107 : decode cX12_enough 107 = .ok (.iload 4, 2) := by decide +kernel
theorem dX12_enough_109 : decode cX12_enough 109 = .ok (.invokevirtual 466, 3) := by decide +kernel
theorem dX12_enough_112 : decode cX12_enough 112 = .ok (.ifCond .eq 7, 3) := by decide +kernel
theorem dX12_enough_115 : decode cX12_enough 115 = .ok (.iconst 2, 1) := by decide +kernel
theorem dX12_enough_116 : decode cX12_enough 116 = .ok (.goto 4, 3) := by decide +kernel
theorem dX12_enough_119 : decode cX12_enough 119 = .ok (.iconst 3, 1) := by decide +kernel
theorem dX12_enough_120 : decode cX12_enough 120 = .ok (.ireturn, 1) := by decide +kernel
set_option maxRecDepth 20000 in
theorem ggX12_plays_X12_worldAll : GoodIn wsX12_plays wsX12_worldAll := goodIn_r _ [8, 9, 10, 11, 49, 50, 51, 52, 53, 54, 55, 56, 57, 58, 59, 60, 61, 62, 63, 64, 65, 66, 67, 68, 69, 70, 71, 72, 73, 74, 75, 76, 77, 78, 79, 80, 81, 82, 83, 84, 85, 86, 87, 88, 89, 90, 91, 92, 93, 94, 95, 96, 97, 98, 99, 100, 101, 102, 103, 104, 105, 106, 107, 108, 109, 110, 111, 112, 113, 114, 115, 116, 117, 118, 119, 120, 121] (by decide +kernel) (by decide +kernel)
set_option maxRecDepth 20000 in
theorem gX12_plays_X12_worldAll : GoodIn wsX12_plays (wsV RX12 404 RX12 yX12_worldAll wsX12_worldAll) := goodIn_app (goodIn_of _ (by decide +kernel)) ggX12_plays_X12_worldAll
set_option maxRecDepth 20000 in
theorem ggX12_plays_X12_asksAfter : GoodIn wsX12_plays wsX12_asksAfter := goodIn_r _ [15, 16, 10, 17, 18, 19, 20, 21, 22, 7, 23, 24, 25, 26, 27, 28, 29, 30, 31, 32, 33, 34, 35, 36, 49, 50, 51, 52, 53, 54, 55, 56, 57, 58, 59, 60, 61, 62, 63, 64, 65, 66, 67, 68, 69, 70, 71, 72, 73, 74, 75, 76, 77, 78, 79, 80, 81, 82, 83, 84, 85, 86, 87, 88, 89, 90, 91, 92, 93, 94, 95, 96, 97, 98, 99, 100, 101, 102, 103, 104, 105, 106, 107, 108, 109, 110, 111, 112, 113, 114, 115, 116, 117, 118, 119, 120, 121] (by decide +kernel) (by decide +kernel)
set_option maxRecDepth 20000 in
theorem gX12_plays_X12_asksAfter : GoodIn wsX12_plays (wsV RX12 459 RX12 yX12_asksAfter wsX12_asksAfter) := goodIn_app (goodIn_of _ (by decide +kernel)) ggX12_plays_X12_asksAfter
set_option maxRecDepth 20000 in
theorem ggX12_plays_X12_worldComes : GoodIn wsX12_plays wsX12_worldComes := goodIn_r _ [40, 9, 10, 41, 42, 43, 7, 44, 11, 49, 50, 51, 52, 53, 54, 55, 56, 57, 58, 59, 60, 61, 62, 63, 64, 65, 66, 67, 68, 69, 70, 71, 72, 73, 74, 75, 76, 77, 78, 79, 80, 81, 82, 83, 84, 85, 86, 87, 88, 89, 90, 91, 92, 93, 94, 95, 96, 97, 98, 99, 100, 101, 102, 103, 104, 105, 106, 107, 108, 109, 110, 111, 112, 113, 114, 115, 116, 117, 118, 119, 120, 121] (by decide +kernel) (by decide +kernel)
set_option maxRecDepth 20000 in
theorem gX12_plays_X12_worldComes : GoodIn wsX12_plays (wsV RX12 407 RX12 yX12_worldComes wsX12_worldComes) := goodIn_app (goodIn_of _ (by decide +kernel)) ggX12_plays_X12_worldComes
set_option maxRecDepth 20000 in
theorem ggX12_plays_X12_figures : GoodIn wsX12_plays wsX12_figures := goodIn_r _ [47, 48] (by decide +kernel) (by decide +kernel)
set_option maxRecDepth 20000 in
theorem gX12_plays_X12_figures : GoodIn wsX12_plays (va_wsS RX12 366 yX12_figures wsX12_figures) := goodIn_app (goodIn_of _ (by decide +kernel)) ggX12_plays_X12_figures
theorem dX12_plays_0 : decode cX12_plays 0 = .ok (.aload_n 0, 1) := by decide +kernel
theorem dX12_plays_1 : decode cX12_plays 1 = .ok (.invokevirtual 404, 3) := by decide +kernel
theorem dX12_plays_4 : decode cX12_plays 4 = .ok (.istore_n 2, 1) := by decide +kernel
theorem dX12_plays_5 : decode cX12_plays 5 = .ok (.iconst 0, 1) := by decide +kernel
theorem dX12_plays_6 : decode cX12_plays 6 = .ok (.istore_n 3, 1) := by decide +kernel
theorem dX12_plays_7 : decode cX12_plays 7 = .ok (.iload_n 3, 1) := by decide +kernel
theorem dX12_plays_8 : decode cX12_plays 8 = .ok (.iload_n 2, 1) := by decide +kernel
theorem dX12_plays_9 : decode cX12_plays 9 = .ok (.if_icmp .ge 16, 3) := by decide +kernel
theorem dX12_plays_12 : decode cX12_plays 12 = .ok (.aload_n 0, 1) := by decide +kernel
theorem dX12_plays_13 : decode cX12_plays 13 = .ok (.getfield 138, 3) := by decide +kernel
theorem dX12_plays_16 : decode cX12_plays 16 = .ok (.iload_n 3, 1) := by decide +kernel
theorem dX12_plays_17 : decode cX12_plays 17 = .ok (.iconst 1, 1) := by decide +kernel
theorem dX12_plays_18 : decode cX12_plays 18 = .ok (.bastore, 1) := by decide +kernel
theorem dX12_plays_19 : decode cX12_plays 19 = .ok (.iinc 3 1, 3) := by decide +kernel
theorem dX12_plays_22 : decode cX12_plays 22 = .ok (.goto (-15), 3) := by decide +kernel
theorem dX12_plays_25 : decode cX12_plays 25 = .ok (.iload_n 2, 1) := by decide +kernel
theorem dX12_plays_26 : decode cX12_plays 26 = .ok (.istore_n 3, 1) := by decide +kernel
theorem dX12_plays_27 : decode cX12_plays 27 = .ok (.aload_n 0, 1) := by decide +kernel
theorem dX12_plays_28 : decode cX12_plays 28 = .ok (.iconst 0, 1) := by decide +kernel
theorem dX12_plays_29 : decode cX12_plays 29 = .ok (.putfield 469, 3) := by decide +kernel
theorem dX12_plays_32 : decode cX12_plays 32 = .ok (.aload_n 0, 1) := by decide +kernel
theorem dX12_plays_33 : decode cX12_plays 33 = .ok (.iconst 0, 1) := by decide +kernel
theorem dX12_plays_34 : decode cX12_plays 34 = .ok (.putfield 472, 3) := by decide +kernel
theorem dX12_plays_37 : decode cX12_plays 37 = .ok (.lconst 0, 1) := by decide +kernel
theorem dX12_plays_38 : decode cX12_plays 38 = .ok (.lstore 4, 2) := by decide +kernel
theorem dX12_plays_40 : decode cX12_plays 40 = .ok (.iconst 0, 1) := by decide +kernel
theorem dX12_plays_41 : decode cX12_plays 41 = .ok (.istore 6, 2) := by decide +kernel
theorem dX12_plays_43 : decode cX12_plays 43 = .ok (.iload_n 2, 1) := by decide +kernel
theorem dX12_plays_44 : decode cX12_plays 44 = .ok (.iconst 1, 1) := by decide +kernel
theorem dX12_plays_45 : decode cX12_plays 45 = .ok (.if_icmp .le 118, 3) := by decide +kernel
theorem dX12_plays_48 : decode cX12_plays 48 = .ok (.aload_n 0, 1) := by decide +kernel
theorem dX12_plays_49 : decode cX12_plays 49 = .ok (.getfield 469, 3) := by decide +kernel
theorem dX12_plays_52 : decode cX12_plays 52 = .ok (.bipush 50, 2) := by decide +kernel
theorem dX12_plays_54 : decode cX12_plays 54 = .ok (.if_icmp .ge 109, 3) := by decide +kernel
theorem dX12_plays_57 : decode cX12_plays 57 = .ok (.aload_n 0, 1) := by decide +kernel
theorem dX12_plays_58 : decode cX12_plays 58 = .ok (.aload_n 0, 1) := by decide +kernel
theorem dX12_plays_59 : decode cX12_plays 59 = .ok (.getfield 469, 3) := by decide +kernel
theorem dX12_plays_62 : decode cX12_plays 62 = .ok (.lload 4, 2) := by decide +kernel
theorem dX12_plays_64 : decode cX12_plays 64 = .ok (.iload 6, 2) := by decide +kernel
theorem dX12_plays_66 : decode cX12_plays 66 = .ok (.invokevirtual 459, 3) := by decide +kernel
theorem dX12_plays_69 : decode cX12_plays 69 = .ok (.istore 6, 2) := by decide +kernel
theorem dX12_plays_71 : decode cX12_plays 71 = .ok (.aload_n 0, 1) := by decide +kernel
theorem dX12_plays_72 : decode cX12_plays 72 = .ok (.iload_n 1, 1) := by decide +kernel
theorem dX12_plays_73 : decode cX12_plays 73 = .ok (.iload 6, 2) := by decide +kernel
theorem dX12_plays_75 : decode cX12_plays 75 = .ok (.i2l, 1) := by decide +kernel
theorem dX12_plays_76 : decode cX12_plays 76 = .ok (.invokevirtual 407, 3) := by decide +kernel
theorem dX12_plays_79 : decode cX12_plays 79 = .ok (.lstore 4, 2) := by decide +kernel
theorem dX12_plays_81 : decode cX12_plays 81 = .ok (.aload_n 0, 1) := by decide +kernel
theorem dX12_plays_82 : decode cX12_plays 82 = .ok (.dup, 1) := by decide +kernel
theorem dX12_plays_83 : decode cX12_plays 83 = .ok (.getfield 469, 3) := by decide +kernel
theorem dX12_plays_86 : decode cX12_plays 86 = .ok (.iconst 1, 1) := by decide +kernel
theorem dX12_plays_87 : decode cX12_plays 87 = .ok (.iadd, 1) := by decide +kernel
theorem dX12_plays_88 : decode cX12_plays 88 = .ok (.putfield 469, 3) := by decide +kernel
theorem dX12_plays_91 : decode cX12_plays 91 = .ok (.aload_n 0, 1) := by decide +kernel
theorem dX12_plays_92 : decode cX12_plays 92 = .ok (.dup, 1) := by decide +kernel
theorem dX12_plays_93 : decode cX12_plays 93 = .ok (.getfield 472, 3) := by decide +kernel
theorem dX12_plays_96 : decode cX12_plays 96 = .ok (.iload 6, 2) := by decide +kernel
theorem dX12_plays_98 : decode cX12_plays 98 = .ok (.i2l, 1) := by decide +kernel
theorem dX12_plays_99 : decode cX12_plays 99 = .ok (.invokestatic 366, 3) := by decide +kernel
theorem dX12_plays_102 : decode cX12_plays 102 = .ok (.iadd, 1) := by decide +kernel
theorem dX12_plays_103 : decode cX12_plays 103 = .ok (.putfield 472, 3) := by decide +kernel
theorem dX12_plays_106 : decode cX12_plays 106 = .ok (.iconst 0, 1) := by decide +kernel
theorem dX12_plays_107 : decode cX12_plays 107 = .ok (.istore 7, 2) := by decide +kernel
theorem dX12_plays_109 : decode cX12_plays 109 = .ok (.iload 7, 2) := by decide +kernel
theorem dX12_plays_111 : decode cX12_plays 111 = .ok (.iload_n 3, 1) := by decide +kernel
theorem dX12_plays_112 : decode cX12_plays 112 = .ok (.if_icmp .ge 48, 3) := by decide +kernel
theorem dX12_plays_115 : decode cX12_plays 115 = .ok (.aload_n 0, 1) := by decide +kernel
theorem dX12_plays_116 : decode cX12_plays 116 = .ok (.getfield 138, 3) := by decide +kernel
theorem dX12_plays_119 : decode cX12_plays 119 = .ok (.iload 7, 2) := by decide +kernel
theorem dX12_plays_121 : decode cX12_plays 121 = .ok (.baload, 1) := by decide +kernel
theorem dX12_plays_122 : decode cX12_plays 122 = .ok (.ifCond .eq 32, 3) := by decide +kernel
theorem dX12_plays_125 : decode cX12_plays 125 = .ok (.aload_n 0, 1) := by decide +kernel
theorem dX12_plays_126 : decode cX12_plays 126 = .ok (.iload 7, 2) := by decide +kernel
theorem dX12_plays_128 : decode cX12_plays 128 = .ok (.iload 6, 2) := by decide +kernel
theorem dX12_plays_130 : decode cX12_plays 130 = .ok (.i2l, 1) := by decide +kernel
theorem dX12_plays_131 : decode cX12_plays 131 = .ok (.invokevirtual 407, 3) := by decide +kernel
theorem dX12_plays_134 : decode cX12_plays 134 = .ok (.lload 4, 2) := by decide +kernel
theorem dX12_plays_136 : decode cX12_plays 136 = .ok (.lcmp, 1) := by decide +kernel
theorem dX12_plays_137 : decode cX12_plays 137 = .ok (.ifCond .ne 6, 3) := by decide +kernel
theorem dX12_plays_140 : decode cX12_plays 140 = .ok (.goto 14, 3) := by decide +kernel
theorem dX12_plays_143 : decode cX12_plays 143 = .ok (.aload_n 0, 1) := by decide +kernel
theorem dX12_plays_144 : decode cX12_plays 144 = .ok (.getfield 138, 3) := by decide +kernel
theorem dX12_plays_147 : decode cX12_plays 147 = .ok (.iload 7, 2) := by decide +kernel
theorem dX12_plays_149 : decode cX12_plays 149 = .ok (.iconst 0, 1) := by decide +kernel
theorem dX12_plays_150 : decode cX12_plays 150 = .ok (.bastore, 1) := by decide +kernel
theorem dX12_plays_151 : decode cX12_plays 151 = .ok (.iinc 2 (-1), 3) := by decide +kernel
theorem dX12_plays_154 : decode cX12_plays 154 = .ok (.iinc 7 1, 3) := by decide +kernel
theorem dX12_plays_157 : decode cX12_plays 157 = .ok (.goto (-48), 3) := by decide +kernel
theorem dX12_plays_160 : decode cX12_plays 160 = .ok (.goto (-117), 3) := by decide +kernel
theorem dX12_plays_163 : decode cX12_plays 163 = .ok (.iload_n 2, 1) := by decide +kernel
theorem dX12_plays_164 : decode cX12_plays 164 = .ok (.iconst 1, 1) := by decide +kernel
theorem dX12_plays_165 : decode cX12_plays 165 = .ok (.if_icmp .le 9, 3) := by decide +kernel
theorem dX12_plays_168 : decode cX12_plays 168 = .ok (.aload_n 0, 1) := by decide +kernel
theorem dX12_plays_169 : decode cX12_plays 169 = .ok (.bipush (-2), 2) := by decide +kernel
theorem dX12_plays_171 : decode cX12_plays 171 = .ok (.putfield 469, 3) := by decide +kernel
theorem dX12_plays_174 : decode cX12_plays 174 = .ok (.return_, 1) := by decide +kernel
set_option maxRecDepth 20000 in
theorem ggX12_game_X12_worldAll : GoodIn wsX12_game wsX12_worldAll := goodIn_r _ [7, 8, 9, 10, 56, 57, 58, 59, 60, 61, 62, 63, 64, 65, 66, 67, 68, 69, 70, 71, 72, 73, 74, 75, 76, 77, 78, 79, 80, 81, 82, 83, 84, 85, 86, 87, 88, 89, 90, 91, 92, 93, 94, 95, 96, 97, 98, 99, 100, 101, 102, 103, 104, 105, 106, 107, 108, 109, 110, 111, 112, 113, 114, 115, 116, 117, 118, 119, 120, 121, 122, 123, 124, 125, 126, 127, 128] (by decide +kernel) (by decide +kernel)
set_option maxRecDepth 20000 in
theorem gX12_game_X12_worldAll : GoodIn wsX12_game (wsV RX12 404 RX12 yX12_worldAll wsX12_worldAll) := goodIn_app (goodIn_of _ (by decide +kernel)) ggX12_game_X12_worldAll
set_option maxRecDepth 20000 in
theorem ggX12_game_X12_in : GoodIn wsX12_game wsX12_in := goodIn_r _ [13] (by decide +kernel) (by decide +kernel)
set_option maxRecDepth 20000 in
theorem gX12_game_X12_in : GoodIn wsX12_game (va_wsS RX12 332 yX12_in wsX12_in) := goodIn_app (goodIn_of _ (by decide +kernel)) ggX12_game_X12_in
set_option maxRecDepth 20000 in
theorem ggX12_game_X12_plays : GoodIn wsX12_game wsX12_plays := goodIn_r _ [17, 18, 1, 2, 3, 4, 5, 6, 7, 8, 9, 10, 19, 20, 21, 22, 23, 24, 25, 26, 27, 28, 29, 30, 31, 32, 33, 34, 35, 36, 37, 38, 39, 40, 41, 42, 43, 44, 45, 46, 47, 48, 49, 50, 51, 52, 53, 54, 55, 56, 57, 58, 59, 60, 61, 62, 63, 64, 65, 66, 67, 68, 69, 70, 71, 72, 73, 74, 75, 76, 77, 78, 79, 80, 81, 82, 83, 84, 85, 86, 87, 88, 89, 90, 91, 92, 93, 94, 95, 96, 97, 98, 99, 100, 101, 102, 103, 104, 105, 106, 107, 108, 109, 110, 111, 112, 113, 114, 115, 116, 117, 118, 119, 120, 121, 122, 123, 124, 125, 126, 127, 128] (by decide +kernel) (by decide +kernel)
set_option maxRecDepth 20000 in
theorem gX12_game_X12_plays : GoodIn wsX12_game (wsV RX12 475 RX12 yX12_plays wsX12_plays) := goodIn_app (goodIn_of _ (by decide +kernel)) ggX12_game_X12_plays
theorem dX12_game_0 : decode cX12_game 0 = .ok (.iload_n 1, 1) := by decide +kernel
theorem dX12_game_1 : decode cX12_game 1 = .ok (.i2l, 1) := by decide +kernel
theorem dX12_game_2 : decode cX12_game 2 = .ok (.lconst 0, 1) := by decide +kernel
theorem dX12_game_3 : decode cX12_game 3 = .ok (.aload_n 0, 1) := by decide +kernel
theorem dX12_game_4 : decode cX12_game 4 = .ok (.invokevirtual 404, 3) := by decide +kernel
theorem dX12_game_7 : decode cX12_game 7 = .ok (.iconst 1, 1) := by decide +kernel
theorem dX12_game_8 : decode cX12_game 8 = .ok (.isub, 1) := by decide +kernel
theorem dX12_game_9 : decode cX12_game 9 = .ok (.i2l, 1) := by decide +kernel
theorem dX12_game_10 : decode cX12_game 10 = .ok (.invokestatic 332, 3) := by decide +kernel
theorem dX12_game_13 : decode cX12_game 13 = .ok (.ifCond .eq 13, 3) := by decide +kernel
theorem dX12_game_16 : decode cX12_game 16 = .ok (.iload_n 2, 1) := by decide +kernel
theorem dX12_game_17 : decode cX12_game 17 = .ok (.i2l, 1) := by decide +kernel
theorem dX12_game_18 : decode cX12_game 18 = .ok (.lconst 0, 1) := by decide +kernel
theorem dX12_game_19 : decode cX12_game 19 = .ok (.lconst 1, 1) := by decide +kernel
theorem dX12_game_20 : decode cX12_game 20 = .ok (.invokestatic 332, 3) := by decide +kernel
theorem dX12_game_23 : decode cX12_game 23 = .ok (.ifCond .ne 5, 3) := by decide +kernel
theorem dX12_game_26 : decode cX12_game 26 = .ok (.iconst (-1), 1) := by decide +kernel
theorem dX12_game_27 : decode cX12_game 27 = .ok (.ireturn, 1) := by decide +kernel
theorem dX12_game_28 : decode cX12_game 28 = .ok (.aload_n 0, 1) := by decide +kernel
theorem dX12_game_29 : decode cX12_game 29 = .ok (.iload_n 1, 1) := by decide +kernel
theorem dX12_game_30 : decode cX12_game 30 = .ok (.invokevirtual 475, 3) := by decide +kernel
theorem dX12_game_33 : decode cX12_game 33 = .ok (.iload_n 2, 1) := by decide +kernel
theorem dX12_game_34 : decode cX12_game 34 = .ok (.ifCond .ne 10, 3) := by decide +kernel
theorem dX12_game_37 : decode cX12_game 37 = .ok (.aload_n 0, 1) := by decide +kernel
theorem dX12_game_38 : decode cX12_game 38 = .ok (.getfield 469, 3) := by decide +kernel
theorem dX12_game_41 : decode cX12_game 41 = .ok (.goto 7, 3) := by decide +kernel
theorem dX12_game_44 : decode cX12_game 44 = .ok (.aload_n 0, 1) := by decide +kernel
theorem dX12_game_45 : decode cX12_game 45 = .ok (.getfield 472, 3) := by decide +kernel
theorem dX12_game_48 : decode cX12_game 48 = .ok (.ireturn, 1) := by decide +kernel
theorem dX12_sumOf_0 : decode cX12_sumOf 0 = .ok (.iconst 0, 1) := by decide +kernel
theorem dX12_sumOf_1 : decode cX12_sumOf 1 = .ok (.istore_n 2, 1) := by decide +kernel
theorem dX12_sumOf_2 : decode cX12_sumOf 2 = .ok (.iconst 0, 1) := by decide +kernel
theorem dX12_sumOf_3 : decode cX12_sumOf 3 = .ok (.istore_n 3, 1) := by decide +kernel
theorem dX12_sumOf_4 : decode cX12_sumOf 4 = .ok (.iload_n 3, 1) := by decide +kernel
theorem dX12_sumOf_5 : decode cX12_sumOf 5 = .ok (.aload_n 0, 1) := by decide +kernel
theorem dX12_sumOf_6 : decode cX12_sumOf 6 = .ok (.getfield 67, 3) := by decide +kernel
theorem dX12_sumOf_9 : decode cX12_sumOf 9 = .ok (.aload_n 0, 1) := by decide +kernel
theorem dX12_sumOf_10 : decode cX12_sumOf 10 = .ok (.getfield 243, 3) := by decide +kernel
theorem dX12_sumOf_13 : decode cX12_sumOf 13 = .ok (.iaload, 1) := by decide +kernel
theorem dX12_sumOf_14 : decode cX12_sumOf 14 = .ok (.if_icmp .ge 35, 3) := by decide +kernel
theorem dX12_sumOf_17 : decode cX12_sumOf 17 = .ok (.iload_n 1, 1) := by decide +kernel
theorem dX12_sumOf_18 : decode cX12_sumOf 18 = .ok (.iload_n 3, 1) := by decide +kernel
theorem dX12_sumOf_19 : decode cX12_sumOf 19 = .ok (.ishr, 1) := by decide +kernel
theorem dX12_sumOf_20 : decode cX12_sumOf 20 = .ok (.iconst 1, 1) := by decide +kernel
theorem dX12_sumOf_21 : decode cX12_sumOf 21 = .ok (.iand, 1) := by decide +kernel
theorem dX12_sumOf_22 : decode cX12_sumOf 22 = .ok (.iconst 1, 1) := by decide +kernel
theorem dX12_sumOf_23 : decode cX12_sumOf 23 = .ok (.if_icmp .ne 20, 3) := by decide +kernel
theorem dX12_sumOf_26 : decode cX12_sumOf 26 = .ok (.iload_n 2, 1) := by decide +kernel
theorem dX12_sumOf_27 : decode cX12_sumOf 27 = .ok (.aload_n 0, 1) := by decide +kernel
theorem dX12_sumOf_28 : decode cX12_sumOf 28 = .ok (.getfield 70, 3) := by decide +kernel
theorem dX12_sumOf_31 : decode cX12_sumOf 31 = .ok (.bipush 9, 2) := by decide +kernel
theorem dX12_sumOf_33 : decode cX12_sumOf 33 = .ok (.aload_n 0, 1) := by decide +kernel
theorem dX12_sumOf_34 : decode cX12_sumOf 34 = .ok (.getfield 243, 3) := by decide +kernel
theorem dX12_sumOf_37 : decode cX12_sumOf 37 = .ok (.imul, 1) := by decide +kernel
theorem dX12_sumOf_38 : decode cX12_sumOf 38 = .ok (.iload_n 3, 1) := by decide +kernel
theorem dX12_sumOf_39 : decode cX12_sumOf 39 = .ok (.iadd, 1) := by decide +kernel
theorem dX12_sumOf_40 : decode cX12_sumOf 40 = .ok (.iaload, 1) := by decide +kernel
theorem dX12_sumOf_41 : decode cX12_sumOf 41 = .ok (.iadd, 1) := by decide +kernel
theorem dX12_sumOf_42 : decode cX12_sumOf 42 = .ok (.istore_n 2, 1) := by decide +kernel
theorem dX12_sumOf_43 : decode cX12_sumOf 43 = .ok (.iinc 3 1, 3) := by decide +kernel
theorem dX12_sumOf_46 : decode cX12_sumOf 46 = .ok (.goto (-42), 3) := by decide +kernel
theorem dX12_sumOf_49 : decode cX12_sumOf 49 = .ok (.iload_n 2, 1) := by decide +kernel
theorem dX12_sumOf_50 : decode cX12_sumOf 50 = .ok (.ireturn, 1) := by decide +kernel
set_option maxRecDepth 20000 in
theorem ggX12_bad_X12_in : GoodIn wsX12_bad wsX12_in := goodIn_r _ [8] (by decide +kernel) (by decide +kernel)
set_option maxRecDepth 20000 in
theorem gX12_bad_X12_in : GoodIn wsX12_bad (va_wsS RX12 332 yX12_in wsX12_in) := goodIn_app (goodIn_of _ (by decide +kernel)) ggX12_bad_X12_in
set_option maxRecDepth 20000 in
theorem ggX12_bad_X12_sumOf : GoodIn wsX12_bad wsX12_sumOf := goodIn_r _ [12, 3, 4, 13, 14, 15, 16, 17, 18, 19, 20, 21, 22, 23, 24, 25, 26, 27, 28, 29, 30, 31, 32, 33, 34, 35, 36, 37, 38, 39, 40, 41, 42, 43, 44, 45, 46, 47, 48, 49, 50, 51, 52, 53, 54, 55, 56, 57, 58, 59, 60, 61, 62, 63, 64, 65, 66, 67, 68, 69, 70, 71, 72, 73, 74, 75, 76, 77, 78, 79, 80, 81, 82, 83, 84, 85, 86] (by decide +kernel) (by decide +kernel)
set_option maxRecDepth 20000 in
theorem gX12_bad_X12_sumOf : GoodIn wsX12_bad (wsV RX12 480 RX12 yX12_sumOf wsX12_sumOf) := goodIn_app (goodIn_of _ (by decide +kernel)) ggX12_bad_X12_sumOf
theorem dX12_bad_0 : decode cX12_bad 0 = .ok (.iload_n 1, 1) := by decide +kernel
theorem dX12_bad_1 : decode cX12_bad 1 = .ok (.i2l, 1) := by decide +kernel
theorem dX12_bad_2 : decode cX12_bad 2 = .ok (.lconst 0, 1) := by decide +kernel
theorem dX12_bad_3 : decode cX12_bad 3 = .ok (.ldc2_w 478, 3) := by decide +kernel
theorem dX12_bad_6 : decode cX12_bad 6 = .ok (.invokestatic 332, 3) := by decide +kernel
theorem dX12_bad_9 : decode cX12_bad 9 = .ok (.ifCond .eq 15, 3) := by decide +kernel
theorem dX12_bad_12 : decode cX12_bad 12 = .ok (.iload_n 2, 1) := by decide +kernel
theorem dX12_bad_13 : decode cX12_bad 13 = .ok (.i2l, 1) := by decide +kernel
theorem dX12_bad_14 : decode cX12_bad 14 = .ok (.lconst 1, 1) := by decide +kernel
theorem dX12_bad_15 : decode cX12_bad 15 = .ok (.ldc2_w 432, 3) := by decide +kernel
theorem dX12_bad_18 : decode cX12_bad 18 = .ok (.invokestatic 332, 3) := by decide +kernel
theorem dX12_bad_21 : decode cX12_bad 21 = .ok (.ifCond .ne 5, 3) := by decide +kernel
theorem dX12_bad_24 : decode cX12_bad 24 = .ok (.iconst (-1), 1) := by decide +kernel
theorem dX12_bad_25 : decode cX12_bad 25 = .ok (.ireturn, 1) := by decide +kernel
theorem dX12_bad_26 : decode cX12_bad 26 = .ok (.iconst 0, 1) := by decide +kernel
theorem dX12_bad_27 : decode cX12_bad 27 = .ok (.istore_n 3, 1) := by decide +kernel
theorem dX12_bad_28 : decode cX12_bad 28 = .ok (.iconst 0, 1) := by decide +kernel
theorem dX12_bad_29 : decode cX12_bad 29 = .ok (.istore 4, 2) := by decide +kernel
theorem dX12_bad_31 : decode cX12_bad 31 = .ok (.iload 4, 2) := by decide +kernel
theorem dX12_bad_33 : decode cX12_bad 33 = .ok (.iconst 1, 1) := by decide +kernel
theorem dX12_bad_34 : decode cX12_bad 34 = .ok (.aload_n 0, 1) := by decide +kernel
theorem dX12_bad_35 : decode cX12_bad 35 = .ok (.getfield 67, 3) := by decide +kernel
theorem dX12_bad_38 : decode cX12_bad 38 = .ok (.aload_n 0, 1) := by decide +kernel
theorem dX12_bad_39 : decode cX12_bad 39 = .ok (.getfield 243, 3) := by decide +kernel
theorem dX12_bad_42 : decode cX12_bad 42 = .ok (.iaload, 1) := by decide +kernel
theorem dX12_bad_43 : decode cX12_bad 43 = .ok (.ishl, 1) := by decide +kernel
theorem dX12_bad_44 : decode cX12_bad 44 = .ok (.if_icmp .ge 24, 3) := by decide +kernel
theorem dX12_bad_47 : decode cX12_bad 47 = .ok (.aload_n 0, 1) := by decide +kernel
theorem dX12_bad_48 : decode cX12_bad 48 = .ok (.iload 4, 2) := by decide +kernel
theorem dX12_bad_50 : decode cX12_bad 50 = .ok (.invokevirtual 480, 3) := by decide +kernel
theorem dX12_bad_53 : decode cX12_bad 53 = .ok (.iload_n 2, 1) := by decide +kernel
theorem dX12_bad_54 : decode cX12_bad 54 = .ok (.imul, 1) := by decide +kernel
theorem dX12_bad_55 : decode cX12_bad 55 = .ok (.iload_n 1, 1) := by decide +kernel
theorem dX12_bad_56 : decode cX12_bad 56 = .ok (.if_icmp .ne 6, 3) := by decide +kernel
theorem dX12_bad_59 : decode cX12_bad 59 = .ok (.iinc 3 1, 3) := by decide +kernel
theorem dX12_bad_62 : decode cX12_bad 62 = .ok (.iinc 4 1, 3) := by decide +kernel
theorem dX12_bad_65 : decode cX12_bad 65 = .ok (.goto (-34), 3) := by decide +kernel
theorem dX12_bad_68 : decode cX12_bad 68 = .ok (.iload_n 3, 1) := by decide +kernel
theorem dX12_bad_69 : decode cX12_bad 69 = .ok (.ireturn, 1) := by decide +kernel
set_option maxRecDepth 20000 in
theorem ggX12_badSet_X12_in : GoodIn wsX12_badSet wsX12_in := goodIn_r _ [8] (by decide +kernel) (by decide +kernel)
set_option maxRecDepth 20000 in
theorem gX12_badSet_X12_in : GoodIn wsX12_badSet (va_wsS RX12 332 yX12_in wsX12_in) := goodIn_app (goodIn_of _ (by decide +kernel)) ggX12_badSet_X12_in
set_option maxRecDepth 20000 in
theorem ggX12_badSet_X12_sumOf : GoodIn wsX12_badSet wsX12_sumOf := goodIn_r _ [12, 3, 4, 13, 14, 15, 16, 17, 18, 19, 20, 21, 22, 23, 24, 25, 26, 27, 28, 29, 30, 31, 32, 33, 34, 35, 36, 37, 38, 39, 40, 41, 42, 43, 44, 45, 46, 47, 48, 49, 50, 51, 52, 53, 54, 55, 56, 57, 58, 59, 60, 61, 62, 63, 64, 65, 66, 67, 68, 69, 70, 71, 72, 73, 74, 75, 76, 77, 78, 79, 80, 81, 82, 83, 84, 85, 86] (by decide +kernel) (by decide +kernel)
set_option maxRecDepth 20000 in
theorem gX12_badSet_X12_sumOf : GoodIn wsX12_badSet (wsV RX12 480 RX12 yX12_sumOf wsX12_sumOf) := goodIn_app (goodIn_of _ (by decide +kernel)) ggX12_badSet_X12_sumOf
theorem dX12_badSet_0 : decode cX12_badSet 0 = .ok (.iload_n 1, 1) := by decide +kernel
theorem dX12_badSet_1 : decode cX12_badSet 1 = .ok (.i2l, 1) := by decide +kernel
theorem dX12_badSet_2 : decode cX12_badSet 2 = .ok (.lconst 0, 1) := by decide +kernel
theorem dX12_badSet_3 : decode cX12_badSet 3 = .ok (.ldc2_w 478, 3) := by decide +kernel
theorem dX12_badSet_6 : decode cX12_badSet 6 = .ok (.invokestatic 332, 3) := by decide +kernel
theorem dX12_badSet_9 : decode cX12_badSet 9 = .ok (.ifCond .eq 15, 3) := by decide +kernel
theorem dX12_badSet_12 : decode cX12_badSet 12 = .ok (.iload_n 2, 1) := by decide +kernel
theorem dX12_badSet_13 : decode cX12_badSet 13 = .ok (.i2l, 1) := by decide +kernel
theorem dX12_badSet_14 : decode cX12_badSet 14 = .ok (.lconst 1, 1) := by decide +kernel
theorem dX12_badSet_15 : decode cX12_badSet 15 = .ok (.ldc2_w 432, 3) := by decide +kernel
theorem dX12_badSet_18 : decode cX12_badSet 18 = .ok (.invokestatic 332, 3) := by decide +kernel
theorem dX12_badSet_21 : decode cX12_badSet 21 = .ok (.ifCond .ne 5, 3) := by decide +kernel
theorem dX12_badSet_24 : decode cX12_badSet 24 = .ok (.iconst (-1), 1) := by decide +kernel
theorem dX12_badSet_25 : decode cX12_badSet 25 = .ok (.ireturn, 1) := by decide +kernel
theorem dX12_badSet_26 : decode cX12_badSet 26 = .ok (.iconst 0, 1) := by decide +kernel
theorem dX12_badSet_27 : decode cX12_badSet 27 = .ok (.istore_n 3, 1) := by decide +kernel
theorem dX12_badSet_28 : decode cX12_badSet 28 = .ok (.iload_n 3, 1) := by decide +kernel
theorem dX12_badSet_29 : decode cX12_badSet 29 = .ok (.iconst 1, 1) := by decide +kernel
theorem dX12_badSet_30 : decode cX12_badSet 30 = .ok (.aload_n 0, 1) := by decide +kernel
theorem dX12_badSet_31 : decode cX12_badSet 31 = .ok (.getfield 67, 3) := by decide +kernel
theorem dX12_badSet_34 : decode cX12_badSet 34 = .ok (.aload_n 0, 1) := by decide +kernel
theorem dX12_badSet_35 : decode cX12_badSet 35 = .ok (.getfield 243, 3) := by decide +kernel
theorem dX12_badSet_38 : decode cX12_badSet 38 = .ok (.iaload, 1) := by decide +kernel
theorem dX12_badSet_39 : decode cX12_badSet 39 = .ok (.ishl, 1) := by decide +kernel
theorem dX12_badSet_40 : decode cX12_badSet 40 = .ok (.if_icmp .ge 22, 3) := by decide +kernel
theorem dX12_badSet_43 : decode cX12_badSet 43 = .ok (.aload_n 0, 1) := by decide +kernel
theorem dX12_badSet_44 : decode cX12_badSet 44 = .ok (.iload_n 3, 1) := by decide +kernel
theorem dX12_badSet_45 : decode cX12_badSet 45 = .ok (.invokevirtual 480, 3) := by decide +kernel
theorem dX12_badSet_48 : decode cX12_badSet 48 = .ok (.iload_n 2, 1) := by decide +kernel
theorem dX12_badSet_49 : decode cX12_badSet 49 = .ok (.imul, 1) := by decide +kernel
theorem dX12_badSet_50 : decode cX12_badSet 50 = .ok (.iload_n 1, 1) := by decide +kernel
theorem dX12_badSet_51 : decode cX12_badSet 51 = .ok (.if_icmp .ne 5, 3) := by decide +kernel
theorem dX12_badSet_54 : decode cX12_badSet 54 = .ok (.iload_n 3, 1) := by decide +kernel
theorem dX12_badSet_55 : decode cX12_badSet 55 = .ok (.ireturn, 1) := by decide +kernel
theorem dX12_badSet_56 : decode cX12_badSet 56 = .ok (.iinc 3 1, 3) := by decide +kernel
theorem dX12_badSet_59 : decode cX12_badSet 59 = .ok (.goto (-31), 3) := by decide +kernel
theorem dX12_badSet_62 : decode cX12_badSet 62 = .ok (.bipush (-2), 2) := by decide +kernel
theorem dX12_badSet_64 : decode cX12_badSet 64 = .ok (.ireturn, 1) := by decide +kernel
set_option maxRecDepth 20000 in
theorem ggX12_allTold_X12_sumOf : GoodIn wsX12_allTold wsX12_sumOf := goodIn_r _ [7, 1, 2, 8, 9, 10, 11, 12, 13, 14, 15, 16, 17, 18, 19, 20, 21, 22, 23, 24, 25, 26, 27, 28, 29, 30, 31, 32, 33, 34, 35, 36, 37, 38, 39, 40, 41, 42, 43, 44, 45, 46, 47, 48, 49, 50, 51, 52, 53, 54, 55, 56, 57, 58, 59, 60, 61, 62, 63, 64, 65, 66, 67, 68, 69, 70, 71, 72, 73, 74, 75, 76, 77, 78, 79, 80, 81] (by decide +kernel) (by decide +kernel)
set_option maxRecDepth 20000 in
theorem gX12_allTold_X12_sumOf : GoodIn wsX12_allTold (wsV RX12 480 RX12 yX12_sumOf wsX12_sumOf) := goodIn_app (goodIn_of _ (by decide +kernel)) ggX12_allTold_X12_sumOf
theorem dX12_allTold_0 : decode cX12_allTold 0 = .ok (.iconst 0, 1) := by decide +kernel
theorem dX12_allTold_1 : decode cX12_allTold 1 = .ok (.istore_n 1, 1) := by decide +kernel
theorem dX12_allTold_2 : decode cX12_allTold 2 = .ok (.iload_n 1, 1) := by decide +kernel
theorem dX12_allTold_3 : decode cX12_allTold 3 = .ok (.iconst 1, 1) := by decide +kernel
theorem dX12_allTold_4 : decode cX12_allTold 4 = .ok (.aload_n 0, 1) := by decide +kernel
theorem dX12_allTold_5 : decode cX12_allTold 5 = .ok (.getfield 67, 3) := by decide +kernel
theorem dX12_allTold_8 : decode cX12_allTold 8 = .ok (.aload_n 0, 1) := by decide +kernel
theorem dX12_allTold_9 : decode cX12_allTold 9 = .ok (.getfield 243, 3) := by decide +kernel
theorem dX12_allTold_12 : decode cX12_allTold 12 = .ok (.iaload, 1) := by decide +kernel
theorem dX12_allTold_13 : decode cX12_allTold 13 = .ok (.ishl, 1) := by decide +kernel
theorem dX12_allTold_14 : decode cX12_allTold 14 = .ok (.if_icmp .ge 49, 3) := by decide +kernel
theorem dX12_allTold_17 : decode cX12_allTold 17 = .ok (.iload_n 1, 1) := by decide +kernel
theorem dX12_allTold_18 : decode cX12_allTold 18 = .ok (.iconst 1, 1) := by decide +kernel
theorem dX12_allTold_19 : decode cX12_allTold 19 = .ok (.iadd, 1) := by decide +kernel
theorem dX12_allTold_20 : decode cX12_allTold 20 = .ok (.istore_n 2, 1) := by decide +kernel
theorem dX12_allTold_21 : decode cX12_allTold 21 = .ok (.iload_n 2, 1) := by decide +kernel
theorem dX12_allTold_22 : decode cX12_allTold 22 = .ok (.iconst 1, 1) := by decide +kernel
theorem dX12_allTold_23 : decode cX12_allTold 23 = .ok (.aload_n 0, 1) := by decide +kernel
theorem dX12_allTold_24 : decode cX12_allTold 24 = .ok (.getfield 67, 3) := by decide +kernel
theorem dX12_allTold_27 : decode cX12_allTold 27 = .ok (.aload_n 0, 1) := by decide +kernel
theorem dX12_allTold_28 : decode cX12_allTold 28 = .ok (.getfield 243, 3) := by decide +kernel
theorem dX12_allTold_31 : decode cX12_allTold 31 = .ok (.iaload, 1) := by decide +kernel
theorem dX12_allTold_32 : decode cX12_allTold 32 = .ok (.ishl, 1) := by decide +kernel
theorem dX12_allTold_33 : decode cX12_allTold 33 = .ok (.if_icmp .ge 24, 3) := by decide +kernel
theorem dX12_allTold_36 : decode cX12_allTold 36 = .ok (.aload_n 0, 1) := by decide +kernel
theorem dX12_allTold_37 : decode cX12_allTold 37 = .ok (.iload_n 1, 1) := by decide +kernel
theorem dX12_allTold_38 : decode cX12_allTold 38 = .ok (.invokevirtual 480, 3) := by decide +kernel
theorem dX12_allTold_41 : decode cX12_allTold 41 = .ok (.aload_n 0, 1) := by decide +kernel
theorem dX12_allTold_42 : decode cX12_allTold 42 = .ok (.iload_n 2, 1) := by decide +kernel
theorem dX12_allTold_43 : decode cX12_allTold 43 = .ok (.invokevirtual 480, 3) := by decide +kernel
theorem dX12_allTold_46 : decode cX12_allTold 46 = .ok (.if_icmp .ne 5, 3) := by decide +kernel
theorem dX12_allTold_49 : decode cX12_allTold 49 = .ok (.iconst 0, 1) := by decide +kernel
theorem dX12_allTold_50 : decode cX12_allTold 50 = .ok (.ireturn, 1) := by decide +kernel
theorem dX12_allTold_51 : decode cX12_allTold 51 = .ok (.iinc 2 1, 3) := by decide +kernel
theorem dX12_allTold_54 : decode cX12_allTold 54 = .ok (.goto (-33), 3) := by decide +kernel
theorem dX12_allTold_57 : decode cX12_allTold 57 = .ok (.iinc 1 1, 3) := by decide +kernel
theorem dX12_allTold_60 : decode cX12_allTold 60 = .ok (.goto (-58), 3) := by decide +kernel
theorem dX12_allTold_63 : decode cX12_allTold 63 = .ok (.iconst 1, 1) := by decide +kernel
theorem dX12_allTold_64 : decode cX12_allTold 64 = .ok (.ireturn, 1) := by decide +kernel
set_option maxRecDepth 20000 in
theorem ggX12_margin_X12_sumOf : GoodIn wsX12_margin wsX12_sumOf := goodIn_r _ [7, 1, 2, 8, 9, 10, 11, 12, 13, 14, 15, 16, 17, 18, 19, 20, 21, 22, 23, 24, 25, 26, 27, 28, 29, 30, 31, 32, 33, 34, 35, 36, 37, 38, 39, 40, 41, 42, 43, 44, 45, 46, 47, 48, 49, 50, 51, 52, 53, 54, 55, 56, 57, 58, 59, 60, 61, 62, 63, 64, 65, 66, 67, 68, 69, 70, 71, 72, 73, 74, 75, 76, 77, 78, 79, 80, 81] (by decide +kernel) (by decide +kernel)
set_option maxRecDepth 20000 in
theorem gX12_margin_X12_sumOf : GoodIn wsX12_margin (wsV RX12 480 RX12 yX12_sumOf wsX12_sumOf) := goodIn_app (goodIn_of _ (by decide +kernel)) ggX12_margin_X12_sumOf
theorem dX12_margin_0 : decode cX12_margin 0 = .ok (.aload_n 0, 1) := by decide +kernel
theorem dX12_margin_1 : decode cX12_margin 1 = .ok (.getfield 67, 3) := by decide +kernel
theorem dX12_margin_4 : decode cX12_margin 4 = .ok (.aload_n 0, 1) := by decide +kernel
theorem dX12_margin_5 : decode cX12_margin 5 = .ok (.getfield 243, 3) := by decide +kernel
theorem dX12_margin_8 : decode cX12_margin 8 = .ok (.iaload, 1) := by decide +kernel
theorem dX12_margin_9 : decode cX12_margin 9 = .ok (.ifCond .ne 6, 3) := by decide +kernel
theorem dX12_margin_12 : decode cX12_margin 12 = .ok (.bipush (-2), 2) := by decide +kernel
theorem dX12_margin_14 : decode cX12_margin 14 = .ok (.ireturn, 1) := by decide +kernel
theorem dX12_margin_15 : decode cX12_margin 15 = .ok (.iconst (-1), 1) := by decide +kernel
theorem dX12_margin_16 : decode cX12_margin 16 = .ok (.istore_n 1, 1) := by decide +kernel
theorem dX12_margin_17 : decode cX12_margin 17 = .ok (.iconst 0, 1) := by decide +kernel
theorem dX12_margin_18 : decode cX12_margin 18 = .ok (.istore_n 2, 1) := by decide +kernel
theorem dX12_margin_19 : decode cX12_margin 19 = .ok (.iload_n 2, 1) := by decide +kernel
theorem dX12_margin_20 : decode cX12_margin 20 = .ok (.iconst 1, 1) := by decide +kernel
theorem dX12_margin_21 : decode cX12_margin 21 = .ok (.aload_n 0, 1) := by decide +kernel
theorem dX12_margin_22 : decode cX12_margin 22 = .ok (.getfield 67, 3) := by decide +kernel
theorem dX12_margin_25 : decode cX12_margin 25 = .ok (.aload_n 0, 1) := by decide +kernel
theorem dX12_margin_26 : decode cX12_margin 26 = .ok (.getfield 243, 3) := by decide +kernel
theorem dX12_margin_29 : decode cX12_margin 29 = .ok (.iaload, 1) := by decide +kernel
theorem dX12_margin_30 : decode cX12_margin 30 = .ok (.ishl, 1) := by decide +kernel
theorem dX12_margin_31 : decode cX12_margin 31 = .ok (.if_icmp .ge 58, 3) := by decide +kernel
theorem dX12_margin_34 : decode cX12_margin 34 = .ok (.iconst 0, 1) := by decide +kernel
theorem dX12_margin_35 : decode cX12_margin 35 = .ok (.istore_n 3, 1) := by decide +kernel
theorem dX12_margin_36 : decode cX12_margin 36 = .ok (.iload_n 3, 1) := by decide +kernel
theorem dX12_margin_37 : decode cX12_margin 37 = .ok (.iload_n 2, 1) := by decide +kernel
theorem dX12_margin_38 : decode cX12_margin 38 = .ok (.if_icmp .ge 45, 3) := by decide +kernel
theorem dX12_margin_41 : decode cX12_margin 41 = .ok (.aload_n 0, 1) := by decide +kernel
theorem dX12_margin_42 : decode cX12_margin 42 = .ok (.iload_n 2, 1) := by decide +kernel
theorem dX12_margin_43 : decode cX12_margin 43 = .ok (.invokevirtual 480, 3) := by decide +kernel
theorem dX12_margin_46 : decode cX12_margin 46 = .ok (.aload_n 0, 1) := by decide +kernel
theorem dX12_margin_47 : decode cX12_margin 47 = .ok (.iload_n 3, 1) := by decide +kernel
theorem dX12_margin_48 : decode cX12_margin 48 = .ok (.invokevirtual 480, 3) := by decide +kernel
theorem dX12_margin_51 : decode cX12_margin 51 = .ok (.isub, 1) := by decide +kernel
theorem dX12_margin_52 : decode cX12_margin 52 = .ok (.istore 4, 2) := by decide +kernel
theorem dX12_margin_54 : decode cX12_margin 54 = .ok (.iload 4, 2) := by decide +kernel
theorem dX12_margin_56 : decode cX12_margin 56 = .ok (.ifCond .ge 8, 3) := by decide +kernel
theorem dX12_margin_59 : decode cX12_margin 59 = .ok (.iload 4, 2) := by decide +kernel
theorem dX12_margin_61 : decode cX12_margin 61 = .ok (.ineg, 1) := by decide +kernel
theorem dX12_margin_62 : decode cX12_margin 62 = .ok (.istore 4, 2) := by decide +kernel
theorem dX12_margin_64 : decode cX12_margin 64 = .ok (.iload_n 1, 1) := by decide +kernel
theorem dX12_margin_65 : decode cX12_margin 65 = .ok (.ifCond .lt 9, 3) := by decide +kernel
theorem dX12_margin_68 : decode cX12_margin 68 = .ok (.iload 4, 2) := by decide +kernel
theorem dX12_margin_70 : decode cX12_margin 70 = .ok (.iload_n 1, 1) := by decide +kernel
theorem dX12_margin_71 : decode cX12_margin 71 = .ok (.if_icmp .ge 6, 3) := by decide +kernel
theorem dX12_margin_74 : decode cX12_margin 74 = .ok (.iload 4, 2) := by decide +kernel
theorem dX12_margin_76 : decode cX12_margin 76 = .ok (.istore_n 1, 1) := by decide +kernel
theorem dX12_margin_77 : decode cX12_margin 77 = .ok (.iinc 3 1, 3) := by decide +kernel
theorem dX12_margin_80 : decode cX12_margin 80 = .ok (.goto (-44), 3) := by decide +kernel
theorem dX12_margin_83 : decode cX12_margin 83 = .ok (.iinc 2 1, 3) := by decide +kernel
theorem dX12_margin_86 : decode cX12_margin 86 = .ok (.goto (-67), 3) := by decide +kernel
theorem dX12_margin_89 : decode cX12_margin 89 = .ok (.iload_n 1, 1) := by decide +kernel
theorem dX12_margin_90 : decode cX12_margin 90 = .ok (.ireturn, 1) := by decide +kernel
theorem dX12_bits_0 : decode cX12_bits 0 = .ok (.iconst 0, 1) := by decide +kernel
theorem dX12_bits_1 : decode cX12_bits 1 = .ok (.istore_n 1, 1) := by decide +kernel
theorem dX12_bits_2 : decode cX12_bits 2 = .ok (.iconst 0, 1) := by decide +kernel
theorem dX12_bits_3 : decode cX12_bits 3 = .ok (.istore_n 2, 1) := by decide +kernel
theorem dX12_bits_4 : decode cX12_bits 4 = .ok (.iload_n 2, 1) := by decide +kernel
theorem dX12_bits_5 : decode cX12_bits 5 = .ok (.bipush 8, 2) := by decide +kernel
theorem dX12_bits_7 : decode cX12_bits 7 = .ok (.if_icmp .ge 17, 3) := by decide +kernel
theorem dX12_bits_10 : decode cX12_bits 10 = .ok (.iload_n 1, 1) := by decide +kernel
theorem dX12_bits_11 : decode cX12_bits 11 = .ok (.iload_n 0, 1) := by decide +kernel
theorem dX12_bits_12 : decode cX12_bits 12 = .ok (.iload_n 2, 1) := by decide +kernel
theorem dX12_bits_13 : decode cX12_bits 13 = .ok (.ishr, 1) := by decide +kernel
theorem dX12_bits_14 : decode cX12_bits 14 = .ok (.iconst 1, 1) := by decide +kernel
theorem dX12_bits_15 : decode cX12_bits 15 = .ok (.iand, 1) := by decide +kernel
theorem dX12_bits_16 : decode cX12_bits 16 = .ok (.iadd, 1) := by decide +kernel
theorem dX12_bits_17 : decode cX12_bits 17 = .ok (.istore_n 1, 1) := by decide +kernel
theorem dX12_bits_18 : decode cX12_bits 18 = .ok (.iinc 2 1, 3) := by decide +kernel
theorem dX12_bits_21 : decode cX12_bits 21 = .ok (.goto (-17), 3) := by decide +kernel
theorem dX12_bits_24 : decode cX12_bits 24 = .ok (.iload_n 1, 1) := by decide +kernel
theorem dX12_bits_25 : decode cX12_bits 25 = .ok (.ireturn, 1) := by decide +kernel
theorem dX12_restOf_0 : decode cX12_restOf 0 = .ok (.iload_n 1, 1) := by decide +kernel
theorem dX12_restOf_1 : decode cX12_restOf 1 = .ok (.aload_n 0, 1) := by decide +kernel
theorem dX12_restOf_2 : decode cX12_restOf 2 = .ok (.getfield 52, 3) := by decide +kernel
theorem dX12_restOf_5 : decode cX12_restOf 5 = .ok (.aload_n 0, 1) := by decide +kernel
theorem dX12_restOf_6 : decode cX12_restOf 6 = .ok (.getfield 243, 3) := by decide +kernel
theorem dX12_restOf_9 : decode cX12_restOf 9 = .ok (.iaload, 1) := by decide +kernel
theorem dX12_restOf_10 : decode cX12_restOf 10 = .ok (.irem, 1) := by decide +kernel
theorem dX12_restOf_11 : decode cX12_restOf 11 = .ok (.istore_n 2, 1) := by decide +kernel
theorem dX12_restOf_12 : decode cX12_restOf 12 = .ok (.iload_n 2, 1) := by decide +kernel
theorem dX12_restOf_13 : decode cX12_restOf 13 = .ok (.ifCond .ge 17, 3) := by decide +kernel
theorem dX12_restOf_16 : decode cX12_restOf 16 = .ok (.iload_n 2, 1) := by decide +kernel
theorem dX12_restOf_17 : decode cX12_restOf 17 = .ok (.aload_n 0, 1) := by decide +kernel
theorem dX12_restOf_18 : decode cX12_restOf 18 = .ok (.getfield 52, 3) := by decide +kernel
theorem dX12_restOf_21 : decode cX12_restOf 21 = .ok (.aload_n 0, 1) := by decide +kernel
theorem dX12_restOf_22 : decode cX12_restOf 22 = .ok (.getfield 243, 3) := by decide +kernel
theorem dX12_restOf_25 : decode cX12_restOf 25 = .ok (.iaload, 1) := by decide +kernel
theorem dX12_restOf_26 : decode cX12_restOf 26 = .ok (.iadd, 1) := by decide +kernel
theorem dX12_restOf_27 : decode cX12_restOf 27 = .ok (.goto 4, 3) := by decide +kernel
theorem dX12_restOf_30 : decode cX12_restOf 30 = .ok (.iload_n 2, 1) := by decide +kernel
theorem dX12_restOf_31 : decode cX12_restOf 31 = .ok (.ireturn, 1) := by decide +kernel
set_option maxRecDepth 20000 in
theorem ggX12_turned_X12_restOf : GoodIn wsX12_turned wsX12_restOf := goodIn_r _ [5, 6, 7, 8, 9, 10, 11, 12, 13, 14, 15, 16, 17, 18, 19, 20, 21, 22, 23, 24, 25, 26, 27, 28, 29, 30, 31, 32, 33, 34, 35, 36, 37, 38, 39, 40, 41, 42, 43, 44, 45, 46, 47, 48, 49, 50, 51, 52, 53, 54, 55, 56, 57, 58, 59, 60, 61, 62, 63, 64, 65, 66, 67, 68, 69, 70, 71, 72, 73, 74, 75, 76, 77, 78, 79, 80] (by decide +kernel) (by decide +kernel)
set_option maxRecDepth 20000 in
theorem gX12_turned_X12_restOf : GoodIn wsX12_turned (wsV RX12 386 RX12 yX12_restOf wsX12_restOf) := goodIn_app (goodIn_of _ (by decide +kernel)) ggX12_turned_X12_restOf
theorem dX12_turned_0 : decode cX12_turned 0 = .ok (.iconst 1, 1) := by decide +kernel
theorem dX12_turned_1 : decode cX12_turned 1 = .ok (.istore_n 2, 1) := by decide +kernel
theorem dX12_turned_2 : decode cX12_turned 2 = .ok (.aload_n 0, 1) := by decide +kernel
theorem dX12_turned_3 : decode cX12_turned 3 = .ok (.iload_n 1, 1) := by decide +kernel
theorem dX12_turned_4 : decode cX12_turned 4 = .ok (.iload_n 2, 1) := by decide +kernel
theorem dX12_turned_5 : decode cX12_turned 5 = .ok (.imul, 1) := by decide +kernel
theorem dX12_turned_6 : decode cX12_turned 6 = .ok (.invokevirtual 386, 3) := by decide +kernel
theorem dX12_turned_9 : decode cX12_turned 9 = .ok (.iconst 1, 1) := by decide +kernel
theorem dX12_turned_10 : decode cX12_turned 10 = .ok (.if_icmp .eq 9, 3) := by decide +kernel
theorem dX12_turned_13 : decode cX12_turned 13 = .ok (.iinc 2 1, 3) := by decide +kernel
theorem dX12_turned_16 : decode cX12_turned 16 = .ok (.goto (-14), 3) := by decide +kernel
theorem dX12_turned_19 : decode cX12_turned 19 = .ok (.iload_n 2, 1) := by decide +kernel
theorem dX12_turned_20 : decode cX12_turned 20 = .ok (.ireturn, 1) := by decide +kernel
set_option maxRecDepth 20000 in
theorem ggX12_rowComes_X12_restOf : GoodIn wsX12_rowComes wsX12_restOf := goodIn_r _ [9, 10, 2, 15, 16, 17, 18, 19, 20, 21, 22, 23, 24, 25, 26, 27, 28, 29, 30, 31, 32, 33, 34, 35, 36, 37, 38, 39, 40, 41, 42, 43, 44, 45, 46, 47, 48, 49, 50, 51, 52, 53, 54, 55, 56, 57, 58, 59, 60, 61, 62, 63, 64, 65, 66, 67, 68, 69, 70, 71, 72, 73, 74, 75, 76, 77, 78, 79, 80, 81, 82, 83, 84, 85, 86, 87] (by decide +kernel) (by decide +kernel)
set_option maxRecDepth 20000 in
theorem gX12_rowComes_X12_restOf : GoodIn wsX12_rowComes (wsV RX12 386 RX12 yX12_restOf wsX12_restOf) := goodIn_app (goodIn_of _ (by decide +kernel)) ggX12_rowComes_X12_restOf
set_option maxRecDepth 20000 in
theorem ggX12_rowComes_X12_turned : GoodIn wsX12_rowComes wsX12_turned := goodIn_r _ [14, 5, 6, 7, 8, 9, 10, 2, 15, 16, 17, 18, 19, 20, 21, 22, 23, 24, 25, 26, 27, 28, 29, 30, 31, 32, 33, 34, 35, 36, 37, 38, 39, 40, 41, 42, 43, 44, 45, 46, 47, 48, 49, 50, 51, 52, 53, 54, 55, 56, 57, 58, 59, 60, 61, 62, 63, 64, 65, 66, 67, 68, 69, 70, 71, 72, 73, 74, 75, 76, 77, 78, 79, 80, 81, 82, 83, 84, 85, 86, 87] (by decide +kernel) (by decide +kernel)
set_option maxRecDepth 20000 in
theorem gX12_rowComes_X12_turned : GoodIn wsX12_rowComes (wsV RX12 483 RX12 yX12_turned wsX12_turned) := goodIn_app (goodIn_of _ (by decide +kernel)) ggX12_rowComes_X12_turned
theorem dX12_rowComes_0 : decode cX12_rowComes 0 = .ok (.iconst 0, 1) := by decide +kernel
theorem dX12_rowComes_1 : decode cX12_rowComes 1 = .ok (.istore_n 3, 1) := by decide +kernel
theorem dX12_rowComes_2 : decode cX12_rowComes 2 = .ok (.iconst 0, 1) := by decide +kernel
theorem dX12_rowComes_3 : decode cX12_rowComes 3 = .ok (.istore 4, 2) := by decide +kernel
theorem dX12_rowComes_5 : decode cX12_rowComes 5 = .ok (.iload 4, 2) := by decide +kernel
theorem dX12_rowComes_7 : decode cX12_rowComes 7 = .ok (.aload_n 0, 1) := by decide +kernel
theorem dX12_rowComes_8 : decode cX12_rowComes 8 = .ok (.getfield 55, 3) := by decide +kernel
theorem dX12_rowComes_11 : decode cX12_rowComes 11 = .ok (.aload_n 0, 1) := by decide +kernel
theorem dX12_rowComes_12 : decode cX12_rowComes 12 = .ok (.getfield 243, 3) := by decide +kernel
theorem dX12_rowComes_15 : decode cX12_rowComes 15 = .ok (.iaload, 1) := by decide +kernel
theorem dX12_rowComes_16 : decode cX12_rowComes 16 = .ok (.if_icmp .ge 171, 3) := by decide +kernel
theorem dX12_rowComes_19 : decode cX12_rowComes 19 = .ok (.iload_n 1, 1) := by decide +kernel
theorem dX12_rowComes_20 : decode cX12_rowComes 20 = .ok (.iload 4, 2) := by decide +kernel
theorem dX12_rowComes_22 : decode cX12_rowComes 22 = .ok (.ishr, 1) := by decide +kernel
theorem dX12_rowComes_23 : decode cX12_rowComes 23 = .ok (.iconst 1, 1) := by decide +kernel
theorem dX12_rowComes_24 : decode cX12_rowComes 24 = .ok (.iand, 1) := by decide +kernel
theorem dX12_rowComes_25 : decode cX12_rowComes 25 = .ok (.ifCond .ne 6, 3) := by decide +kernel
theorem dX12_rowComes_28 : decode cX12_rowComes 28 = .ok (.goto 153, 3) := by decide +kernel
theorem dX12_rowComes_31 : decode cX12_rowComes 31 = .ok (.aload_n 0, 1) := by decide +kernel
theorem dX12_rowComes_32 : decode cX12_rowComes 32 = .ok (.aload_n 0, 1) := by decide +kernel
theorem dX12_rowComes_33 : decode cX12_rowComes 33 = .ok (.getfield 61, 3) := by decide +kernel
theorem dX12_rowComes_36 : decode cX12_rowComes 36 = .ok (.bipush 8, 2) := by decide +kernel
theorem dX12_rowComes_38 : decode cX12_rowComes 38 = .ok (.aload_n 0, 1) := by decide +kernel
theorem dX12_rowComes_39 : decode cX12_rowComes 39 = .ok (.getfield 243, 3) := by decide +kernel
theorem dX12_rowComes_42 : decode cX12_rowComes 42 = .ok (.imul, 1) := by decide +kernel
theorem dX12_rowComes_43 : decode cX12_rowComes 43 = .ok (.iload 4, 2) := by decide +kernel
theorem dX12_rowComes_45 : decode cX12_rowComes 45 = .ok (.iadd, 1) := by decide +kernel
theorem dX12_rowComes_46 : decode cX12_rowComes 46 = .ok (.iaload, 1) := by decide +kernel
theorem dX12_rowComes_47 : decode cX12_rowComes 47 = .ok (.invokevirtual 386, 3) := by decide +kernel
theorem dX12_rowComes_50 : decode cX12_rowComes 50 = .ok (.istore 5, 2) := by decide +kernel
theorem dX12_rowComes_52 : decode cX12_rowComes 52 = .ok (.iconst 0, 1) := by decide +kernel
theorem dX12_rowComes_53 : decode cX12_rowComes 53 = .ok (.istore 6, 2) := by decide +kernel
theorem dX12_rowComes_55 : decode cX12_rowComes 55 = .ok (.iload 6, 2) := by decide +kernel
theorem dX12_rowComes_57 : decode cX12_rowComes 57 = .ok (.aload_n 0, 1) := by decide +kernel
theorem dX12_rowComes_58 : decode cX12_rowComes 58 = .ok (.getfield 55, 3) := by decide +kernel
theorem dX12_rowComes_61 : decode cX12_rowComes 61 = .ok (.aload_n 0, 1) := by decide +kernel
theorem dX12_rowComes_62 : decode cX12_rowComes 62 = .ok (.getfield 243, 3) := by decide +kernel
theorem dX12_rowComes_65 : decode cX12_rowComes 65 = .ok (.iaload, 1) := by decide +kernel
theorem dX12_rowComes_66 : decode cX12_rowComes 66 = .ok (.if_icmp .ge 106, 3) := by decide +kernel
theorem dX12_rowComes_69 : decode cX12_rowComes 69 = .ok (.iload 6, 2) := by decide +kernel
theorem dX12_rowComes_71 : decode cX12_rowComes 71 = .ok (.iload 4, 2) := by decide +kernel
theorem dX12_rowComes_73 : decode cX12_rowComes 73 = .ok (.if_icmp .eq 93, 3) := by decide +kernel
theorem dX12_rowComes_76 : decode cX12_rowComes 76 = .ok (.iload_n 1, 1) := by decide +kernel
theorem dX12_rowComes_77 : decode cX12_rowComes 77 = .ok (.iload 6, 2) := by decide +kernel
theorem dX12_rowComes_79 : decode cX12_rowComes 79 = .ok (.ishr, 1) := by decide +kernel
theorem dX12_rowComes_80 : decode cX12_rowComes 80 = .ok (.iconst 1, 1) := by decide +kernel
theorem dX12_rowComes_81 : decode cX12_rowComes 81 = .ok (.iand, 1) := by decide +kernel
theorem dX12_rowComes_82 : decode cX12_rowComes 82 = .ok (.ifCond .ne 6, 3) := by decide +kernel
theorem dX12_rowComes_85 : decode cX12_rowComes 85 = .ok (.goto 81, 3) := by decide +kernel
theorem dX12_rowComes_88 : decode cX12_rowComes 88 = .ok (.aload_n 0, 1) := by decide +kernel
theorem dX12_rowComes_89 : decode cX12_rowComes 89 = .ok (.iload 5, 2) := by decide +kernel
theorem dX12_rowComes_91 : decode cX12_rowComes 91 = .ok (.aload_n 0, 1) := by decide +kernel
theorem dX12_rowComes_92 : decode cX12_rowComes 92 = .ok (.iload_n 2, 1) := by decide +kernel
theorem dX12_rowComes_93 : decode cX12_rowComes 93 = .ok (.aload_n 0, 1) := by decide +kernel
theorem dX12_rowComes_94 : decode cX12_rowComes 94 = .ok (.getfield 58, 3) := by decide +kernel
theorem dX12_rowComes_97 : decode cX12_rowComes 97 = .ok (.bipush 8, 2) := by decide +kernel
theorem dX12_rowComes_99 : decode cX12_rowComes 99 = .ok (.aload_n 0, 1) := by decide +kernel
theorem dX12_rowComes_100 : decode cX12_rowComes 100 = .ok (.getfield 243, 3) := by decide +kernel
theorem dX12_rowComes_103 : decode cX12_rowComes 103 = .ok (.imul, 1) := by decide +kernel
theorem dX12_rowComes_104 : decode cX12_rowComes 104 = .ok (.iload 6, 2) := by decide +kernel
theorem dX12_rowComes_106 : decode cX12_rowComes 106 = .ok (.iadd, 1) := by decide +kernel
theorem dX12_rowComes_107 : decode cX12_rowComes 107 = .ok (.iaload, 1) := by decide +kernel
theorem dX12_rowComes_108 : decode cX12_rowComes 108 = .ok (.isub, 1) := by decide +kernel
theorem dX12_rowComes_109 : decode cX12_rowComes 109 = .ok (.invokevirtual 386, 3) := by decide +kernel
theorem dX12_rowComes_112 : decode cX12_rowComes 112 = .ok (.imul, 1) := by decide +kernel
theorem dX12_rowComes_113 : decode cX12_rowComes 113 = .ok (.invokevirtual 386, 3) := by decide +kernel
theorem dX12_rowComes_116 : decode cX12_rowComes 116 = .ok (.istore 5, 2) := by decide +kernel
theorem dX12_rowComes_118 : decode cX12_rowComes 118 = .ok (.aload_n 0, 1) := by decide +kernel
theorem dX12_rowComes_119 : decode cX12_rowComes 119 = .ok (.iload 5, 2) := by decide +kernel
theorem dX12_rowComes_121 : decode cX12_rowComes 121 = .ok (.aload_n 0, 1) := by decide +kernel
theorem dX12_rowComes_122 : decode cX12_rowComes 122 = .ok (.aload_n 0, 1) := by decide +kernel
theorem dX12_rowComes_123 : decode cX12_rowComes 123 = .ok (.aload_n 0, 1) := by decide +kernel
theorem dX12_rowComes_124 : decode cX12_rowComes 124 = .ok (.getfield 58, 3) := by decide +kernel
theorem dX12_rowComes_127 : decode cX12_rowComes 127 = .ok (.bipush 8, 2) := by decide +kernel
theorem dX12_rowComes_129 : decode cX12_rowComes 129 = .ok (.aload_n 0, 1) := by decide +kernel
theorem dX12_rowComes_130 : decode cX12_rowComes 130 = .ok (.getfield 243, 3) := by decide +kernel
theorem dX12_rowComes_133 : decode cX12_rowComes 133 = .ok (.imul, 1) := by decide +kernel
theorem dX12_rowComes_134 : decode cX12_rowComes 134 = .ok (.iload 4, 2) := by decide +kernel
theorem dX12_rowComes_136 : decode cX12_rowComes 136 = .ok (.iadd, 1) := by decide +kernel
theorem dX12_rowComes_137 : decode cX12_rowComes 137 = .ok (.iaload, 1) := by decide +kernel
theorem dX12_rowComes_138 : decode cX12_rowComes 138 = .ok (.aload_n 0, 1) := by decide +kernel
theorem dX12_rowComes_139 : decode cX12_rowComes 139 = .ok (.getfield 58, 3) := by decide +kernel
theorem dX12_rowComes_142 : decode cX12_rowComes 142 = .ok (.bipush 8, 2) := by decide +kernel
theorem dX12_rowComes_144 : decode cX12_rowComes 144 = .ok (.aload_n 0, 1) := by decide +kernel
theorem dX12_rowComes_145 : decode cX12_rowComes 145 = .ok (.getfield 243, 3) := by decide +kernel
theorem dX12_rowComes_148 : decode cX12_rowComes 148 = .ok (.imul, 1) := by decide +kernel
theorem dX12_rowComes_149 : decode cX12_rowComes 149 = .ok (.iload 6, 2) := by decide +kernel
theorem dX12_rowComes_151 : decode cX12_rowComes 151 = .ok (.iadd, 1) := by decide +kernel
theorem dX12_rowComes_152 : decode cX12_rowComes 152 = .ok (.iaload, 1) := by decide +kernel
theorem dX12_rowComes_153 : decode cX12_rowComes 153 = .ok (.isub, 1) := by decide +kernel
theorem dX12_rowComes_154 : decode cX12_rowComes 154 = .ok (.invokevirtual 386, 3) := by decide +kernel
theorem dX12_rowComes_157 : decode cX12_rowComes 157 = .ok (.invokevirtual 483, 3) := by decide +kernel
theorem dX12_rowComes_160 : decode cX12_rowComes 160 = .ok (.imul, 1) := by decide +kernel
theorem dX12_rowComes_161 : decode cX12_rowComes 161 = .ok (.invokevirtual 386, 3) := by decide +kernel
theorem dX12_rowComes_164 : decode cX12_rowComes 164 = .ok (.istore 5, 2) := by decide +kernel
theorem dX12_rowComes_166 : decode cX12_rowComes 166 = .ok (.iinc 6 1, 3) := by decide +kernel
theorem dX12_rowComes_169 : decode cX12_rowComes 169 = .ok (.goto (-114), 3) := by decide +kernel
theorem dX12_rowComes_172 : decode cX12_rowComes 172 = .ok (.aload_n 0, 1) := by decide +kernel
theorem dX12_rowComes_173 : decode cX12_rowComes 173 = .ok (.iload_n 3, 1) := by decide +kernel
theorem dX12_rowComes_174 : decode cX12_rowComes 174 = .ok (.iload 5, 2) := by decide +kernel
theorem dX12_rowComes_176 : decode cX12_rowComes 176 = .ok (.iadd, 1) := by decide +kernel
theorem dX12_rowComes_177 : decode cX12_rowComes 177 = .ok (.invokevirtual 386, 3) := by decide +kernel
theorem dX12_rowComes_180 : decode cX12_rowComes 180 = .ok (.istore_n 3, 1) := by decide +kernel
theorem dX12_rowComes_181 : decode cX12_rowComes 181 = .ok (.iinc 4 1, 3) := by decide +kernel
theorem dX12_rowComes_184 : decode cX12_rowComes 184 = .ok (.goto (-179), 3) := by decide +kernel
theorem dX12_rowComes_187 : decode cX12_rowComes 187 = .ok (.iload_n 3, 1) := by decide +kernel
theorem dX12_rowComes_188 : decode cX12_rowComes 188 = .ok (.ireturn, 1) := by decide +kernel
set_option maxRecDepth 20000 in
theorem ggX12_isSet_X12_in : GoodIn wsX12_isSet wsX12_in := goodIn_r _ [6] (by decide +kernel) (by decide +kernel)
set_option maxRecDepth 20000 in
theorem gX12_isSet_X12_in : GoodIn wsX12_isSet (va_wsS RX12 332 yX12_in wsX12_in) := goodIn_app (goodIn_of _ (by decide +kernel)) ggX12_isSet_X12_in
set_option maxRecDepth 20000 in
theorem ggX12_isSet_X12_bits : GoodIn wsX12_isSet wsX12_bits := goodIn_r _ [9] (by decide +kernel) (by decide +kernel)
set_option maxRecDepth 20000 in
theorem gX12_isSet_X12_bits : GoodIn wsX12_isSet (va_wsS RX12 486 yX12_bits wsX12_bits) := goodIn_app (goodIn_of _ (by decide +kernel)) ggX12_isSet_X12_bits
theorem dX12_isSet_0 : decode cX12_isSet 0 = .ok (.iload_n 1, 1) := by decide +kernel
theorem dX12_isSet_1 : decode cX12_isSet 1 = .ok (.i2l, 1) := by decide +kernel
theorem dX12_isSet_2 : decode cX12_isSet 2 = .ok (.lconst 1, 1) := by decide +kernel
theorem dX12_isSet_3 : decode cX12_isSet 3 = .ok (.iconst 1, 1) := by decide +kernel
theorem dX12_isSet_4 : decode cX12_isSet 4 = .ok (.aload_n 0, 1) := by decide +kernel
theorem dX12_isSet_5 : decode cX12_isSet 5 = .ok (.getfield 55, 3) := by decide +kernel
theorem dX12_isSet_8 : decode cX12_isSet 8 = .ok (.aload_n 0, 1) := by decide +kernel
theorem dX12_isSet_9 : decode cX12_isSet 9 = .ok (.getfield 243, 3) := by decide +kernel
theorem dX12_isSet_12 : decode cX12_isSet 12 = .ok (.iaload, 1) := by decide +kernel
theorem dX12_isSet_13 : decode cX12_isSet 13 = .ok (.ishl, 1) := by decide +kernel
theorem dX12_isSet_14 : decode cX12_isSet 14 = .ok (.iconst 1, 1) := by decide +kernel
theorem dX12_isSet_15 : decode cX12_isSet 15 = .ok (.isub, 1) := by decide +kernel
theorem dX12_isSet_16 : decode cX12_isSet 16 = .ok (.i2l, 1) := by decide +kernel
theorem dX12_isSet_17 : decode cX12_isSet 17 = .ok (.invokestatic 332, 3) := by decide +kernel
theorem dX12_isSet_20 : decode cX12_isSet 20 = .ok (.ifCond .eq 16, 3) := by decide +kernel
theorem dX12_isSet_23 : decode cX12_isSet 23 = .ok (.iload_n 1, 1) := by decide +kernel
theorem dX12_isSet_24 : decode cX12_isSet 24 = .ok (.invokestatic 486, 3) := by decide +kernel
theorem dX12_isSet_27 : decode cX12_isSet 27 = .ok (.bipush 7, 2) := by decide +kernel
theorem dX12_isSet_29 : decode cX12_isSet 29 = .ok (.if_icmp .ge 7, 3) := by decide +kernel
theorem dX12_isSet_32 : decode cX12_isSet 32 = .ok (.iconst 1, 1) := by decide +kernel
theorem dX12_isSet_33 : decode cX12_isSet 33 = .ok (.goto 4, 3) := by decide +kernel
theorem dX12_isSet_36 : decode cX12_isSet 36 = .ok (.iconst 0, 1) := by decide +kernel
theorem dX12_isSet_37 : decode cX12_isSet 37 = .ok (.ireturn, 1) := by decide +kernel
set_option maxRecDepth 20000 in
theorem ggX12_secret_X12_isSet : GoodIn wsX12_secret wsX12_isSet := goodIn_r _ [5, 6, 7, 8, 9, 4, 10, 11, 12, 13, 29, 30, 31, 32, 33, 34, 35, 36, 37, 38, 39, 40, 41, 42, 43, 44, 45, 46, 47, 48, 49, 50, 51, 52, 53, 54, 55, 56, 57, 58, 59, 60, 61, 62, 63, 64, 65, 66, 67, 68, 69, 70, 71, 72, 73, 74, 75, 76, 77, 78, 79, 80, 81, 82, 83, 84, 85, 86, 87, 88, 89, 90, 91, 92, 93, 94, 95, 96, 97, 98, 99, 100, 101] (by decide +kernel) (by decide +kernel)
set_option maxRecDepth 20000 in
theorem gX12_secret_X12_isSet : GoodIn wsX12_secret (wsV RX12 489 RX12 yX12_isSet wsX12_isSet) := goodIn_app (goodIn_of _ (by decide +kernel)) ggX12_secret_X12_isSet
set_option maxRecDepth 20000 in
theorem ggX12_secret_X12_rowComes : GoodIn wsX12_secret wsX12_rowComes := goodIn_r _ [17, 6, 7, 18, 19, 20, 21, 22, 4, 23, 24, 25, 26, 27, 28, 29, 30, 31, 32, 33, 34, 35, 36, 37, 38, 39, 40, 41, 42, 43, 44, 45, 46, 47, 48, 49, 50, 51, 52, 53, 54, 55, 56, 57, 58, 59, 60, 61, 62, 63, 64, 65, 66, 67, 68, 69, 70, 71, 72, 73, 74, 75, 76, 77, 78, 79, 80, 81, 82, 83, 84, 85, 86, 87, 88, 89, 90, 91, 92, 93, 94, 95, 96, 97, 98, 99, 100, 101] (by decide +kernel) (by decide +kernel)
set_option maxRecDepth 20000 in
theorem gX12_secret_X12_rowComes : GoodIn wsX12_secret (wsV RX12 492 RX12 yX12_rowComes wsX12_rowComes) := goodIn_app (goodIn_of _ (by decide +kernel)) ggX12_secret_X12_rowComes
theorem dX12_secret_0 : decode cX12_secret 0 = .ok (.aload_n 0, 1) := by decide +kernel
theorem dX12_secret_1 : decode cX12_secret 1 = .ok (.iload_n 1, 1) := by decide +kernel
theorem dX12_secret_2 : decode cX12_secret 2 = .ok (.invokevirtual 489, 3) := by decide +kernel
theorem dX12_secret_5 : decode cX12_secret 5 = .ok (.ifCond .eq 12, 3) := by decide +kernel
theorem dX12_secret_8 : decode cX12_secret 8 = .ok (.aload_n 0, 1) := by decide +kernel
theorem dX12_secret_9 : decode cX12_secret 9 = .ok (.iload_n 1, 1) := by decide +kernel
theorem dX12_secret_10 : decode cX12_secret 10 = .ok (.iconst 0, 1) := by decide +kernel
theorem dX12_secret_11 : decode cX12_secret 11 = .ok (.invokevirtual 492, 3) := by decide +kernel
theorem dX12_secret_14 : decode cX12_secret 14 = .ok (.goto 4, 3) := by decide +kernel
theorem dX12_secret_17 : decode cX12_secret 17 = .ok (.iconst (-1), 1) := by decide +kernel
theorem dX12_secret_18 : decode cX12_secret 18 = .ok (.ireturn, 1) := by decide +kernel
set_option maxRecDepth 20000 in
theorem ggX12_shared_X12_isSet : GoodIn wsX12_shared wsX12_isSet := goodIn_r _ [6, 7, 8, 9, 10, 5, 11, 12, 13, 14, 30, 31, 32, 33, 34, 35, 36, 37, 38, 39, 40, 41, 42, 43, 44, 45, 46, 47, 48, 49, 50, 51, 52, 53, 54, 55, 56, 57, 58, 59, 60, 61, 62, 63, 64, 65, 66, 67, 68, 69, 70, 71, 72, 73, 74, 75, 76, 77, 78, 79, 80, 81, 82, 83, 84, 85, 86, 87, 88, 89, 90, 91, 92, 93, 94, 95, 96, 97, 98, 99, 100, 101, 102] (by decide +kernel) (by decide +kernel)
set_option maxRecDepth 20000 in
theorem gX12_shared_X12_isSet : GoodIn wsX12_shared (wsV RX12 489 RX12 yX12_isSet wsX12_isSet) := goodIn_app (goodIn_of _ (by decide +kernel)) ggX12_shared_X12_isSet
set_option maxRecDepth 20000 in
theorem ggX12_shared_X12_in : GoodIn wsX12_shared wsX12_in := goodIn_r _ [11] (by decide +kernel) (by decide +kernel)
set_option maxRecDepth 20000 in
theorem gX12_shared_X12_in : GoodIn wsX12_shared (va_wsS RX12 332 yX12_in wsX12_in) := goodIn_app (goodIn_of _ (by decide +kernel)) ggX12_shared_X12_in
set_option maxRecDepth 20000 in
theorem ggX12_shared_X12_rowComes : GoodIn wsX12_shared wsX12_rowComes := goodIn_r _ [18, 7, 8, 19, 20, 21, 22, 23, 5, 24, 25, 26, 27, 28, 29, 30, 31, 32, 33, 34, 35, 36, 37, 38, 39, 40, 41, 42, 43, 44, 45, 46, 47, 48, 49, 50, 51, 52, 53, 54, 55, 56, 57, 58, 59, 60, 61, 62, 63, 64, 65, 66, 67, 68, 69, 70, 71, 72, 73, 74, 75, 76, 77, 78, 79, 80, 81, 82, 83, 84, 85, 86, 87, 88, 89, 90, 91, 92, 93, 94, 95, 96, 97, 98, 99, 100, 101, 102] (by decide +kernel) (by decide +kernel)
set_option maxRecDepth 20000 in
theorem gX12_shared_X12_rowComes : GoodIn wsX12_shared (wsV RX12 492 RX12 yX12_rowComes wsX12_rowComes) := goodIn_app (goodIn_of _ (by decide +kernel)) ggX12_shared_X12_rowComes
theorem dX12_shared_0 : decode cX12_shared 0 = .ok (.aload_n 0, 1) := by decide +kernel
theorem dX12_shared_1 : decode cX12_shared 1 = .ok (.iload_n 1, 1) := by decide +kernel
theorem dX12_shared_2 : decode cX12_shared 2 = .ok (.invokevirtual 489, 3) := by decide +kernel
theorem dX12_shared_5 : decode cX12_shared 5 = .ok (.ifCond .eq 24, 3) := by decide +kernel
theorem dX12_shared_8 : decode cX12_shared 8 = .ok (.iload_n 2, 1) := by decide +kernel
theorem dX12_shared_9 : decode cX12_shared 9 = .ok (.i2l, 1) := by decide +kernel
theorem dX12_shared_10 : decode cX12_shared 10 = .ok (.lconst 0, 1) := by decide +kernel
theorem dX12_shared_11 : decode cX12_shared 11 = .ok (.ldc2_w 389, 3) := by decide +kernel
theorem dX12_shared_14 : decode cX12_shared 14 = .ok (.invokestatic 332, 3) := by decide +kernel
theorem dX12_shared_17 : decode cX12_shared 17 = .ok (.ifCond .eq 12, 3) := by decide +kernel
theorem dX12_shared_20 : decode cX12_shared 20 = .ok (.aload_n 0, 1) := by decide +kernel
theorem dX12_shared_21 : decode cX12_shared 21 = .ok (.iload_n 1, 1) := by decide +kernel
theorem dX12_shared_22 : decode cX12_shared 22 = .ok (.iload_n 2, 1) := by decide +kernel
theorem dX12_shared_23 : decode cX12_shared 23 = .ok (.invokevirtual 492, 3) := by decide +kernel
theorem dX12_shared_26 : decode cX12_shared 26 = .ok (.goto 4, 3) := by decide +kernel
theorem dX12_shared_29 : decode cX12_shared 29 = .ok (.iconst (-1), 1) := by decide +kernel
theorem dX12_shared_30 : decode cX12_shared 30 = .ok (.ireturn, 1) := by decide +kernel
set_option maxRecDepth 20000 in
theorem ggX12_fillsRow_X12_restOf : GoodIn wsX12_fillsRow wsX12_restOf := goodIn_r _ [11, 12, 3, 17, 18, 19, 20, 21, 22, 23, 24, 25, 26, 27, 28, 29, 30, 31, 32, 33, 34, 35, 36, 37, 38, 39, 40, 41, 42, 43, 44, 45, 46, 47, 48, 49, 50, 51, 52, 53, 54, 55, 56, 57, 58, 59, 60, 61, 62, 63, 64, 65, 66, 67, 68, 69, 70, 71, 72, 73, 74, 75, 76, 77, 78, 79, 80, 81, 82, 83, 84, 85, 86, 87, 88, 89] (by decide +kernel) (by decide +kernel)
set_option maxRecDepth 20000 in
theorem gX12_fillsRow_X12_restOf : GoodIn wsX12_fillsRow (wsV RX12 386 RX12 yX12_restOf wsX12_restOf) := goodIn_app (goodIn_of _ (by decide +kernel)) ggX12_fillsRow_X12_restOf
set_option maxRecDepth 20000 in
theorem ggX12_fillsRow_X12_turned : GoodIn wsX12_fillsRow wsX12_turned := goodIn_r _ [16, 7, 8, 9, 10, 11, 12, 3, 17, 18, 19, 20, 21, 22, 23, 24, 25, 26, 27, 28, 29, 30, 31, 32, 33, 34, 35, 36, 37, 38, 39, 40, 41, 42, 43, 44, 45, 46, 47, 48, 49, 50, 51, 52, 53, 54, 55, 56, 57, 58, 59, 60, 61, 62, 63, 64, 65, 66, 67, 68, 69, 70, 71, 72, 73, 74, 75, 76, 77, 78, 79, 80, 81, 82, 83, 84, 85, 86, 87, 88, 89] (by decide +kernel) (by decide +kernel)
set_option maxRecDepth 20000 in
theorem gX12_fillsRow_X12_turned : GoodIn wsX12_fillsRow (wsV RX12 483 RX12 yX12_turned wsX12_turned) := goodIn_app (goodIn_of _ (by decide +kernel)) ggX12_fillsRow_X12_turned
theorem dX12_fillsRow_0 : decode cX12_fillsRow 0 = .ok (.iconst 0, 1) := by decide +kernel
theorem dX12_fillsRow_1 : decode cX12_fillsRow 1 = .ok (.istore_n 2, 1) := by decide +kernel
theorem dX12_fillsRow_2 : decode cX12_fillsRow 2 = .ok (.iload_n 2, 1) := by decide +kernel
theorem dX12_fillsRow_3 : decode cX12_fillsRow 3 = .ok (.bipush 6, 2) := by decide +kernel
theorem dX12_fillsRow_5 : decode cX12_fillsRow 5 = .ok (.if_icmp .ge 16, 3) := by decide +kernel
theorem dX12_fillsRow_8 : decode cX12_fillsRow 8 = .ok (.aload_n 0, 1) := by decide +kernel
theorem dX12_fillsRow_9 : decode cX12_fillsRow 9 = .ok (.getfield 150, 3) := by decide +kernel
theorem dX12_fillsRow_12 : decode cX12_fillsRow 12 = .ok (.iload_n 2, 1) := by decide +kernel
theorem dX12_fillsRow_13 : decode cX12_fillsRow 13 = .ok (.iconst 0, 1) := by decide +kernel
theorem dX12_fillsRow_14 : decode cX12_fillsRow 14 = .ok (.iastore, 1) := by decide +kernel
theorem dX12_fillsRow_15 : decode cX12_fillsRow 15 = .ok (.iinc 2 1, 3) := by decide +kernel
theorem dX12_fillsRow_18 : decode cX12_fillsRow 18 = .ok (.goto (-16), 3) := by decide +kernel
theorem dX12_fillsRow_21 : decode cX12_fillsRow 21 = .ok (.iconst 0, 1) := by decide +kernel
theorem dX12_fillsRow_22 : decode cX12_fillsRow 22 = .ok (.istore_n 2, 1) := by decide +kernel
theorem dX12_fillsRow_23 : decode cX12_fillsRow 23 = .ok (.iload_n 2, 1) := by decide +kernel
theorem dX12_fillsRow_24 : decode cX12_fillsRow 24 = .ok (.aload_n 0, 1) := by decide +kernel
theorem dX12_fillsRow_25 : decode cX12_fillsRow 25 = .ok (.getfield 55, 3) := by decide +kernel
theorem dX12_fillsRow_28 : decode cX12_fillsRow 28 = .ok (.aload_n 0, 1) := by decide +kernel
theorem dX12_fillsRow_29 : decode cX12_fillsRow 29 = .ok (.getfield 243, 3) := by decide +kernel
theorem dX12_fillsRow_32 : decode cX12_fillsRow 32 = .ok (.iaload, 1) := by decide +kernel
theorem dX12_fillsRow_33 : decode cX12_fillsRow 33 = .ok (.if_icmp .ge 256, 3) := by decide +kernel
theorem dX12_fillsRow_36 : decode cX12_fillsRow 36 = .ok (.iload_n 1, 1) := by decide +kernel
theorem dX12_fillsRow_37 : decode cX12_fillsRow 37 = .ok (.iload_n 2, 1) := by decide +kernel
theorem dX12_fillsRow_38 : decode cX12_fillsRow 38 = .ok (.ishr, 1) := by decide +kernel
theorem dX12_fillsRow_39 : decode cX12_fillsRow 39 = .ok (.iconst 1, 1) := by decide +kernel
theorem dX12_fillsRow_40 : decode cX12_fillsRow 40 = .ok (.iand, 1) := by decide +kernel
theorem dX12_fillsRow_41 : decode cX12_fillsRow 41 = .ok (.ifCond .ne 6, 3) := by decide +kernel
theorem dX12_fillsRow_44 : decode cX12_fillsRow 44 = .ok (.goto 239, 3) := by decide +kernel
theorem dX12_fillsRow_47 : decode cX12_fillsRow 47 = .ok (.iconst 0, 1) := by decide +kernel
theorem dX12_fillsRow_48 : decode cX12_fillsRow 48 = .ok (.istore_n 3, 1) := by decide +kernel
theorem dX12_fillsRow_49 : decode cX12_fillsRow 49 = .ok (.aload_n 0, 1) := by decide +kernel
theorem dX12_fillsRow_50 : decode cX12_fillsRow 50 = .ok (.aload_n 0, 1) := by decide +kernel
theorem dX12_fillsRow_51 : decode cX12_fillsRow 51 = .ok (.getfield 61, 3) := by decide +kernel
theorem dX12_fillsRow_54 : decode cX12_fillsRow 54 = .ok (.bipush 8, 2) := by decide +kernel
theorem dX12_fillsRow_56 : decode cX12_fillsRow 56 = .ok (.aload_n 0, 1) := by decide +kernel
theorem dX12_fillsRow_57 : decode cX12_fillsRow 57 = .ok (.getfield 243, 3) := by decide +kernel
theorem dX12_fillsRow_60 : decode cX12_fillsRow 60 = .ok (.imul, 1) := by decide +kernel
theorem dX12_fillsRow_61 : decode cX12_fillsRow 61 = .ok (.iload_n 2, 1) := by decide +kernel
theorem dX12_fillsRow_62 : decode cX12_fillsRow 62 = .ok (.iadd, 1) := by decide +kernel
theorem dX12_fillsRow_63 : decode cX12_fillsRow 63 = .ok (.iaload, 1) := by decide +kernel
theorem dX12_fillsRow_64 : decode cX12_fillsRow 64 = .ok (.invokevirtual 386, 3) := by decide +kernel
theorem dX12_fillsRow_67 : decode cX12_fillsRow 67 = .ok (.istore 4, 2) := by decide +kernel
theorem dX12_fillsRow_69 : decode cX12_fillsRow 69 = .ok (.aload_n 0, 1) := by decide +kernel
theorem dX12_fillsRow_70 : decode cX12_fillsRow 70 = .ok (.getfield 153, 3) := by decide +kernel
theorem dX12_fillsRow_73 : decode cX12_fillsRow 73 = .ok (.iconst 0, 1) := by decide +kernel
theorem dX12_fillsRow_74 : decode cX12_fillsRow 74 = .ok (.iconst 1, 1) := by decide +kernel
theorem dX12_fillsRow_75 : decode cX12_fillsRow 75 = .ok (.iastore, 1) := by decide +kernel
theorem dX12_fillsRow_76 : decode cX12_fillsRow 76 = .ok (.iconst 0, 1) := by decide +kernel
theorem dX12_fillsRow_77 : decode cX12_fillsRow 77 = .ok (.istore 5, 2) := by decide +kernel
theorem dX12_fillsRow_79 : decode cX12_fillsRow 79 = .ok (.iload 5, 2) := by decide +kernel
theorem dX12_fillsRow_81 : decode cX12_fillsRow 81 = .ok (.aload_n 0, 1) := by decide +kernel
theorem dX12_fillsRow_82 : decode cX12_fillsRow 82 = .ok (.getfield 55, 3) := by decide +kernel
theorem dX12_fillsRow_85 : decode cX12_fillsRow 85 = .ok (.aload_n 0, 1) := by decide +kernel
theorem dX12_fillsRow_86 : decode cX12_fillsRow 86 = .ok (.getfield 243, 3) := by decide +kernel
theorem dX12_fillsRow_89 : decode cX12_fillsRow 89 = .ok (.iaload, 1) := by decide +kernel
theorem dX12_fillsRow_90 : decode cX12_fillsRow 90 = .ok (.if_icmp .ge 149, 3) := by decide +kernel
theorem dX12_fillsRow_93 : decode cX12_fillsRow 93 = .ok (.iload 5, 2) := by decide +kernel
theorem dX12_fillsRow_95 : decode cX12_fillsRow 95 = .ok (.iload_n 2, 1) := by decide +kernel
theorem dX12_fillsRow_96 : decode cX12_fillsRow 96 = .ok (.if_icmp .eq 137, 3) := by decide +kernel
theorem dX12_fillsRow_99 : decode cX12_fillsRow 99 = .ok (.iload_n 1, 1) := by decide +kernel
theorem dX12_fillsRow_100 : decode cX12_fillsRow 100 = .ok (.iload 5, 2) := by decide +kernel
theorem dX12_fillsRow_102 : decode cX12_fillsRow 102 = .ok (.ishr, 1) := by decide +kernel
theorem dX12_fillsRow_103 : decode cX12_fillsRow 103 = .ok (.iconst 1, 1) := by decide +kernel
theorem dX12_fillsRow_104 : decode cX12_fillsRow 104 = .ok (.iand, 1) := by decide +kernel
theorem dX12_fillsRow_105 : decode cX12_fillsRow 105 = .ok (.ifCond .ne 6, 3) := by decide +kernel
theorem dX12_fillsRow_108 : decode cX12_fillsRow 108 = .ok (.goto 125, 3) := by decide +kernel
theorem dX12_fillsRow_111 : decode cX12_fillsRow 111 = .ok (.aload_n 0, 1) := by decide +kernel
theorem dX12_fillsRow_112 : decode cX12_fillsRow 112 = .ok (.getfield 58, 3) := by decide +kernel
theorem dX12_fillsRow_115 : decode cX12_fillsRow 115 = .ok (.bipush 8, 2) := by decide +kernel
theorem dX12_fillsRow_117 : decode cX12_fillsRow 117 = .ok (.aload_n 0, 1) := by decide +kernel
theorem dX12_fillsRow_118 : decode cX12_fillsRow 118 = .ok (.getfield 243, 3) := by decide +kernel
theorem dX12_fillsRow_121 : decode cX12_fillsRow 121 = .ok (.imul, 1) := by decide +kernel
theorem dX12_fillsRow_122 : decode cX12_fillsRow 122 = .ok (.iload 5, 2) := by decide +kernel
theorem dX12_fillsRow_124 : decode cX12_fillsRow 124 = .ok (.iadd, 1) := by decide +kernel
theorem dX12_fillsRow_125 : decode cX12_fillsRow 125 = .ok (.iaload, 1) := by decide +kernel
theorem dX12_fillsRow_126 : decode cX12_fillsRow 126 = .ok (.istore 6, 2) := by decide +kernel
theorem dX12_fillsRow_128 : decode cX12_fillsRow 128 = .ok (.aload_n 0, 1) := by decide +kernel
theorem dX12_fillsRow_129 : decode cX12_fillsRow 129 = .ok (.iload 4, 2) := by decide +kernel
theorem dX12_fillsRow_131 : decode cX12_fillsRow 131 = .ok (.aload_n 0, 1) := by decide +kernel
theorem dX12_fillsRow_132 : decode cX12_fillsRow 132 = .ok (.aload_n 0, 1) := by decide +kernel
theorem dX12_fillsRow_133 : decode cX12_fillsRow 133 = .ok (.aload_n 0, 1) := by decide +kernel
theorem dX12_fillsRow_134 : decode cX12_fillsRow 134 = .ok (.getfield 58, 3) := by decide +kernel
theorem dX12_fillsRow_137 : decode cX12_fillsRow 137 = .ok (.bipush 8, 2) := by decide +kernel
theorem dX12_fillsRow_139 : decode cX12_fillsRow 139 = .ok (.aload_n 0, 1) := by decide +kernel
theorem dX12_fillsRow_140 : decode cX12_fillsRow 140 = .ok (.getfield 243, 3) := by decide +kernel
theorem dX12_fillsRow_143 : decode cX12_fillsRow 143 = .ok (.imul, 1) := by decide +kernel
theorem dX12_fillsRow_144 : decode cX12_fillsRow 144 = .ok (.iload_n 2, 1) := by decide +kernel
theorem dX12_fillsRow_145 : decode cX12_fillsRow 145 = .ok (.iadd, 1) := by decide +kernel
theorem dX12_fillsRow_146 : decode cX12_fillsRow 146 = .ok (.iaload, 1) := by decide +kernel
theorem dX12_fillsRow_147 : decode cX12_fillsRow 147 = .ok (.iload 6, 2) := by decide +kernel
theorem dX12_fillsRow_149 : decode cX12_fillsRow 149 = .ok (.isub, 1) := by decide +kernel
theorem dX12_fillsRow_150 : decode cX12_fillsRow 150 = .ok (.invokevirtual 386, 3) := by decide +kernel
theorem dX12_fillsRow_153 : decode cX12_fillsRow 153 = .ok (.invokevirtual 483, 3) := by decide +kernel
theorem dX12_fillsRow_156 : decode cX12_fillsRow 156 = .ok (.imul, 1) := by decide +kernel
theorem dX12_fillsRow_157 : decode cX12_fillsRow 157 = .ok (.invokevirtual 386, 3) := by decide +kernel
theorem dX12_fillsRow_160 : decode cX12_fillsRow 160 = .ok (.istore 4, 2) := by decide +kernel
theorem dX12_fillsRow_162 : decode cX12_fillsRow 162 = .ok (.aload_n 0, 1) := by decide +kernel
theorem dX12_fillsRow_163 : decode cX12_fillsRow 163 = .ok (.getfield 153, 3) := by decide +kernel
theorem dX12_fillsRow_166 : decode cX12_fillsRow 166 = .ok (.iload_n 3, 1) := by decide +kernel
theorem dX12_fillsRow_167 : decode cX12_fillsRow 167 = .ok (.iconst 1, 1) := by decide +kernel
theorem dX12_fillsRow_168 : decode cX12_fillsRow 168 = .ok (.iadd, 1) := by decide +kernel
theorem dX12_fillsRow_169 : decode cX12_fillsRow 169 = .ok (.aload_n 0, 1) := by decide +kernel
theorem dX12_fillsRow_170 : decode cX12_fillsRow 170 = .ok (.getfield 153, 3) := by decide +kernel
theorem dX12_fillsRow_173 : decode cX12_fillsRow 173 = .ok (.iload_n 3, 1) := by decide +kernel
theorem dX12_fillsRow_174 : decode cX12_fillsRow 174 = .ok (.iaload, 1) := by decide +kernel
theorem dX12_fillsRow_175 : decode cX12_fillsRow 175 = .ok (.iastore, 1) := by decide +kernel
theorem dX12_fillsRow_176 : decode cX12_fillsRow 176 = .ok (.iload_n 3, 1) := by decide +kernel
theorem dX12_fillsRow_177 : decode cX12_fillsRow 177 = .ok (.istore 7, 2) := by decide +kernel
theorem dX12_fillsRow_179 : decode cX12_fillsRow 179 = .ok (.iload 7, 2) := by decide +kernel
theorem dX12_fillsRow_181 : decode cX12_fillsRow 181 = .ok (.ifCond .lt 49, 3) := by decide +kernel
theorem dX12_fillsRow_184 : decode cX12_fillsRow 184 = .ok (.aload_n 0, 1) := by decide +kernel
theorem dX12_fillsRow_185 : decode cX12_fillsRow 185 = .ok (.getfield 153, 3) := by decide +kernel
theorem dX12_fillsRow_188 : decode cX12_fillsRow 188 = .ok (.iload 7, 2) := by decide +kernel
theorem dX12_fillsRow_190 : decode cX12_fillsRow 190 = .ok (.aload_n 0, 1) := by decide +kernel
theorem dX12_fillsRow_191 : decode cX12_fillsRow 191 = .ok (.iload 7, 2) := by decide +kernel
theorem dX12_fillsRow_193 : decode cX12_fillsRow 193 = .ok (.ifCond .le 15, 3) := by decide +kernel
theorem dX12_fillsRow_196 : decode cX12_fillsRow 196 = .ok (.aload_n 0, 1) := by decide +kernel
theorem dX12_fillsRow_197 : decode cX12_fillsRow 197 = .ok (.getfield 153, 3) := by decide +kernel
theorem dX12_fillsRow_200 : decode cX12_fillsRow 200 = .ok (.iload 7, 2) := by decide +kernel
theorem dX12_fillsRow_202 : decode cX12_fillsRow 202 = .ok (.iconst 1, 1) := by decide +kernel
theorem dX12_fillsRow_203 : decode cX12_fillsRow 203 = .ok (.isub, 1) := by decide +kernel
theorem dX12_fillsRow_204 : decode cX12_fillsRow 204 = .ok (.iaload, 1) := by decide +kernel
theorem dX12_fillsRow_205 : decode cX12_fillsRow 205 = .ok (.goto 4, 3) := by decide +kernel
theorem dX12_fillsRow_208 : decode cX12_fillsRow 208 = .ok (.iconst 0, 1) := by decide +kernel
theorem dX12_fillsRow_209 : decode cX12_fillsRow 209 = .ok (.iload 6, 2) := by decide +kernel
theorem dX12_fillsRow_211 : decode cX12_fillsRow 211 = .ok (.aload_n 0, 1) := by decide +kernel
theorem dX12_fillsRow_212 : decode cX12_fillsRow 212 = .ok (.getfield 153, 3) := by decide +kernel
theorem dX12_fillsRow_215 : decode cX12_fillsRow 215 = .ok (.iload 7, 2) := by decide +kernel
theorem dX12_fillsRow_217 : decode cX12_fillsRow 217 = .ok (.iaload, 1) := by decide +kernel
theorem dX12_fillsRow_218 : decode cX12_fillsRow 218 = .ok (.imul, 1) := by decide +kernel
theorem dX12_fillsRow_219 : decode cX12_fillsRow 219 = .ok (.isub, 1) := by decide +kernel
theorem dX12_fillsRow_220 : decode cX12_fillsRow 220 = .ok (.invokevirtual 386, 3) := by decide +kernel
theorem dX12_fillsRow_223 : decode cX12_fillsRow 223 = .ok (.iastore, 1) := by decide +kernel
theorem dX12_fillsRow_224 : decode cX12_fillsRow 224 = .ok (.iinc 7 (-1), 3) := by decide +kernel
theorem dX12_fillsRow_227 : decode cX12_fillsRow 227 = .ok (.goto (-48), 3) := by decide +kernel
theorem dX12_fillsRow_230 : decode cX12_fillsRow 230 = .ok (.iinc 3 1, 3) := by decide +kernel
theorem dX12_fillsRow_233 : decode cX12_fillsRow 233 = .ok (.iinc 5 1, 3) := by decide +kernel
theorem dX12_fillsRow_236 : decode cX12_fillsRow 236 = .ok (.goto (-157), 3) := by decide +kernel
theorem dX12_fillsRow_239 : decode cX12_fillsRow 239 = .ok (.iconst 0, 1) := by decide +kernel
theorem dX12_fillsRow_240 : decode cX12_fillsRow 240 = .ok (.istore 5, 2) := by decide +kernel
theorem dX12_fillsRow_242 : decode cX12_fillsRow 242 = .ok (.iload 5, 2) := by decide +kernel
theorem dX12_fillsRow_244 : decode cX12_fillsRow 244 = .ok (.iload_n 3, 1) := by decide +kernel
theorem dX12_fillsRow_245 : decode cX12_fillsRow 245 = .ok (.if_icmp .gt 38, 3) := by decide +kernel
theorem dX12_fillsRow_248 : decode cX12_fillsRow 248 = .ok (.aload_n 0, 1) := by decide +kernel
theorem dX12_fillsRow_249 : decode cX12_fillsRow 249 = .ok (.getfield 150, 3) := by decide +kernel
theorem dX12_fillsRow_252 : decode cX12_fillsRow 252 = .ok (.iload 5, 2) := by decide +kernel
theorem dX12_fillsRow_254 : decode cX12_fillsRow 254 = .ok (.aload_n 0, 1) := by decide +kernel
theorem dX12_fillsRow_255 : decode cX12_fillsRow 255 = .ok (.aload_n 0, 1) := by decide +kernel
theorem dX12_fillsRow_256 : decode cX12_fillsRow 256 = .ok (.getfield 150, 3) := by decide +kernel
theorem dX12_fillsRow_259 : decode cX12_fillsRow 259 = .ok (.iload 5, 2) := by decide +kernel
theorem dX12_fillsRow_261 : decode cX12_fillsRow 261 = .ok (.iaload, 1) := by decide +kernel
theorem dX12_fillsRow_262 : decode cX12_fillsRow 262 = .ok (.iload 4, 2) := by decide +kernel
theorem dX12_fillsRow_264 : decode cX12_fillsRow 264 = .ok (.aload_n 0, 1) := by decide +kernel
theorem dX12_fillsRow_265 : decode cX12_fillsRow 265 = .ok (.getfield 153, 3) := by decide +kernel
theorem dX12_fillsRow_268 : decode cX12_fillsRow 268 = .ok (.iload 5, 2) := by decide +kernel
theorem dX12_fillsRow_270 : decode cX12_fillsRow 270 = .ok (.iaload, 1) := by decide +kernel
theorem dX12_fillsRow_271 : decode cX12_fillsRow 271 = .ok (.imul, 1) := by decide +kernel
theorem dX12_fillsRow_272 : decode cX12_fillsRow 272 = .ok (.iadd, 1) := by decide +kernel
theorem dX12_fillsRow_273 : decode cX12_fillsRow 273 = .ok (.invokevirtual 386, 3) := by decide +kernel
theorem dX12_fillsRow_276 : decode cX12_fillsRow 276 = .ok (.iastore, 1) := by decide +kernel
theorem dX12_fillsRow_277 : decode cX12_fillsRow 277 = .ok (.iinc 5 1, 3) := by decide +kernel
theorem dX12_fillsRow_280 : decode cX12_fillsRow 280 = .ok (.goto (-38), 3) := by decide +kernel
theorem dX12_fillsRow_283 : decode cX12_fillsRow 283 = .ok (.iinc 2 1, 3) := by decide +kernel
theorem dX12_fillsRow_286 : decode cX12_fillsRow 286 = .ok (.goto (-263), 3) := by decide +kernel
theorem dX12_fillsRow_289 : decode cX12_fillsRow 289 = .ok (.return_, 1) := by decide +kernel
set_option maxRecDepth 20000 in
theorem ggX12_shareRow_X12_isSet : GoodIn wsX12_shareRow wsX12_isSet := goodIn_r _ [6, 7, 8, 9, 10, 5, 11, 12, 13, 14, 31, 32, 33, 34, 35, 36, 37, 38, 39, 40, 41, 42, 43, 44, 45, 46, 47, 48, 49, 50, 51, 52, 53, 54, 55, 56, 57, 58, 59, 60, 61, 62, 63, 64, 65, 66, 67, 68, 69, 70, 71, 72, 73, 74, 75, 76, 77, 78, 79, 80, 81, 82, 83, 84, 85, 86, 87, 88, 89, 90, 91, 92, 93, 94, 95, 96, 97, 98, 99, 100, 101, 102, 103] (by decide +kernel) (by decide +kernel)
set_option maxRecDepth 20000 in
theorem gX12_shareRow_X12_isSet : GoodIn wsX12_shareRow (wsV RX12 489 RX12 yX12_isSet wsX12_isSet) := goodIn_app (goodIn_of _ (by decide +kernel)) ggX12_shareRow_X12_isSet
set_option maxRecDepth 20000 in
theorem ggX12_shareRow_X12_bits : GoodIn wsX12_shareRow wsX12_bits := goodIn_r _ [14] (by decide +kernel) (by decide +kernel)
set_option maxRecDepth 20000 in
theorem gX12_shareRow_X12_bits : GoodIn wsX12_shareRow (va_wsS RX12 486 yX12_bits wsX12_bits) := goodIn_app (goodIn_of _ (by decide +kernel)) ggX12_shareRow_X12_bits
set_option maxRecDepth 20000 in
theorem ggX12_shareRow_X12_in : GoodIn wsX12_shareRow wsX12_in := goodIn_r _ [11] (by decide +kernel) (by decide +kernel)
set_option maxRecDepth 20000 in
theorem gX12_shareRow_X12_in : GoodIn wsX12_shareRow (va_wsS RX12 332 yX12_in wsX12_in) := goodIn_app (goodIn_of _ (by decide +kernel)) ggX12_shareRow_X12_in
set_option maxRecDepth 20000 in
theorem ggX12_shareRow_X12_fillsRow : GoodIn wsX12_shareRow wsX12_fillsRow := goodIn_r _ [18, 1, 7, 8, 19, 20, 21, 22, 23, 24, 5, 25, 26, 27, 28, 29, 30, 31, 32, 33, 34, 35, 36, 37, 38, 39, 40, 41, 42, 43, 44, 45, 46, 47, 48, 49, 50, 51, 52, 53, 54, 55, 56, 57, 58, 59, 60, 61, 62, 63, 64, 65, 66, 67, 68, 69, 70, 71, 72, 73, 74, 75, 76, 77, 78, 79, 80, 81, 82, 83, 84, 85, 86, 87, 88, 89, 90, 91, 92, 93, 94, 95, 96, 97, 98, 99, 100, 101, 102, 103] (by decide +kernel) (by decide +kernel)
set_option maxRecDepth 20000 in
theorem gX12_shareRow_X12_fillsRow : GoodIn wsX12_shareRow (wsV RX12 495 RX12 yX12_fillsRow wsX12_fillsRow) := goodIn_app (goodIn_of _ (by decide +kernel)) ggX12_shareRow_X12_fillsRow
theorem dX12_shareRow_0 : decode cX12_shareRow 0 = .ok (.aload_n 0, 1) := by decide +kernel
theorem dX12_shareRow_1 : decode cX12_shareRow 1 = .ok (.iload_n 1, 1) := by decide +kernel
theorem dX12_shareRow_2 : decode cX12_shareRow 2 = .ok (.invokevirtual 489, 3) := by decide +kernel
theorem dX12_shareRow_5 : decode cX12_shareRow 5 = .ok (.ifCond .eq 19, 3) := by decide +kernel
theorem dX12_shareRow_8 : decode cX12_shareRow 8 = .ok (.iload_n 2, 1) := by decide +kernel
theorem dX12_shareRow_9 : decode cX12_shareRow 9 = .ok (.i2l, 1) := by decide +kernel
theorem dX12_shareRow_10 : decode cX12_shareRow 10 = .ok (.lconst 0, 1) := by decide +kernel
theorem dX12_shareRow_11 : decode cX12_shareRow 11 = .ok (.iload_n 1, 1) := by decide +kernel
theorem dX12_shareRow_12 : decode cX12_shareRow 12 = .ok (.invokestatic 486, 3) := by decide +kernel
theorem dX12_shareRow_15 : decode cX12_shareRow 15 = .ok (.iconst 1, 1) := by decide +kernel
theorem dX12_shareRow_16 : decode cX12_shareRow 16 = .ok (.isub, 1) := by decide +kernel
theorem dX12_shareRow_17 : decode cX12_shareRow 17 = .ok (.i2l, 1) := by decide +kernel
theorem dX12_shareRow_18 : decode cX12_shareRow 18 = .ok (.invokestatic 332, 3) := by decide +kernel
theorem dX12_shareRow_21 : decode cX12_shareRow 21 = .ok (.ifCond .ne 5, 3) := by decide +kernel
theorem dX12_shareRow_24 : decode cX12_shareRow 24 = .ok (.iconst (-1), 1) := by decide +kernel
theorem dX12_shareRow_25 : decode cX12_shareRow 25 = .ok (.ireturn, 1) := by decide +kernel
theorem dX12_shareRow_26 : decode cX12_shareRow 26 = .ok (.aload_n 0, 1) := by decide +kernel
theorem dX12_shareRow_27 : decode cX12_shareRow 27 = .ok (.iload_n 1, 1) := by decide +kernel
theorem dX12_shareRow_28 : decode cX12_shareRow 28 = .ok (.invokevirtual 495, 3) := by decide +kernel
theorem dX12_shareRow_31 : decode cX12_shareRow 31 = .ok (.aload_n 0, 1) := by decide +kernel
theorem dX12_shareRow_32 : decode cX12_shareRow 32 = .ok (.getfield 150, 3) := by decide +kernel
theorem dX12_shareRow_35 : decode cX12_shareRow 35 = .ok (.iload_n 2, 1) := by decide +kernel
theorem dX12_shareRow_36 : decode cX12_shareRow 36 = .ok (.iaload, 1) := by decide +kernel
theorem dX12_shareRow_37 : decode cX12_shareRow 37 = .ok (.ireturn, 1) := by decide +kernel
set_option maxRecDepth 20000 in
theorem ggX12_wrong_X12_in : GoodIn wsX12_wrong wsX12_in := goodIn_r _ [9] (by decide +kernel) (by decide +kernel)
set_option maxRecDepth 20000 in
theorem gX12_wrong_X12_in : GoodIn wsX12_wrong (va_wsS RX12 332 yX12_in wsX12_in) := goodIn_app (goodIn_of _ (by decide +kernel)) ggX12_wrong_X12_in
set_option maxRecDepth 20000 in
theorem ggX12_wrong_X12_bits : GoodIn wsX12_wrong wsX12_bits := goodIn_r _ [12] (by decide +kernel) (by decide +kernel)
set_option maxRecDepth 20000 in
theorem gX12_wrong_X12_bits : GoodIn wsX12_wrong (va_wsS RX12 486 yX12_bits wsX12_bits) := goodIn_app (goodIn_of _ (by decide +kernel)) ggX12_wrong_X12_bits
set_option maxRecDepth 20000 in
theorem ggX12_wrong_X12_rowComes : GoodIn wsX12_wrong wsX12_rowComes := goodIn_r _ [16, 2, 3, 5, 4, 17, 18, 19, 8, 20, 21, 22, 23, 24, 25, 26, 27, 28, 29, 30, 31, 32, 33, 34, 35, 36, 37, 38, 39, 40, 41, 42, 43, 44, 45, 46, 47, 48, 49, 50, 51, 52, 53, 54, 55, 56, 57, 58, 59, 60, 61, 62, 63, 64, 65, 66, 67, 68, 69, 70, 71, 72, 73, 74, 75, 76, 77, 78, 79, 80, 81, 82, 83, 84, 85, 86, 87, 88, 89, 90, 91, 92, 93, 94, 95, 96, 97, 98] (by decide +kernel) (by decide +kernel)
set_option maxRecDepth 20000 in
theorem gX12_wrong_X12_rowComes : GoodIn wsX12_wrong (wsV RX12 492 RX12 yX12_rowComes wsX12_rowComes) := goodIn_app (goodIn_of _ (by decide +kernel)) ggX12_wrong_X12_rowComes
set_option maxRecDepth 20000 in
theorem ggX12_wrong_X12_restOf : GoodIn wsX12_wrong wsX12_restOf := goodIn_r _ [20, 21, 3, 26, 27, 28, 29, 30, 31, 32, 33, 34, 35, 36, 37, 38, 39, 40, 41, 42, 43, 44, 45, 46, 47, 48, 49, 50, 51, 52, 53, 54, 55, 56, 57, 58, 59, 60, 61, 62, 63, 64, 65, 66, 67, 68, 69, 70, 71, 72, 73, 74, 75, 76, 77, 78, 79, 80, 81, 82, 83, 84, 85, 86, 87, 88, 89, 90, 91, 92, 93, 94, 95, 96, 97, 98] (by decide +kernel) (by decide +kernel)
set_option maxRecDepth 20000 in
theorem gX12_wrong_X12_restOf : GoodIn wsX12_wrong (wsV RX12 386 RX12 yX12_restOf wsX12_restOf) := goodIn_app (goodIn_of _ (by decide +kernel)) ggX12_wrong_X12_restOf
theorem dX12_wrong_0 : decode cX12_wrong 0 = .ok (.iload_n 1, 1) := by decide +kernel
theorem dX12_wrong_1 : decode cX12_wrong 1 = .ok (.i2l, 1) := by decide +kernel
theorem dX12_wrong_2 : decode cX12_wrong 2 = .ok (.lconst 1, 1) := by decide +kernel
theorem dX12_wrong_3 : decode cX12_wrong 3 = .ok (.ldc2_w 376, 3) := by decide +kernel
theorem dX12_wrong_6 : decode cX12_wrong 6 = .ok (.invokestatic 332, 3) := by decide +kernel
theorem dX12_wrong_9 : decode cX12_wrong 9 = .ok (.ifCond .ne 5, 3) := by decide +kernel
theorem dX12_wrong_12 : decode cX12_wrong 12 = .ok (.iconst (-1), 1) := by decide +kernel
theorem dX12_wrong_13 : decode cX12_wrong 13 = .ok (.ireturn, 1) := by decide +kernel
theorem dX12_wrong_14 : decode cX12_wrong 14 = .ok (.aload_n 0, 1) := by decide +kernel
theorem dX12_wrong_15 : decode cX12_wrong 15 = .ok (.getfield 55, 3) := by decide +kernel
theorem dX12_wrong_18 : decode cX12_wrong 18 = .ok (.aload_n 0, 1) := by decide +kernel
theorem dX12_wrong_19 : decode cX12_wrong 19 = .ok (.getfield 243, 3) := by decide +kernel
theorem dX12_wrong_22 : decode cX12_wrong 22 = .ok (.iaload, 1) := by decide +kernel
theorem dX12_wrong_23 : decode cX12_wrong 23 = .ok (.iload_n 1, 1) := by decide +kernel
theorem dX12_wrong_24 : decode cX12_wrong 24 = .ok (.if_icmp .ge 6, 3) := by decide +kernel
theorem dX12_wrong_27 : decode cX12_wrong 27 = .ok (.bipush (-2), 2) := by decide +kernel
theorem dX12_wrong_29 : decode cX12_wrong 29 = .ok (.ireturn, 1) := by decide +kernel
theorem dX12_wrong_30 : decode cX12_wrong 30 = .ok (.bipush (-2), 2) := by decide +kernel
theorem dX12_wrong_32 : decode cX12_wrong 32 = .ok (.istore_n 2, 1) := by decide +kernel
theorem dX12_wrong_33 : decode cX12_wrong 33 = .ok (.iconst 1, 1) := by decide +kernel
theorem dX12_wrong_34 : decode cX12_wrong 34 = .ok (.istore_n 3, 1) := by decide +kernel
theorem dX12_wrong_35 : decode cX12_wrong 35 = .ok (.iload_n 3, 1) := by decide +kernel
theorem dX12_wrong_36 : decode cX12_wrong 36 = .ok (.iconst 1, 1) := by decide +kernel
theorem dX12_wrong_37 : decode cX12_wrong 37 = .ok (.aload_n 0, 1) := by decide +kernel
theorem dX12_wrong_38 : decode cX12_wrong 38 = .ok (.getfield 55, 3) := by decide +kernel
theorem dX12_wrong_41 : decode cX12_wrong 41 = .ok (.aload_n 0, 1) := by decide +kernel
theorem dX12_wrong_42 : decode cX12_wrong 42 = .ok (.getfield 243, 3) := by decide +kernel
theorem dX12_wrong_45 : decode cX12_wrong 45 = .ok (.iaload, 1) := by decide +kernel
theorem dX12_wrong_46 : decode cX12_wrong 46 = .ok (.ishl, 1) := by decide +kernel
theorem dX12_wrong_47 : decode cX12_wrong 47 = .ok (.if_icmp .ge 116, 3) := by decide +kernel
theorem dX12_wrong_50 : decode cX12_wrong 50 = .ok (.iload_n 3, 1) := by decide +kernel
theorem dX12_wrong_51 : decode cX12_wrong 51 = .ok (.invokestatic 486, 3) := by decide +kernel
theorem dX12_wrong_54 : decode cX12_wrong 54 = .ok (.iload_n 1, 1) := by decide +kernel
theorem dX12_wrong_55 : decode cX12_wrong 55 = .ok (.if_icmp .eq 6, 3) := by decide +kernel
theorem dX12_wrong_58 : decode cX12_wrong 58 = .ok (.goto 99, 3) := by decide +kernel
theorem dX12_wrong_61 : decode cX12_wrong 61 = .ok (.iconst 0, 1) := by decide +kernel
theorem dX12_wrong_62 : decode cX12_wrong 62 = .ok (.istore 4, 2) := by decide +kernel
theorem dX12_wrong_64 : decode cX12_wrong 64 = .ok (.iconst 0, 1) := by decide +kernel
theorem dX12_wrong_65 : decode cX12_wrong 65 = .ok (.istore 5, 2) := by decide +kernel
theorem dX12_wrong_67 : decode cX12_wrong 67 = .ok (.iload 5, 2) := by decide +kernel
theorem dX12_wrong_69 : decode cX12_wrong 69 = .ok (.aload_n 0, 1) := by decide +kernel
theorem dX12_wrong_70 : decode cX12_wrong 70 = .ok (.getfield 55, 3) := by decide +kernel
theorem dX12_wrong_73 : decode cX12_wrong 73 = .ok (.aload_n 0, 1) := by decide +kernel
theorem dX12_wrong_74 : decode cX12_wrong 74 = .ok (.getfield 243, 3) := by decide +kernel
theorem dX12_wrong_77 : decode cX12_wrong 77 = .ok (.iaload, 1) := by decide +kernel
theorem dX12_wrong_78 : decode cX12_wrong 78 = .ok (.if_icmp .ge 60, 3) := by decide +kernel
theorem dX12_wrong_81 : decode cX12_wrong 81 = .ok (.aload_n 0, 1) := by decide +kernel
theorem dX12_wrong_82 : decode cX12_wrong 82 = .ok (.iload_n 3, 1) := by decide +kernel
theorem dX12_wrong_83 : decode cX12_wrong 83 = .ok (.aload_n 0, 1) := by decide +kernel
theorem dX12_wrong_84 : decode cX12_wrong 84 = .ok (.getfield 58, 3) := by decide +kernel
theorem dX12_wrong_87 : decode cX12_wrong 87 = .ok (.bipush 8, 2) := by decide +kernel
theorem dX12_wrong_89 : decode cX12_wrong 89 = .ok (.aload_n 0, 1) := by decide +kernel
theorem dX12_wrong_90 : decode cX12_wrong 90 = .ok (.getfield 243, 3) := by decide +kernel
theorem dX12_wrong_93 : decode cX12_wrong 93 = .ok (.imul, 1) := by decide +kernel
theorem dX12_wrong_94 : decode cX12_wrong 94 = .ok (.iload 5, 2) := by decide +kernel
theorem dX12_wrong_96 : decode cX12_wrong 96 = .ok (.iadd, 1) := by decide +kernel
theorem dX12_wrong_97 : decode cX12_wrong 97 = .ok (.iaload, 1) := by decide +kernel
theorem dX12_wrong_98 : decode cX12_wrong 98 = .ok (.invokevirtual 492, 3) := by decide +kernel
theorem dX12_wrong_101 : decode cX12_wrong 101 = .ok (.aload_n 0, 1) := by decide +kernel
theorem dX12_wrong_102 : decode cX12_wrong 102 = .ok (.aload_n 0, 1) := by decide +kernel
theorem dX12_wrong_103 : decode cX12_wrong 103 = .ok (.getfield 61, 3) := by decide +kernel
theorem dX12_wrong_106 : decode cX12_wrong 106 = .ok (.bipush 8, 2) := by decide +kernel
theorem dX12_wrong_108 : decode cX12_wrong 108 = .ok (.aload_n 0, 1) := by decide +kernel
theorem dX12_wrong_109 : decode cX12_wrong 109 = .ok (.getfield 243, 3) := by decide +kernel
theorem dX12_wrong_112 : decode cX12_wrong 112 = .ok (.imul, 1) := by decide +kernel
theorem dX12_wrong_113 : decode cX12_wrong 113 = .ok (.iload 5, 2) := by decide +kernel
theorem dX12_wrong_115 : decode cX12_wrong 115 = .ok (.iadd, 1) := by decide +kernel
theorem dX12_wrong_116 : decode cX12_wrong 116 = .ok (.iaload, 1) := by decide +kernel
theorem dX12_wrong_117 : decode cX12_wrong 117 = .ok (.invokevirtual 386, 3) := by decide +kernel
theorem dX12_wrong_120 : decode cX12_wrong 120 = .ok (.if_icmp .eq 12, 3) := by decide +kernel
theorem dX12_wrong_123 : decode cX12_wrong 123 = .ok (.iload 4, 2) := by decide +kernel
theorem dX12_wrong_125 : decode cX12_wrong 125 = .ok (.iconst 1, 1) := by decide +kernel
theorem dX12_wrong_126 : decode cX12_wrong 126 = .ok (.iload 5, 2) := by decide +kernel
theorem dX12_wrong_128 : decode cX12_wrong 128 = .ok (.ishl, 1) := by decide +kernel
theorem dX12_wrong_129 : decode cX12_wrong 129 = .ok (.ior, 1) := by decide +kernel
theorem dX12_wrong_130 : decode cX12_wrong 130 = .ok (.istore 4, 2) := by decide +kernel
theorem dX12_wrong_132 : decode cX12_wrong 132 = .ok (.iinc 5 1, 3) := by decide +kernel
theorem dX12_wrong_135 : decode cX12_wrong 135 = .ok (.goto (-68), 3) := by decide +kernel
theorem dX12_wrong_138 : decode cX12_wrong 138 = .ok (.iload_n 2, 1) := by decide +kernel
theorem dX12_wrong_139 : decode cX12_wrong 139 = .ok (.ifCond .lt 15, 3) := by decide +kernel
theorem dX12_wrong_142 : decode cX12_wrong 142 = .ok (.iload 4, 2) := by decide +kernel
theorem dX12_wrong_144 : decode cX12_wrong 144 = .ok (.invokestatic 486, 3) := by decide +kernel
theorem dX12_wrong_147 : decode cX12_wrong 147 = .ok (.iload_n 2, 1) := by decide +kernel
theorem dX12_wrong_148 : decode cX12_wrong 148 = .ok (.invokestatic 486, 3) := by decide +kernel
theorem dX12_wrong_151 : decode cX12_wrong 151 = .ok (.if_icmp .ge 6, 3) := by decide +kernel
theorem dX12_wrong_154 : decode cX12_wrong 154 = .ok (.iload 4, 2) := by decide +kernel
theorem dX12_wrong_156 : decode cX12_wrong 156 = .ok (.istore_n 2, 1) := by decide +kernel
theorem dX12_wrong_157 : decode cX12_wrong 157 = .ok (.iinc 3 1, 3) := by decide +kernel
theorem dX12_wrong_160 : decode cX12_wrong 160 = .ok (.goto (-125), 3) := by decide +kernel
theorem dX12_wrong_163 : decode cX12_wrong 163 = .ok (.iload_n 2, 1) := by decide +kernel
theorem dX12_wrong_164 : decode cX12_wrong 164 = .ok (.ireturn, 1) := by decide +kernel
theorem dX12_paired_0 : decode cX12_paired 0 = .ok (.lload_n 0, 1) := by decide +kernel
theorem dX12_paired_1 : decode cX12_paired 1 = .ok (.lload_n 2, 1) := by decide +kernel
theorem dX12_paired_2 : decode cX12_paired 2 = .ok (.ladd, 1) := by decide +kernel
theorem dX12_paired_3 : decode cX12_paired 3 = .ok (.lstore 4, 2) := by decide +kernel
theorem dX12_paired_5 : decode cX12_paired 5 = .ok (.lload 4, 2) := by decide +kernel
theorem dX12_paired_7 : decode cX12_paired 7 = .ok (.ldc2_w 372, 3) := by decide +kernel
theorem dX12_paired_10 : decode cX12_paired 10 = .ok (.lrem, 1) := by decide +kernel
theorem dX12_paired_11 : decode cX12_paired 11 = .ok (.lconst 0, 1) := by decide +kernel
theorem dX12_paired_12 : decode cX12_paired 12 = .ok (.lcmp, 1) := by decide +kernel
theorem dX12_paired_13 : decode cX12_paired 13 = .ok (.ifCond .ne 17, 3) := by decide +kernel
theorem dX12_paired_16 : decode cX12_paired 16 = .ok (.lload 4, 2) := by decide +kernel
theorem dX12_paired_18 : decode cX12_paired 18 = .ok (.ldc2_w 372, 3) := by decide +kernel
theorem dX12_paired_21 : decode cX12_paired 21 = .ok (.ldiv, 1) := by decide +kernel
theorem dX12_paired_22 : decode cX12_paired 22 = .ok (.lload 4, 2) := by decide +kernel
theorem dX12_paired_24 : decode cX12_paired 24 = .ok (.lconst 1, 1) := by decide +kernel
theorem dX12_paired_25 : decode cX12_paired 25 = .ok (.ladd, 1) := by decide +kernel
theorem dX12_paired_26 : decode cX12_paired 26 = .ok (.lmul, 1) := by decide +kernel
theorem dX12_paired_27 : decode cX12_paired 27 = .ok (.goto 14, 3) := by decide +kernel
theorem dX12_paired_30 : decode cX12_paired 30 = .ok (.lload 4, 2) := by decide +kernel
theorem dX12_paired_32 : decode cX12_paired 32 = .ok (.lconst 1, 1) := by decide +kernel
theorem dX12_paired_33 : decode cX12_paired 33 = .ok (.ladd, 1) := by decide +kernel
theorem dX12_paired_34 : decode cX12_paired 34 = .ok (.ldc2_w 372, 3) := by decide +kernel
theorem dX12_paired_37 : decode cX12_paired 37 = .ok (.ldiv, 1) := by decide +kernel
theorem dX12_paired_38 : decode cX12_paired 38 = .ok (.lload 4, 2) := by decide +kernel
theorem dX12_paired_40 : decode cX12_paired 40 = .ok (.lmul, 1) := by decide +kernel
theorem dX12_paired_41 : decode cX12_paired 41 = .ok (.lload_n 2, 1) := by decide +kernel
theorem dX12_paired_42 : decode cX12_paired 42 = .ok (.ladd, 1) := by decide +kernel
theorem dX12_paired_43 : decode cX12_paired 43 = .ok (.lreturn, 1) := by decide +kernel
set_option maxRecDepth 20000 in
theorem ggX12_pair_X12_in : GoodIn wsX12_pair wsX12_in := goodIn_r _ [6] (by decide +kernel) (by decide +kernel)
set_option maxRecDepth 20000 in
theorem gX12_pair_X12_in : GoodIn wsX12_pair (va_wsS RX12 332 yX12_in wsX12_in) := goodIn_app (goodIn_of _ (by decide +kernel)) ggX12_pair_X12_in
set_option maxRecDepth 20000 in
theorem ggX12_pair_X12_paired : GoodIn wsX12_pair wsX12_paired := goodIn_r _ [9, 10] (by decide +kernel) (by decide +kernel)
set_option maxRecDepth 20000 in
theorem gX12_pair_X12_paired : GoodIn wsX12_pair (va_wsS RX12 500 yX12_paired wsX12_paired) := goodIn_app (goodIn_of _ (by decide +kernel)) ggX12_pair_X12_paired
theorem dX12_pair_0 : decode cX12_pair 0 = .ok (.iload_n 1, 1) := by decide +kernel
theorem dX12_pair_1 : decode cX12_pair 1 = .ok (.i2l, 1) := by decide +kernel
theorem dX12_pair_2 : decode cX12_pair 2 = .ok (.lconst 0, 1) := by decide +kernel
theorem dX12_pair_3 : decode cX12_pair 3 = .ok (.ldc2_w 498, 3) := by decide +kernel
theorem dX12_pair_6 : decode cX12_pair 6 = .ok (.invokestatic 332, 3) := by decide +kernel
theorem dX12_pair_9 : decode cX12_pair 9 = .ok (.ifCond .eq 25, 3) := by decide +kernel
theorem dX12_pair_12 : decode cX12_pair 12 = .ok (.iload_n 2, 1) := by decide +kernel
theorem dX12_pair_13 : decode cX12_pair 13 = .ok (.i2l, 1) := by decide +kernel
theorem dX12_pair_14 : decode cX12_pair 14 = .ok (.lconst 0, 1) := by decide +kernel
theorem dX12_pair_15 : decode cX12_pair 15 = .ok (.ldc2_w 498, 3) := by decide +kernel
theorem dX12_pair_18 : decode cX12_pair 18 = .ok (.invokestatic 332, 3) := by decide +kernel
theorem dX12_pair_21 : decode cX12_pair 21 = .ok (.ifCond .eq 13, 3) := by decide +kernel
theorem dX12_pair_24 : decode cX12_pair 24 = .ok (.iload_n 1, 1) := by decide +kernel
theorem dX12_pair_25 : decode cX12_pair 25 = .ok (.i2l, 1) := by decide +kernel
theorem dX12_pair_26 : decode cX12_pair 26 = .ok (.iload_n 2, 1) := by decide +kernel
theorem dX12_pair_27 : decode cX12_pair 27 = .ok (.i2l, 1) := by decide +kernel
theorem dX12_pair_28 : decode cX12_pair 28 = .ok (.invokestatic 500, 3) := by decide +kernel
theorem dX12_pair_31 : decode cX12_pair 31 = .ok (.goto 6, 3) := by decide +kernel
theorem dX12_pair_34 : decode cX12_pair 34 = .ok (.ldc2_w 359, 3) := by decide +kernel
theorem dX12_pair_37 : decode cX12_pair 37 = .ok (.lreturn, 1) := by decide +kernel
set_option maxRecDepth 20000 in
theorem ggX12_unpair_X12_in : GoodIn wsX12_unpair wsX12_in := goodIn_r _ [8] (by decide +kernel) (by decide +kernel)
set_option maxRecDepth 20000 in
theorem gX12_unpair_X12_in : GoodIn wsX12_unpair (va_wsS RX12 332 yX12_in wsX12_in) := goodIn_app (goodIn_of _ (by decide +kernel)) ggX12_unpair_X12_in
set_option maxRecDepth 20000 in
theorem ggX12_unpair_X12_paired : GoodIn wsX12_unpair wsX12_paired := goodIn_r _ [11, 4] (by decide +kernel) (by decide +kernel)
set_option maxRecDepth 20000 in
theorem gX12_unpair_X12_paired : GoodIn wsX12_unpair (va_wsS RX12 500 yX12_paired wsX12_paired) := goodIn_app (goodIn_of _ (by decide +kernel)) ggX12_unpair_X12_paired
theorem dX12_unpair_0 : decode cX12_unpair 0 = .ok (.lload_n 1, 1) := by decide +kernel
theorem dX12_unpair_1 : decode cX12_unpair 1 = .ok (.lconst 0, 1) := by decide +kernel
theorem dX12_unpair_2 : decode cX12_unpair 2 = .ok (.ldc2_w 370, 3) := by decide +kernel
theorem dX12_unpair_5 : decode cX12_unpair 5 = .ok (.invokestatic 332, 3) := by decide +kernel
theorem dX12_unpair_8 : decode cX12_unpair 8 = .ok (.ifCond .ne 7, 3) := by decide +kernel
theorem dX12_unpair_11 : decode cX12_unpair 11 = .ok (.ldc2_w 359, 3) := by decide +kernel
theorem dX12_unpair_14 : decode cX12_unpair 14 = .ok (.lreturn, 1) := by decide +kernel
theorem dX12_unpair_15 : decode cX12_unpair 15 = .ok (.lconst 0, 1) := by decide +kernel
theorem dX12_unpair_16 : decode cX12_unpair 16 = .ok (.lstore 4, 2) := by decide +kernel
theorem dX12_unpair_18 : decode cX12_unpair 18 = .ok (.ldc2_w 504, 3) := by decide +kernel
theorem dX12_unpair_21 : decode cX12_unpair 21 = .ok (.lstore 6, 2) := by decide +kernel
theorem dX12_unpair_23 : decode cX12_unpair 23 = .ok (.lload 4, 2) := by decide +kernel
theorem dX12_unpair_25 : decode cX12_unpair 25 = .ok (.lload 6, 2) := by decide +kernel
theorem dX12_unpair_27 : decode cX12_unpair 27 = .ok (.lcmp, 1) := by decide +kernel
theorem dX12_unpair_28 : decode cX12_unpair 28 = .ok (.ifCond .ge 43, 3) := by decide +kernel
theorem dX12_unpair_31 : decode cX12_unpair 31 = .ok (.lload 4, 2) := by decide +kernel
theorem dX12_unpair_33 : decode cX12_unpair 33 = .ok (.lload 6, 2) := by decide +kernel
theorem dX12_unpair_35 : decode cX12_unpair 35 = .ok (.ladd, 1) := by decide +kernel
theorem dX12_unpair_36 : decode cX12_unpair 36 = .ok (.lconst 1, 1) := by decide +kernel
theorem dX12_unpair_37 : decode cX12_unpair 37 = .ok (.ladd, 1) := by decide +kernel
theorem dX12_unpair_38 : decode cX12_unpair 38 = .ok (.ldc2_w 372, 3) := by decide +kernel
theorem dX12_unpair_41 : decode cX12_unpair 41 = .ok (.ldiv, 1) := by decide +kernel
theorem dX12_unpair_42 : decode cX12_unpair 42 = .ok (.lstore 8, 2) := by decide +kernel
theorem dX12_unpair_44 : decode cX12_unpair 44 = .ok (.lload 8, 2) := by decide +kernel
theorem dX12_unpair_46 : decode cX12_unpair 46 = .ok (.lconst 0, 1) := by decide +kernel
theorem dX12_unpair_47 : decode cX12_unpair 47 = .ok (.invokestatic 500, 3) := by decide +kernel
theorem dX12_unpair_50 : decode cX12_unpair 50 = .ok (.lload_n 1, 1) := by decide +kernel
theorem dX12_unpair_51 : decode cX12_unpair 51 = .ok (.lcmp, 1) := by decide +kernel
theorem dX12_unpair_52 : decode cX12_unpair 52 = .ok (.ifCond .gt 10, 3) := by decide +kernel
theorem dX12_unpair_55 : decode cX12_unpair 55 = .ok (.lload 8, 2) := by decide +kernel
theorem dX12_unpair_57 : decode cX12_unpair 57 = .ok (.lstore 4, 2) := by decide +kernel
theorem dX12_unpair_59 : decode cX12_unpair 59 = .ok (.goto 9, 3) := by decide +kernel
theorem dX12_unpair_62 : decode cX12_unpair 62 = .ok (.lload 8, 2) := by decide +kernel
theorem dX12_unpair_64 : decode cX12_unpair 64 = .ok (.lconst 1, 1) := by decide +kernel
theorem dX12_unpair_65 : decode cX12_unpair 65 = .ok (.lsub, 1) := by decide +kernel
theorem dX12_unpair_66 : decode cX12_unpair 66 = .ok (.lstore 6, 2) := by decide +kernel
theorem dX12_unpair_68 : decode cX12_unpair 68 = .ok (.goto (-45), 3) := by decide +kernel
theorem dX12_unpair_71 : decode cX12_unpair 71 = .ok (.lload_n 1, 1) := by decide +kernel
theorem dX12_unpair_72 : decode cX12_unpair 72 = .ok (.lload 4, 2) := by decide +kernel
theorem dX12_unpair_74 : decode cX12_unpair 74 = .ok (.lconst 0, 1) := by decide +kernel
theorem dX12_unpair_75 : decode cX12_unpair 75 = .ok (.invokestatic 500, 3) := by decide +kernel
theorem dX12_unpair_78 : decode cX12_unpair 78 = .ok (.lsub, 1) := by decide +kernel
theorem dX12_unpair_79 : decode cX12_unpair 79 = .ok (.lstore 8, 2) := by decide +kernel
theorem dX12_unpair_81 : decode cX12_unpair 81 = .ok (.iload_n 3, 1) := by decide +kernel
theorem dX12_unpair_82 : decode cX12_unpair 82 = .ok (.ifCond .eq 8, 3) := by decide +kernel
theorem dX12_unpair_85 : decode cX12_unpair 85 = .ok (.lload 8, 2) := by decide +kernel
theorem dX12_unpair_87 : decode cX12_unpair 87 = .ok (.goto 8, 3) := by decide +kernel
theorem dX12_unpair_90 : decode cX12_unpair 90 = .ok (.lload 4, 2) := by decide +kernel
theorem dX12_unpair_92 : decode cX12_unpair 92 = .ok (.lload 8, 2) := by decide +kernel
theorem dX12_unpair_94 : decode cX12_unpair 94 = .ok (.lsub, 1) := by decide +kernel
theorem dX12_unpair_95 : decode cX12_unpair 95 = .ok (.lreturn, 1) := by decide +kernel
set_option maxRecDepth 20000 in
theorem ggX12_number_X12_isRow : GoodIn wsX12_number wsX12_isRow := goodIn_r _ [7, 8, 9, 10, 11, 6, 12, 31, 32, 33, 34, 35, 36, 37, 38, 39, 40, 41, 42, 43, 44, 45, 46, 47, 48, 49, 50, 51, 52, 53, 54, 55, 56, 57, 58, 59, 60, 61, 62, 63, 64, 65, 66, 67, 68, 69, 70, 71, 72, 73, 74, 75, 76, 77, 78, 79, 80, 81, 82, 83, 84, 85, 86, 87, 88, 89, 90, 91, 92, 93, 94, 95, 96, 97, 98, 99, 100, 101, 102, 103] (by decide +kernel) (by decide +kernel)
set_option maxRecDepth 20000 in
theorem gX12_number_X12_isRow : GoodIn wsX12_number (wsV RX12 336 RX12 yX12_isRow wsX12_isRow) := goodIn_app (goodIn_of _ (by decide +kernel)) ggX12_number_X12_isRow
set_option maxRecDepth 20000 in
theorem ggX12_number_X12_longAt : GoodIn wsX12_number wsX12_longAt := goodIn_r _ [16, 17, 9, 31, 32, 33, 34, 35, 36, 37, 38, 39, 40, 41, 42, 43, 44, 45, 46, 47, 48, 49, 50, 51, 52, 53, 54, 55, 56, 57, 58, 59, 60, 61, 62, 63, 64, 65, 66, 67, 68, 69, 70, 71, 72, 73, 74, 75, 76, 77, 78, 79, 80, 81, 82, 83, 84, 85, 86, 87, 88, 89, 90, 91, 92, 93, 94, 95, 96, 97, 98, 99, 100, 101, 102, 103] (by decide +kernel) (by decide +kernel)
set_option maxRecDepth 20000 in
theorem gX12_number_X12_longAt : GoodIn wsX12_number (wsV RX12 339 RX12 yX12_longAt wsX12_longAt) := goodIn_app (goodIn_of _ (by decide +kernel)) ggX12_number_X12_longAt
set_option maxRecDepth 20000 in
theorem ggX12_number_X12_isBelow : GoodIn wsX12_number wsX12_isBelow := goodIn_r _ [21, 13, 14, 15, 6, 16, 17, 9, 22, 23, 24, 25, 26, 31, 32, 33, 34, 35, 36, 37, 38, 39, 40, 41, 42, 43, 44, 45, 46, 47, 48, 49, 50, 51, 52, 53, 54, 55, 56, 57, 58, 59, 60, 61, 62, 63, 64, 65, 66, 67, 68, 69, 70, 71, 72, 73, 74, 75, 76, 77, 78, 79, 80, 81, 82, 83, 84, 85, 86, 87, 88, 89, 90, 91, 92, 93, 94, 95, 96, 97, 98, 99, 100, 101, 102, 103] (by decide +kernel) (by decide +kernel)
set_option maxRecDepth 20000 in
theorem gX12_number_X12_isBelow : GoodIn wsX12_number (wsV RX12 361 RX12 yX12_isBelow wsX12_isBelow) := goodIn_app (goodIn_of _ (by decide +kernel)) ggX12_number_X12_isBelow
set_option maxRecDepth 20000 in
theorem ggX12_number_X12_at : GoodIn wsX12_number wsX12_at := goodIn_r _ [25, 26, 9, 31, 32, 33, 34, 35, 36, 37, 38, 39, 40, 41, 42, 43, 44, 45, 46, 47, 48, 49, 50, 51, 52, 53, 54, 55, 56, 57, 58, 59, 60, 61, 62, 63, 64, 65, 66, 67, 68, 69, 70, 71, 72, 73, 74, 75, 76, 77, 78, 79, 80, 81, 82, 83, 84, 85, 86, 87, 88, 89, 90, 91, 92, 93, 94, 95, 96, 97, 98, 99, 100, 101, 102, 103] (by decide +kernel) (by decide +kernel)
set_option maxRecDepth 20000 in
theorem gX12_number_X12_at : GoodIn wsX12_number (wsV RX12 342 RX12 yX12_at wsX12_at) := goodIn_app (goodIn_of _ (by decide +kernel)) ggX12_number_X12_at
set_option maxRecDepth 20000 in
theorem ggX12_number_X12_paired : GoodIn wsX12_number wsX12_paired := goodIn_r _ [29, 30] (by decide +kernel) (by decide +kernel)
set_option maxRecDepth 20000 in
theorem gX12_number_X12_paired : GoodIn wsX12_number (va_wsS RX12 500 yX12_paired wsX12_paired) := goodIn_app (goodIn_of _ (by decide +kernel)) ggX12_number_X12_paired
theorem dX12_number_0 : decode cX12_number 0 = .ok (.aload_n 0, 1) := by decide +kernel
theorem dX12_number_1 : decode cX12_number 1 = .ok (.iload_n 1, 1) := by decide +kernel
theorem dX12_number_2 : decode cX12_number 2 = .ok (.invokevirtual 336, 3) := by decide +kernel
theorem dX12_number_5 : decode cX12_number 5 = .ok (.ifCond .ne 7, 3) := by decide +kernel
theorem dX12_number_8 : decode cX12_number 8 = .ok (.ldc2_w 359, 3) := by decide +kernel
theorem dX12_number_11 : decode cX12_number 11 = .ok (.lreturn, 1) := by decide +kernel
theorem dX12_number_12 : decode cX12_number 12 = .ok (.aload_n 0, 1) := by decide +kernel
theorem dX12_number_13 : decode cX12_number 13 = .ok (.iload_n 1, 1) := by decide +kernel
theorem dX12_number_14 : decode cX12_number 14 = .ok (.invokevirtual 339, 3) := by decide +kernel
theorem dX12_number_17 : decode cX12_number 17 = .ok (.iconst 4, 1) := by decide +kernel
theorem dX12_number_18 : decode cX12_number 18 = .ok (.if_icmp .gt 19, 3) := by decide +kernel
theorem dX12_number_21 : decode cX12_number 21 = .ok (.aload_n 0, 1) := by decide +kernel
theorem dX12_number_22 : decode cX12_number 22 = .ok (.iload_n 1, 1) := by decide +kernel
theorem dX12_number_23 : decode cX12_number 23 = .ok (.invokevirtual 339, 3) := by decide +kernel
theorem dX12_number_26 : decode cX12_number 26 = .ok (.ifCond .eq 11, 3) := by decide +kernel
theorem dX12_number_29 : decode cX12_number 29 = .ok (.aload_n 0, 1) := by decide +kernel
theorem dX12_number_30 : decode cX12_number 30 = .ok (.iload_n 1, 1) := by decide +kernel
theorem dX12_number_31 : decode cX12_number 31 = .ok (.invokevirtual 361, 3) := by decide +kernel
theorem dX12_number_34 : decode cX12_number 34 = .ok (.ifCond .eq 7, 3) := by decide +kernel
theorem dX12_number_37 : decode cX12_number 37 = .ok (.ldc2_w 364, 3) := by decide +kernel
theorem dX12_number_40 : decode cX12_number 40 = .ok (.lreturn, 1) := by decide +kernel
theorem dX12_number_41 : decode cX12_number 41 = .ok (.aload_n 0, 1) := by decide +kernel
theorem dX12_number_42 : decode cX12_number 42 = .ok (.iload_n 1, 1) := by decide +kernel
theorem dX12_number_43 : decode cX12_number 43 = .ok (.iconst 0, 1) := by decide +kernel
theorem dX12_number_44 : decode cX12_number 44 = .ok (.invokevirtual 342, 3) := by decide +kernel
theorem dX12_number_47 : decode cX12_number 47 = .ok (.i2l, 1) := by decide +kernel
theorem dX12_number_48 : decode cX12_number 48 = .ok (.lstore_n 2, 1) := by decide +kernel
theorem dX12_number_49 : decode cX12_number 49 = .ok (.iconst 1, 1) := by decide +kernel
theorem dX12_number_50 : decode cX12_number 50 = .ok (.istore 4, 2) := by decide +kernel
theorem dX12_number_52 : decode cX12_number 52 = .ok (.iload 4, 2) := by decide +kernel
theorem dX12_number_54 : decode cX12_number 54 = .ok (.aload_n 0, 1) := by decide +kernel
theorem dX12_number_55 : decode cX12_number 55 = .ok (.iload_n 1, 1) := by decide +kernel
theorem dX12_number_56 : decode cX12_number 56 = .ok (.invokevirtual 339, 3) := by decide +kernel
theorem dX12_number_59 : decode cX12_number 59 = .ok (.if_icmp .ge 22, 3) := by decide +kernel
theorem dX12_number_62 : decode cX12_number 62 = .ok (.lload_n 2, 1) := by decide +kernel
theorem dX12_number_63 : decode cX12_number 63 = .ok (.aload_n 0, 1) := by decide +kernel
theorem dX12_number_64 : decode cX12_number 64 = .ok (.iload_n 1, 1) := by decide +kernel
theorem dX12_number_65 : decode cX12_number 65 = .ok (.iload 4, 2) := by decide +kernel
theorem dX12_number_67 : decode cX12_number 67 = .ok (.invokevirtual 342, 3) := by decide +kernel
theorem dX12_number_70 : decode cX12_number 70 = .ok (.i2l, 1) := by decide +kernel
theorem dX12_number_71 : decode cX12_number 71 = .ok (.invokestatic 500, 3) := by decide +kernel
theorem dX12_number_74 : decode cX12_number 74 = .ok (.lstore_n 2, 1) := by decide +kernel
theorem dX12_number_75 : decode cX12_number 75 = .ok (.iinc 4 1, 3) := by decide +kernel
theorem dX12_number_78 : decode cX12_number 78 = .ok (.goto (-26), 3) := by decide +kernel
theorem dX12_number_81 : decode cX12_number 81 = .ok (.lload_n 2, 1) := by decide +kernel
theorem dX12_number_82 : decode cX12_number 82 = .ok (.lreturn, 1) := by decide +kernel
set_option maxRecDepth 20000 in
theorem ggX12_hold_X12_in : GoodIn wsX12_hold wsX12_in := goodIn_r _ [12] (by decide +kernel) (by decide +kernel)
set_option maxRecDepth 20000 in
theorem gX12_hold_X12_in : GoodIn wsX12_hold (va_wsS RX12 332 yX12_in wsX12_in) := goodIn_app (goodIn_of _ (by decide +kernel)) ggX12_hold_X12_in
theorem dX12_hold_0 : decode cX12_hold 0 = .ok (.iload_n 1, 1) := by decide +kernel
theorem dX12_hold_1 : decode cX12_hold 1 = .ok (.i2l, 1) := by decide +kernel
theorem dX12_hold_2 : decode cX12_hold 2 = .ok (.lconst 0, 1) := by decide +kernel
theorem dX12_hold_3 : decode cX12_hold 3 = .ok (.ldc2_w 372, 3) := by decide +kernel
theorem dX12_hold_6 : decode cX12_hold 6 = .ok (.invokestatic 332, 3) := by decide +kernel
theorem dX12_hold_9 : decode cX12_hold 9 = .ok (.ifCond .ne 5, 3) := by decide +kernel
theorem dX12_hold_12 : decode cX12_hold 12 = .ok (.iconst 0, 1) := by decide +kernel
theorem dX12_hold_13 : decode cX12_hold 13 = .ok (.ireturn, 1) := by decide +kernel
theorem dX12_hold_14 : decode cX12_hold 14 = .ok (.aload_n 0, 1) := by decide +kernel
theorem dX12_hold_15 : decode cX12_hold 15 = .ok (.getfield 156, 3) := by decide +kernel
theorem dX12_hold_18 : decode cX12_hold 18 = .ok (.iload_n 1, 1) := by decide +kernel
theorem dX12_hold_19 : decode cX12_hold 19 = .ok (.iconst 1, 1) := by decide +kernel
theorem dX12_hold_20 : decode cX12_hold 20 = .ok (.bastore, 1) := by decide +kernel
theorem dX12_hold_21 : decode cX12_hold 21 = .ok (.aload_n 0, 1) := by decide +kernel
theorem dX12_hold_22 : decode cX12_hold 22 = .ok (.getfield 159, 3) := by decide +kernel
theorem dX12_hold_25 : decode cX12_hold 25 = .ok (.iload_n 1, 1) := by decide +kernel
theorem dX12_hold_26 : decode cX12_hold 26 = .ok (.aload_n 0, 1) := by decide +kernel
theorem dX12_hold_27 : decode cX12_hold 27 = .ok (.getfield 265, 3) := by decide +kernel
theorem dX12_hold_30 : decode cX12_hold 30 = .ok (.iastore, 1) := by decide +kernel
theorem dX12_hold_31 : decode cX12_hold 31 = .ok (.iconst 0, 1) := by decide +kernel
theorem dX12_hold_32 : decode cX12_hold 32 = .ok (.istore_n 2, 1) := by decide +kernel
theorem dX12_hold_33 : decode cX12_hold 33 = .ok (.iload_n 2, 1) := by decide +kernel
theorem dX12_hold_34 : decode cX12_hold 34 = .ok (.bipush 20, 2) := by decide +kernel
theorem dX12_hold_36 : decode cX12_hold 36 = .ok (.if_icmp .ge 43, 3) := by decide +kernel
theorem dX12_hold_39 : decode cX12_hold 39 = .ok (.aload_n 0, 1) := by decide +kernel
theorem dX12_hold_40 : decode cX12_hold 40 = .ok (.getfield 162, 3) := by decide +kernel
theorem dX12_hold_43 : decode cX12_hold 43 = .ok (.bipush 20, 2) := by decide +kernel
theorem dX12_hold_45 : decode cX12_hold 45 = .ok (.iload_n 1, 1) := by decide +kernel
theorem dX12_hold_46 : decode cX12_hold 46 = .ok (.imul, 1) := by decide +kernel
theorem dX12_hold_47 : decode cX12_hold 47 = .ok (.iload_n 2, 1) := by decide +kernel
theorem dX12_hold_48 : decode cX12_hold 48 = .ok (.iadd, 1) := by decide +kernel
theorem dX12_hold_49 : decode cX12_hold 49 = .ok (.aload_n 0, 1) := by decide +kernel
theorem dX12_hold_50 : decode cX12_hold 50 = .ok (.getfield 132, 3) := by decide +kernel
theorem dX12_hold_53 : decode cX12_hold 53 = .ok (.iload_n 2, 1) := by decide +kernel
theorem dX12_hold_54 : decode cX12_hold 54 = .ok (.iaload, 1) := by decide +kernel
theorem dX12_hold_55 : decode cX12_hold 55 = .ok (.iastore, 1) := by decide +kernel
theorem dX12_hold_56 : decode cX12_hold 56 = .ok (.aload_n 0, 1) := by decide +kernel
theorem dX12_hold_57 : decode cX12_hold 57 = .ok (.getfield 165, 3) := by decide +kernel
theorem dX12_hold_60 : decode cX12_hold 60 = .ok (.bipush 20, 2) := by decide +kernel
theorem dX12_hold_62 : decode cX12_hold 62 = .ok (.iload_n 1, 1) := by decide +kernel
theorem dX12_hold_63 : decode cX12_hold 63 = .ok (.imul, 1) := by decide +kernel
theorem dX12_hold_64 : decode cX12_hold 64 = .ok (.iload_n 2, 1) := by decide +kernel
theorem dX12_hold_65 : decode cX12_hold 65 = .ok (.iadd, 1) := by decide +kernel
theorem dX12_hold_66 : decode cX12_hold 66 = .ok (.aload_n 0, 1) := by decide +kernel
theorem dX12_hold_67 : decode cX12_hold 67 = .ok (.getfield 135, 3) := by decide +kernel
theorem dX12_hold_70 : decode cX12_hold 70 = .ok (.iload_n 2, 1) := by decide +kernel
theorem dX12_hold_71 : decode cX12_hold 71 = .ok (.laload, 1) := by decide +kernel
theorem dX12_hold_72 : decode cX12_hold 72 = .ok (.lastore, 1) := by decide +kernel
theorem dX12_hold_73 : decode cX12_hold 73 = .ok (.iinc 2 1, 3) := by decide +kernel
theorem dX12_hold_76 : decode cX12_hold 76 = .ok (.goto (-43), 3) := by decide +kernel
theorem dX12_hold_79 : decode cX12_hold 79 = .ok (.iconst 1, 1) := by decide +kernel
theorem dX12_hold_80 : decode cX12_hold 80 = .ok (.ireturn, 1) := by decide +kernel
set_option maxRecDepth 20000 in
theorem ggX12_restore_X12_in : GoodIn wsX12_restore wsX12_in := goodIn_r _ [12] (by decide +kernel) (by decide +kernel)
set_option maxRecDepth 20000 in
theorem gX12_restore_X12_in : GoodIn wsX12_restore (va_wsS RX12 332 yX12_in wsX12_in) := goodIn_app (goodIn_of _ (by decide +kernel)) ggX12_restore_X12_in
theorem dX12_restore_0 : decode cX12_restore 0 = .ok (.iload_n 1, 1) := by decide +kernel
theorem dX12_restore_1 : decode cX12_restore 1 = .ok (.i2l, 1) := by decide +kernel
theorem dX12_restore_2 : decode cX12_restore 2 = .ok (.lconst 0, 1) := by decide +kernel
theorem dX12_restore_3 : decode cX12_restore 3 = .ok (.ldc2_w 372, 3) := by decide +kernel
theorem dX12_restore_6 : decode cX12_restore 6 = .ok (.invokestatic 332, 3) := by decide +kernel
theorem dX12_restore_9 : decode cX12_restore 9 = .ok (.ifCond .eq 12, 3) := by decide +kernel
theorem dX12_restore_12 : decode cX12_restore 12 = .ok (.aload_n 0, 1) := by decide +kernel
theorem dX12_restore_13 : decode cX12_restore 13 = .ok (.getfield 156, 3) := by decide +kernel
theorem dX12_restore_16 : decode cX12_restore 16 = .ok (.iload_n 1, 1) := by decide +kernel
theorem dX12_restore_17 : decode cX12_restore 17 = .ok (.baload, 1) := by decide +kernel
theorem dX12_restore_18 : decode cX12_restore 18 = .ok (.ifCond .ne 5, 3) := by decide +kernel
theorem dX12_restore_21 : decode cX12_restore 21 = .ok (.iconst 0, 1) := by decide +kernel
theorem dX12_restore_22 : decode cX12_restore 22 = .ok (.ireturn, 1) := by decide +kernel
theorem dX12_restore_23 : decode cX12_restore 23 = .ok (.aload_n 0, 1) := by decide +kernel
theorem dX12_restore_24 : decode cX12_restore 24 = .ok (.aload_n 0, 1) := by decide +kernel
theorem dX12_restore_25 : decode cX12_restore 25 = .ok (.getfield 159, 3) := by decide +kernel
theorem dX12_restore_28 : decode cX12_restore 28 = .ok (.iload_n 1, 1) := by decide +kernel
theorem dX12_restore_29 : decode cX12_restore 29 = .ok (.iaload, 1) := by decide +kernel
theorem dX12_restore_30 : decode cX12_restore 30 = .ok (.putfield 265, 3) := by decide +kernel
theorem dX12_restore_33 : decode cX12_restore 33 = .ok (.iconst 0, 1) := by decide +kernel
theorem dX12_restore_34 : decode cX12_restore 34 = .ok (.istore_n 2, 1) := by decide +kernel
theorem dX12_restore_35 : decode cX12_restore 35 = .ok (.iload_n 2, 1) := by decide +kernel
theorem dX12_restore_36 : decode cX12_restore 36 = .ok (.bipush 20, 2) := by decide +kernel
theorem dX12_restore_38 : decode cX12_restore 38 = .ok (.if_icmp .ge 43, 3) := by decide +kernel
theorem dX12_restore_41 : decode cX12_restore 41 = .ok (.aload_n 0, 1) := by decide +kernel
theorem dX12_restore_42 : decode cX12_restore 42 = .ok (.getfield 132, 3) := by decide +kernel
theorem dX12_restore_45 : decode cX12_restore 45 = .ok (.iload_n 2, 1) := by decide +kernel
theorem dX12_restore_46 : decode cX12_restore 46 = .ok (.aload_n 0, 1) := by decide +kernel
theorem dX12_restore_47 : decode cX12_restore 47 = .ok (.getfield 162, 3) := by decide +kernel
theorem dX12_restore_50 : decode cX12_restore 50 = .ok (.bipush 20, 2) := by decide +kernel
theorem dX12_restore_52 : decode cX12_restore 52 = .ok (.iload_n 1, 1) := by decide +kernel
theorem dX12_restore_53 : decode cX12_restore 53 = .ok (.imul, 1) := by decide +kernel
theorem dX12_restore_54 : decode cX12_restore 54 = .ok (.iload_n 2, 1) := by decide +kernel
theorem dX12_restore_55 : decode cX12_restore 55 = .ok (.iadd, 1) := by decide +kernel
theorem dX12_restore_56 : decode cX12_restore 56 = .ok (.iaload, 1) := by decide +kernel
theorem dX12_restore_57 : decode cX12_restore 57 = .ok (.iastore, 1) := by decide +kernel
theorem dX12_restore_58 : decode cX12_restore 58 = .ok (.aload_n 0, 1) := by decide +kernel
theorem dX12_restore_59 : decode cX12_restore 59 = .ok (.getfield 135, 3) := by decide +kernel
theorem dX12_restore_62 : decode cX12_restore 62 = .ok (.iload_n 2, 1) := by decide +kernel
theorem dX12_restore_63 : decode cX12_restore 63 = .ok (.aload_n 0, 1) := by decide +kernel
theorem dX12_restore_64 : decode cX12_restore 64 = .ok (.getfield 165, 3) := by decide +kernel
theorem dX12_restore_67 : decode cX12_restore 67 = .ok (.bipush 20, 2) := by decide +kernel
theorem dX12_restore_69 : decode cX12_restore 69 = .ok (.iload_n 1, 1) := by decide +kernel
theorem dX12_restore_70 : decode cX12_restore 70 = .ok (.imul, 1) := by decide +kernel
theorem dX12_restore_71 : decode cX12_restore 71 = .ok (.iload_n 2, 1) := by decide +kernel
theorem dX12_restore_72 : decode cX12_restore 72 = .ok (.iadd, 1) := by decide +kernel
theorem dX12_restore_73 : decode cX12_restore 73 = .ok (.laload, 1) := by decide +kernel
theorem dX12_restore_74 : decode cX12_restore 74 = .ok (.lastore, 1) := by decide +kernel
theorem dX12_restore_75 : decode cX12_restore 75 = .ok (.iinc 2 1, 3) := by decide +kernel
theorem dX12_restore_78 : decode cX12_restore 78 = .ok (.goto (-43), 3) := by decide +kernel
theorem dX12_restore_81 : decode cX12_restore 81 = .ok (.iconst 1, 1) := by decide +kernel
theorem dX12_restore_82 : decode cX12_restore 82 = .ok (.ireturn, 1) := by decide +kernel
theorem dX12_count_0 : decode cX12_count 0 = .ok (.iload_n 1, 1) := by decide +kernel
theorem dX12_count_1 : decode cX12_count 1 = .ok (.tableswitch 210 0 11 #[63, 73, 83, 93, 103, 113, 123, 128, 133, 178, 188, 205], 63) := by decide +kernel
theorem dX12_count_64 : decode cX12_count 64 = .ok (.aload_n 0, 1) := by decide +kernel
theorem dX12_count_65 : decode cX12_count 65 = .ok (.getfield 43, 3) := by decide +kernel
theorem dX12_count_68 : decode cX12_count 68 = .ok (.aload_n 0, 1) := by decide +kernel
theorem dX12_count_69 : decode cX12_count 69 = .ok (.getfield 243, 3) := by decide +kernel
theorem dX12_count_72 : decode cX12_count 72 = .ok (.iaload, 1) := by decide +kernel
theorem dX12_count_73 : decode cX12_count 73 = .ok (.ireturn, 1) := by decide +kernel
theorem dX12_count_74 : decode cX12_count 74 = .ok (.aload_n 0, 1) := by decide +kernel
theorem dX12_count_75 : decode cX12_count 75 = .ok (.getfield 55, 3) := by decide +kernel
theorem dX12_count_78 : decode cX12_count 78 = .ok (.aload_n 0, 1) := by decide +kernel
theorem dX12_count_79 : decode cX12_count 79 = .ok (.getfield 243, 3) := by decide +kernel
theorem dX12_count_82 : decode cX12_count 82 = .ok (.iaload, 1) := by decide +kernel
theorem dX12_count_83 : decode cX12_count 83 = .ok (.ireturn, 1) := by decide +kernel
theorem dX12_count_84 : decode cX12_count 84 = .ok (.aload_n 0, 1) := by decide +kernel
theorem dX12_count_85 : decode cX12_count 85 = .ok (.getfield 67, 3) := by decide +kernel
theorem dX12_count_88 : decode cX12_count 88 = .ok (.aload_n 0, 1) := by decide +kernel
theorem dX12_count_89 : decode cX12_count 89 = .ok (.getfield 243, 3) := by decide +kernel
theorem dX12_count_92 : decode cX12_count 92 = .ok (.iaload, 1) := by decide +kernel
theorem dX12_count_93 : decode cX12_count 93 = .ok (.ireturn, 1) := by decide +kernel
theorem dX12_count_94 : decode cX12_count 94 = .ok (.aload_n 0, 1) := by decide +kernel
theorem dX12_count_95 : decode cX12_count 95 = .ok (.getfield 52, 3) := by decide +kernel
theorem dX12_count_98 : decode cX12_count 98 = .ok (.aload_n 0, 1) := by decide +kernel
theorem dX12_count_99 : decode cX12_count 99 = .ok (.getfield 243, 3) := by decide +kernel
theorem dX12_count_102 : decode cX12_count 102 = .ok (.iaload, 1) := by decide +kernel
theorem dX12_count_103 : decode cX12_count 103 = .ok (.ireturn, 1) := by decide +kernel
theorem dX12_count_104 : decode cX12_count 104 = .ok (.aload_n 0, 1) := by decide +kernel
theorem dX12_count_105 : decode cX12_count 105 = .ok (.getfield 73, 3) := by decide +kernel
theorem dX12_count_108 : decode cX12_count 108 = .ok (.aload_n 0, 1) := by decide +kernel
theorem dX12_count_109 : decode cX12_count 109 = .ok (.getfield 243, 3) := by decide +kernel
theorem dX12_count_112 : decode cX12_count 112 = .ok (.iaload, 1) := by decide +kernel
theorem dX12_count_113 : decode cX12_count 113 = .ok (.ireturn, 1) := by decide +kernel
theorem dX12_count_114 : decode cX12_count 114 = .ok (.aload_n 0, 1) := by decide +kernel
theorem dX12_count_115 : decode cX12_count 115 = .ok (.getfield 76, 3) := by decide +kernel
theorem dX12_count_118 : decode cX12_count 118 = .ok (.aload_n 0, 1) := by decide +kernel
theorem dX12_count_119 : decode cX12_count 119 = .ok (.getfield 243, 3) := by decide +kernel
theorem dX12_count_122 : decode cX12_count 122 = .ok (.iaload, 1) := by decide +kernel
theorem dX12_count_123 : decode cX12_count 123 = .ok (.ireturn, 1) := by decide +kernel
theorem dX12_count_124 : decode cX12_count 124 = .ok (.aload_n 0, 1) := by decide +kernel
theorem dX12_count_125 : decode cX12_count 125 = .ok (.getfield 176, 3) := by decide +kernel
theorem dX12_count_128 : decode cX12_count 128 = .ok (.ireturn, 1) := by decide +kernel
theorem dX12_count_129 : decode cX12_count 129 = .ok (.aload_n 0, 1) := by decide +kernel
theorem dX12_count_130 : decode cX12_count 130 = .ok (.getfield 265, 3) := by decide +kernel
theorem dX12_count_133 : decode cX12_count 133 = .ok (.ireturn, 1) := by decide +kernel
theorem dX12_count_134 : decode cX12_count 134 = .ok (.aload_n 0, 1) := by decide +kernel
theorem dX12_count_135 : decode cX12_count 135 = .ok (.getfield 156, 3) := by decide +kernel
theorem dX12_count_138 : decode cX12_count 138 = .ok (.iconst 0, 1) := by decide +kernel
theorem dX12_count_139 : decode cX12_count 139 = .ok (.baload, 1) := by decide +kernel
theorem dX12_count_140 : decode cX12_count 140 = .ok (.ifCond .eq 7, 3) := by decide +kernel
theorem dX12_count_143 : decode cX12_count 143 = .ok (.iconst 1, 1) := by decide +kernel
theorem dX12_count_144 : decode cX12_count 144 = .ok (.goto 4, 3) := by decide +kernel
theorem dX12_count_147 : decode cX12_count 147 = .ok (.iconst 0, 1) := by decide +kernel
theorem dX12_count_148 : decode cX12_count 148 = .ok (.aload_n 0, 1) := by decide +kernel
theorem dX12_count_149 : decode cX12_count 149 = .ok (.getfield 156, 3) := by decide +kernel
theorem dX12_count_152 : decode cX12_count 152 = .ok (.iconst 1, 1) := by decide +kernel
theorem dX12_count_153 : decode cX12_count 153 = .ok (.baload, 1) := by decide +kernel
theorem dX12_count_154 : decode cX12_count 154 = .ok (.ifCond .eq 7, 3) := by decide +kernel
theorem dX12_count_157 : decode cX12_count 157 = .ok (.iconst 1, 1) := by decide +kernel
theorem dX12_count_158 : decode cX12_count 158 = .ok (.goto 4, 3) := by decide +kernel
theorem dX12_count_161 : decode cX12_count 161 = .ok (.iconst 0, 1) := by decide +kernel
theorem dX12_count_162 : decode cX12_count 162 = .ok (.iadd, 1) := by decide +kernel
theorem dX12_count_163 : decode cX12_count 163 = .ok (.aload_n 0, 1) := by decide +kernel
theorem dX12_count_164 : decode cX12_count 164 = .ok (.getfield 156, 3) := by decide +kernel
theorem dX12_count_167 : decode cX12_count 167 = .ok (.iconst 2, 1) := by decide +kernel
theorem dX12_count_168 : decode cX12_count 168 = .ok (.baload, 1) := by decide +kernel
theorem dX12_count_169 : decode cX12_count 169 = .ok (.ifCond .eq 7, 3) := by decide +kernel
theorem dX12_count_172 : decode cX12_count 172 = .ok (.iconst 1, 1) := by decide +kernel
theorem dX12_count_173 : decode cX12_count 173 = .ok (.goto 4, 3) := by decide +kernel
theorem dX12_count_176 : decode cX12_count 176 = .ok (.iconst 0, 1) := by decide +kernel
theorem dX12_count_177 : decode cX12_count 177 = .ok (.iadd, 1) := by decide +kernel
theorem dX12_count_178 : decode cX12_count 178 = .ok (.ireturn, 1) := by decide +kernel
theorem dX12_count_179 : decode cX12_count 179 = .ok (.aload_n 0, 1) := by decide +kernel
theorem dX12_count_180 : decode cX12_count 180 = .ok (.getfield 79, 3) := by decide +kernel
theorem dX12_count_183 : decode cX12_count 183 = .ok (.aload_n 0, 1) := by decide +kernel
theorem dX12_count_184 : decode cX12_count 184 = .ok (.getfield 243, 3) := by decide +kernel
theorem dX12_count_187 : decode cX12_count 187 = .ok (.iaload, 1) := by decide +kernel
theorem dX12_count_188 : decode cX12_count 188 = .ok (.ireturn, 1) := by decide +kernel
theorem dX12_count_189 : decode cX12_count 189 = .ok (.aload_n 0, 1) := by decide +kernel
theorem dX12_count_190 : decode cX12_count 190 = .ok (.getfield 141, 3) := by decide +kernel
theorem dX12_count_193 : decode cX12_count 193 = .ok (.ifCond .ge 8, 3) := by decide +kernel
theorem dX12_count_196 : decode cX12_count 196 = .ok (.bipush (-2), 2) := by decide +kernel
theorem dX12_count_198 : decode cX12_count 198 = .ok (.goto 7, 3) := by decide +kernel
theorem dX12_count_201 : decode cX12_count 201 = .ok (.aload_n 0, 1) := by decide +kernel
theorem dX12_count_202 : decode cX12_count 202 = .ok (.getfield 141, 3) := by decide +kernel
theorem dX12_count_205 : decode cX12_count 205 = .ok (.ireturn, 1) := by decide +kernel
theorem dX12_count_206 : decode cX12_count 206 = .ok (.aload_n 0, 1) := by decide +kernel
theorem dX12_count_207 : decode cX12_count 207 = .ok (.getfield 268, 3) := by decide +kernel
theorem dX12_count_210 : decode cX12_count 210 = .ok (.ireturn, 1) := by decide +kernel
theorem dX12_count_211 : decode cX12_count 211 = .ok (.iconst (-1), 1) := by decide +kernel
theorem dX12_count_212 : decode cX12_count 212 = .ok (.ireturn, 1) := by decide +kernel
theorem dJ6_bitCount_0f7a4_0 : decode cJ6_bitCount_0f7a4 0 = .ok (.iload_n 0, 1) := by decide +kernel
theorem dJ6_bitCount_0f7a4_1 : decode cJ6_bitCount_0f7a4 1 = .ok (.iload_n 0, 1) := by decide +kernel
theorem dJ6_bitCount_0f7a4_2 : decode cJ6_bitCount_0f7a4 2 = .ok (.iconst 1, 1) := by decide +kernel
theorem dJ6_bitCount_0f7a4_3 : decode cJ6_bitCount_0f7a4 3 = .ok (.iushr, 1) := by decide +kernel
theorem dJ6_bitCount_0f7a4_4 : decode cJ6_bitCount_0f7a4 4 = .ok (.ldc_w 265, 3) := by decide +kernel
theorem dJ6_bitCount_0f7a4_7 : decode cJ6_bitCount_0f7a4 7 = .ok (.iand, 1) := by decide +kernel
theorem dJ6_bitCount_0f7a4_8 : decode cJ6_bitCount_0f7a4 8 = .ok (.isub, 1) := by decide +kernel
theorem dJ6_bitCount_0f7a4_9 : decode cJ6_bitCount_0f7a4 9 = .ok (.istore_n 0, 1) := by decide +kernel
theorem dJ6_bitCount_0f7a4_10 : decode cJ6_bitCount_0f7a4 10 = .ok (.iload_n 0, 1) := by decide +kernel
theorem dJ6_bitCount_0f7a4_11 : decode cJ6_bitCount_0f7a4 11 = .ok (.ldc_w 266, 3) := by decide +kernel
theorem dJ6_bitCount_0f7a4_14 : decode cJ6_bitCount_0f7a4 14 = .ok (.iand, 1) := by decide +kernel
theorem dJ6_bitCount_0f7a4_15 : decode cJ6_bitCount_0f7a4 15 = .ok (.iload_n 0, 1) := by decide +kernel
theorem dJ6_bitCount_0f7a4_16 : decode cJ6_bitCount_0f7a4 16 = .ok (.iconst 2, 1) := by decide +kernel
theorem dJ6_bitCount_0f7a4_17 : decode cJ6_bitCount_0f7a4 17 = .ok (.iushr, 1) := by decide +kernel
theorem dJ6_bitCount_0f7a4_18 : decode cJ6_bitCount_0f7a4 18 = .ok (.ldc_w 266, 3) := by decide +kernel
theorem dJ6_bitCount_0f7a4_21 : decode cJ6_bitCount_0f7a4 21 = .ok (.iand, 1) := by decide +kernel
theorem dJ6_bitCount_0f7a4_22 : decode cJ6_bitCount_0f7a4 22 = .ok (.iadd, 1) := by decide +kernel
theorem dJ6_bitCount_0f7a4_23 : decode cJ6_bitCount_0f7a4 23 = .ok (.istore_n 0, 1) := by decide +kernel
theorem dJ6_bitCount_0f7a4_24 : decode cJ6_bitCount_0f7a4 24 = .ok (.iload_n 0, 1) := by decide +kernel
theorem dJ6_bitCount_0f7a4_25 : decode cJ6_bitCount_0f7a4 25 = .ok (.iload_n 0, 1) := by decide +kernel
theorem dJ6_bitCount_0f7a4_26 : decode cJ6_bitCount_0f7a4 26 = .ok (.iconst 4, 1) := by decide +kernel
theorem dJ6_bitCount_0f7a4_27 : decode cJ6_bitCount_0f7a4 27 = .ok (.iushr, 1) := by decide +kernel
theorem dJ6_bitCount_0f7a4_28 : decode cJ6_bitCount_0f7a4 28 = .ok (.iadd, 1) := by decide +kernel
theorem dJ6_bitCount_0f7a4_29 : decode cJ6_bitCount_0f7a4 29 = .ok (.ldc_w 267, 3) := by decide +kernel
theorem dJ6_bitCount_0f7a4_32 : decode cJ6_bitCount_0f7a4 32 = .ok (.iand, 1) := by decide +kernel
theorem dJ6_bitCount_0f7a4_33 : decode cJ6_bitCount_0f7a4 33 = .ok (.istore_n 0, 1) := by decide +kernel
theorem dJ6_bitCount_0f7a4_34 : decode cJ6_bitCount_0f7a4 34 = .ok (.iload_n 0, 1) := by decide +kernel
theorem dJ6_bitCount_0f7a4_35 : decode cJ6_bitCount_0f7a4 35 = .ok (.iload_n 0, 1) := by decide +kernel
theorem dJ6_bitCount_0f7a4_36 : decode cJ6_bitCount_0f7a4 36 = .ok (.bipush 8, 2) := by decide +kernel
theorem dJ6_bitCount_0f7a4_38 : decode cJ6_bitCount_0f7a4 38 = .ok (.iushr, 1) := by decide +kernel
theorem dJ6_bitCount_0f7a4_39 : decode cJ6_bitCount_0f7a4 39 = .ok (.iadd, 1) := by decide +kernel
theorem dJ6_bitCount_0f7a4_40 : decode cJ6_bitCount_0f7a4 40 = .ok (.istore_n 0, 1) := by decide +kernel
theorem dJ6_bitCount_0f7a4_41 : decode cJ6_bitCount_0f7a4 41 = .ok (.iload_n 0, 1) := by decide +kernel
theorem dJ6_bitCount_0f7a4_42 : decode cJ6_bitCount_0f7a4 42 = .ok (.iload_n 0, 1) := by decide +kernel
theorem dJ6_bitCount_0f7a4_43 : decode cJ6_bitCount_0f7a4 43 = .ok (.bipush 16, 2) := by decide +kernel
theorem dJ6_bitCount_0f7a4_45 : decode cJ6_bitCount_0f7a4 45 = .ok (.iushr, 1) := by decide +kernel
theorem dJ6_bitCount_0f7a4_46 : decode cJ6_bitCount_0f7a4 46 = .ok (.iadd, 1) := by decide +kernel
theorem dJ6_bitCount_0f7a4_47 : decode cJ6_bitCount_0f7a4 47 = .ok (.istore_n 0, 1) := by decide +kernel
theorem dJ6_bitCount_0f7a4_48 : decode cJ6_bitCount_0f7a4 48 = .ok (.iload_n 0, 1) := by decide +kernel
theorem dJ6_bitCount_0f7a4_49 : decode cJ6_bitCount_0f7a4 49 = .ok (.bipush 63, 2) := by decide +kernel
theorem dJ6_bitCount_0f7a4_51 : decode cJ6_bitCount_0f7a4 51 = .ok (.iand, 1) := by decide +kernel
theorem dJ6_bitCount_0f7a4_52 : decode cJ6_bitCount_0f7a4 52 = .ok (.ireturn, 1) := by decide +kernel
theorem dJ9_floorMod_f86c9_0 : decode cJ9_floorMod_f86c9 0 = .ok (.lload_n 0, 1) := by decide +kernel
theorem dJ9_floorMod_f86c9_1 : decode cJ9_floorMod_f86c9 1 = .ok (.lload_n 2, 1) := by decide +kernel
theorem dJ9_floorMod_f86c9_2 : decode cJ9_floorMod_f86c9 2 = .ok (.lrem, 1) := by decide +kernel
theorem dJ9_floorMod_f86c9_3 : decode cJ9_floorMod_f86c9 3 = .ok (.lstore 4, 2) := by decide +kernel
theorem dJ9_floorMod_f86c9_5 : decode cJ9_floorMod_f86c9 5 = .ok (.lload_n 0, 1) := by decide +kernel
theorem dJ9_floorMod_f86c9_6 : decode cJ9_floorMod_f86c9 6 = .ok (.lload_n 2, 1) := by decide +kernel
theorem dJ9_floorMod_f86c9_7 : decode cJ9_floorMod_f86c9 7 = .ok (.lxor, 1) := by decide +kernel
theorem dJ9_floorMod_f86c9_8 : decode cJ9_floorMod_f86c9 8 = .ok (.lconst 0, 1) := by decide +kernel
theorem dJ9_floorMod_f86c9_9 : decode cJ9_floorMod_f86c9 9 = .ok (.lcmp, 1) := by decide +kernel
theorem dJ9_floorMod_f86c9_10 : decode cJ9_floorMod_f86c9 10 = .ok (.ifCond .ge 15, 3) := by decide +kernel
theorem dJ9_floorMod_f86c9_13 : decode cJ9_floorMod_f86c9 13 = .ok (.lload 4, 2) := by decide +kernel
theorem dJ9_floorMod_f86c9_15 : decode cJ9_floorMod_f86c9 15 = .ok (.lconst 0, 1) := by decide +kernel
theorem dJ9_floorMod_f86c9_16 : decode cJ9_floorMod_f86c9 16 = .ok (.lcmp, 1) := by decide +kernel
theorem dJ9_floorMod_f86c9_17 : decode cJ9_floorMod_f86c9 17 = .ok (.ifCond .eq 8, 3) := by decide +kernel
theorem dJ9_floorMod_f86c9_20 : decode cJ9_floorMod_f86c9 20 = .ok (.lload 4, 2) := by decide +kernel
theorem dJ9_floorMod_f86c9_22 : decode cJ9_floorMod_f86c9 22 = .ok (.lload_n 2, 1) := by decide +kernel
theorem dJ9_floorMod_f86c9_23 : decode cJ9_floorMod_f86c9 23 = .ok (.ladd, 1) := by decide +kernel
theorem dJ9_floorMod_f86c9_24 : decode cJ9_floorMod_f86c9 24 = .ok (.lreturn, 1) := by decide +kernel
theorem dJ9_floorMod_f86c9_25 : decode cJ9_floorMod_f86c9 25 = .ok (.lload 4, 2) := by decide +kernel
theorem dJ9_floorMod_f86c9_27 : decode cJ9_floorMod_f86c9 27 = .ok (.lreturn, 1) := by decide +kernel
theorem dJ9_abs_067f4_0 : decode cJ9_abs_067f4 0 = .ok (.lload_n 0, 1) := by decide +kernel
theorem dJ9_abs_067f4_1 : decode cJ9_abs_067f4 1 = .ok (.lconst 0, 1) := by decide +kernel
theorem dJ9_abs_067f4_2 : decode cJ9_abs_067f4 2 = .ok (.lcmp, 1) := by decide +kernel
theorem dJ9_abs_067f4_3 : decode cJ9_abs_067f4 3 = .ok (.ifCond .ge 8, 3) := by decide +kernel
theorem dJ9_abs_067f4_6 : decode cJ9_abs_067f4 6 = .ok (.lload_n 0, 1) := by decide +kernel
theorem dJ9_abs_067f4_7 : decode cJ9_abs_067f4 7 = .ok (.lneg, 1) := by decide +kernel
theorem dJ9_abs_067f4_8 : decode cJ9_abs_067f4 8 = .ok (.goto 4, 3) := by decide +kernel
theorem dJ9_abs_067f4_11 : decode cJ9_abs_067f4 11 = .ok (.lload_n 0, 1) := by decide +kernel
theorem dJ9_abs_067f4_12 : decode cJ9_abs_067f4 12 = .ok (.lreturn, 1) := by decide +kernel
theorem dJ9_max_7cf53_0 : decode cJ9_max_7cf53 0 = .ok (.iload_n 0, 1) := by decide +kernel
theorem dJ9_max_7cf53_1 : decode cJ9_max_7cf53 1 = .ok (.iload_n 1, 1) := by decide +kernel
theorem dJ9_max_7cf53_2 : decode cJ9_max_7cf53 2 = .ok (.if_icmp .lt 7, 3) := by decide +kernel
theorem dJ9_max_7cf53_5 : decode cJ9_max_7cf53 5 = .ok (.iload_n 0, 1) := by decide +kernel
theorem dJ9_max_7cf53_6 : decode cJ9_max_7cf53 6 = .ok (.goto 4, 3) := by decide +kernel
theorem dJ9_max_7cf53_9 : decode cJ9_max_7cf53 9 = .ok (.iload_n 1, 1) := by decide +kernel
theorem dJ9_max_7cf53_10 : decode cJ9_max_7cf53 10 = .ok (.ireturn, 1) := by decide +kernel
theorem dJ9_min_7cf53_0 : decode cJ9_min_7cf53 0 = .ok (.iload_n 0, 1) := by decide +kernel
theorem dJ9_min_7cf53_1 : decode cJ9_min_7cf53 1 = .ok (.iload_n 1, 1) := by decide +kernel
theorem dJ9_min_7cf53_2 : decode cJ9_min_7cf53 2 = .ok (.if_icmp .gt 7, 3) := by decide +kernel
theorem dJ9_min_7cf53_5 : decode cJ9_min_7cf53 5 = .ok (.iload_n 0, 1) := by decide +kernel
theorem dJ9_min_7cf53_6 : decode cJ9_min_7cf53 6 = .ok (.goto 4, 3) := by decide +kernel
theorem dJ9_min_7cf53_9 : decode cJ9_min_7cf53 9 = .ok (.iload_n 1, 1) := by decide +kernel
theorem dJ9_min_7cf53_10 : decode cJ9_min_7cf53 10 = .ok (.ireturn, 1) := by decide +kernel
