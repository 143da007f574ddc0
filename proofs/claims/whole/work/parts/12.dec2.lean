theorem dX9_init_0 : decode cX9_init 0 = .ok (.aload_n 0, 1) := by decide +kernel
theorem dX9_init_1 : decode cX9_init 1 = .ok (.invokespecial 1, 3) := by decide +kernel
theorem dX9_init_4 : decode cX9_init 4 = .ok (.aload_n 0, 1) := by decide +kernel
theorem dX9_init_5 : decode cX9_init 5 = .ok (.iconst 0, 1) := by decide +kernel
theorem dX9_init_6 : decode cX9_init 6 = .ok (.putfield 7, 3) := by decide +kernel
theorem dX9_init_9 : decode cX9_init 9 = .ok (.aload_n 0, 1) := by decide +kernel
theorem dX9_init_10 : decode cX9_init 10 = .ok (.bipush 20, 2) := by decide +kernel
theorem dX9_init_12 : decode cX9_init 12 = .ok (.newarray .int, 2) := by decide +kernel
theorem dX9_init_14 : decode cX9_init 14 = .ok (.putfield 13, 3) := by decide +kernel
theorem dX9_init_17 : decode cX9_init 17 = .ok (.aload_n 0, 1) := by decide +kernel
theorem dX9_init_18 : decode cX9_init 18 = .ok (.bipush 20, 2) := by decide +kernel
theorem dX9_init_20 : decode cX9_init 20 = .ok (.newarray .long, 2) := by decide +kernel
theorem dX9_init_22 : decode cX9_init 22 = .ok (.putfield 17, 3) := by decide +kernel
theorem dX9_init_25 : decode cX9_init 25 = .ok (.aload_n 0, 1) := by decide +kernel
theorem dX9_init_26 : decode cX9_init 26 = .ok (.iconst 0, 1) := by decide +kernel
theorem dX9_init_27 : decode cX9_init 27 = .ok (.putfield 21, 3) := by decide +kernel
theorem dX9_init_30 : decode cX9_init 30 = .ok (.return_, 1) := by decide +kernel
theorem dX9_clear_0 : decode cX9_clear 0 = .ok (.aload_n 0, 1) := by decide +kernel
theorem dX9_clear_1 : decode cX9_clear 1 = .ok (.iconst 0, 1) := by decide +kernel
theorem dX9_clear_2 : decode cX9_clear 2 = .ok (.putfield 7, 3) := by decide +kernel
theorem dX9_clear_5 : decode cX9_clear 5 = .ok (.return_, 1) := by decide +kernel
theorem dX9_isFull_0 : decode cX9_isFull 0 = .ok (.aload_n 0, 1) := by decide +kernel
theorem dX9_isFull_1 : decode cX9_isFull 1 = .ok (.getfield 7, 3) := by decide +kernel
theorem dX9_isFull_4 : decode cX9_isFull 4 = .ok (.bipush 20, 2) := by decide +kernel
theorem dX9_isFull_6 : decode cX9_isFull 6 = .ok (.if_icmp .lt 7, 3) := by decide +kernel
theorem dX9_isFull_9 : decode cX9_isFull 9 = .ok (.iconst 1, 1) := by decide +kernel
theorem dX9_isFull_10 : decode cX9_isFull 10 = .ok (.goto 4, 3) := by decide +kernel
theorem dX9_isFull_13 : decode cX9_isFull 13 = .ok (.iconst 0, 1) := by decide +kernel
theorem dX9_isFull_14 : decode cX9_isFull 14 = .ok (.ireturn, 1) := by decide +kernel
theorem dX9_add_0 : decode cX9_add 0 = .ok (.aload_n 0, 1) := by decide +kernel
theorem dX9_add_1 : decode cX9_add 1 = .ok (.getfield 7, 3) := by decide +kernel
theorem dX9_add_4 : decode cX9_add 4 = .ok (.bipush 20, 2) := by decide +kernel
theorem dX9_add_6 : decode cX9_add 6 = .ok (.if_icmp .ge 33, 3) := by decide +kernel
theorem dX9_add_9 : decode cX9_add 9 = .ok (.aload_n 0, 1) := by decide +kernel
theorem dX9_add_10 : decode cX9_add 10 = .ok (.getfield 13, 3) := by decide +kernel
theorem dX9_add_13 : decode cX9_add 13 = .ok (.aload_n 0, 1) := by decide +kernel
theorem dX9_add_14 : decode cX9_add 14 = .ok (.getfield 7, 3) := by decide +kernel
theorem dX9_add_17 : decode cX9_add 17 = .ok (.iload_n 1, 1) := by decide +kernel
theorem dX9_add_18 : decode cX9_add 18 = .ok (.iastore, 1) := by decide +kernel
theorem dX9_add_19 : decode cX9_add 19 = .ok (.aload_n 0, 1) := by decide +kernel
theorem dX9_add_20 : decode cX9_add 20 = .ok (.getfield 17, 3) := by decide +kernel
theorem dX9_add_23 : decode cX9_add 23 = .ok (.aload_n 0, 1) := by decide +kernel
theorem dX9_add_24 : decode cX9_add 24 = .ok (.getfield 7, 3) := by decide +kernel
theorem dX9_add_27 : decode cX9_add 27 = .ok (.lload_n 2, 1) := by decide +kernel
theorem dX9_add_28 : decode cX9_add 28 = .ok (.lastore, 1) := by decide +kernel
theorem dX9_add_29 : decode cX9_add 29 = .ok (.aload_n 0, 1) := by decide +kernel
theorem dX9_add_30 : decode cX9_add 30 = .ok (.dup, 1) := by decide +kernel
theorem dX9_add_31 : decode cX9_add 31 = .ok (.getfield 7, 3) := by decide +kernel
theorem dX9_add_34 : decode cX9_add 34 = .ok (.iconst 1, 1) := by decide +kernel
theorem dX9_add_35 : decode cX9_add 35 = .ok (.iadd, 1) := by decide +kernel
theorem dX9_add_36 : decode cX9_add 36 = .ok (.putfield 7, 3) := by decide +kernel
theorem dX9_add_39 : decode cX9_add 39 = .ok (.return_, 1) := by decide +kernel
theorem dX9_copy_0 : decode cX9_copy 0 = .ok (.aload_n 0, 1) := by decide +kernel
theorem dX9_copy_1 : decode cX9_copy 1 = .ok (.aload_n 1, 1) := by decide +kernel
theorem dX9_copy_2 : decode cX9_copy 2 = .ok (.getfield 7, 3) := by decide +kernel
theorem dX9_copy_5 : decode cX9_copy 5 = .ok (.putfield 7, 3) := by decide +kernel
theorem dX9_copy_8 : decode cX9_copy 8 = .ok (.aload_n 1, 1) := by decide +kernel
theorem dX9_copy_9 : decode cX9_copy 9 = .ok (.getfield 13, 3) := by decide +kernel
theorem dX9_copy_12 : decode cX9_copy 12 = .ok (.iconst 0, 1) := by decide +kernel
theorem dX9_copy_13 : decode cX9_copy 13 = .ok (.aload_n 0, 1) := by decide +kernel
theorem dX9_copy_14 : decode cX9_copy 14 = .ok (.getfield 13, 3) := by decide +kernel
theorem dX9_copy_17 : decode cX9_copy 17 = .ok (.iconst 0, 1) := by decide +kernel
theorem dX9_copy_18 : decode cX9_copy 18 = .ok (.bipush 20, 2) := by decide +kernel
theorem dX9_copy_20 : decode cX9_copy 20 = .ok (.invokestatic 25, 3) := by decide +kernel
theorem dX9_copy_23 : decode cX9_copy 23 = .ok (.aload_n 1, 1) := by decide +kernel
theorem dX9_copy_24 : decode cX9_copy 24 = .ok (.getfield 17, 3) := by decide +kernel
theorem dX9_copy_27 : decode cX9_copy 27 = .ok (.iconst 0, 1) := by decide +kernel
theorem dX9_copy_28 : decode cX9_copy 28 = .ok (.aload_n 0, 1) := by decide +kernel
theorem dX9_copy_29 : decode cX9_copy 29 = .ok (.getfield 17, 3) := by decide +kernel
theorem dX9_copy_32 : decode cX9_copy 32 = .ok (.iconst 0, 1) := by decide +kernel
theorem dX9_copy_33 : decode cX9_copy 33 = .ok (.bipush 20, 2) := by decide +kernel
theorem dX9_copy_35 : decode cX9_copy 35 = .ok (.invokestatic 25, 3) := by decide +kernel
theorem dX9_copy_38 : decode cX9_copy 38 = .ok (.return_, 1) := by decide +kernel
set_option maxRecDepth 20000 in
theorem ggX10_init_X4_init : GoodIn wsX10_init wsX4_init := goodIn_r _ [17, 18, 2, 3, 7, 19, 9, 20, 21, 29, 30, 31] (by decide +kernel) (by decide +kernel)
set_option maxRecDepth 20000 in
theorem gX10_init_X4_init_n34 : GoodIn wsX10_init (wsX4_init) := ggX10_init_X4_init
theorem dX10_init_0 : decode cX10_init 0 = .ok (.aload_n 0, 1) := by decide +kernel
theorem dX10_init_1 : decode cX10_init 1 = .ok (.invokespecial 3, 3) := by decide +kernel
theorem dX10_init_4 : decode cX10_init 4 = .ok (.aload_n 0, 1) := by decide +kernel
theorem dX10_init_5 : decode cX10_init 5 = .ok (.iconst 0, 1) := by decide +kernel
theorem dX10_init_6 : decode cX10_init 6 = .ok (.putfield 9, 3) := by decide +kernel
theorem dX10_init_9 : decode cX10_init 9 = .ok (.aload_n 0, 1) := by decide +kernel
theorem dX10_init_10 : decode cX10_init 10 = .ok (.iconst 1, 1) := by decide +kernel
theorem dX10_init_11 : decode cX10_init 11 = .ok (.putfield 15, 3) := by decide +kernel
theorem dX10_init_14 : decode cX10_init 14 = .ok (.aload_n 0, 1) := by decide +kernel
theorem dX10_init_15 : decode cX10_init 15 = .ok (.iconst 0, 1) := by decide +kernel
theorem dX10_init_16 : decode cX10_init 16 = .ok (.putfield 18, 3) := by decide +kernel
theorem dX10_init_19 : decode cX10_init 19 = .ok (.aload_n 0, 1) := by decide +kernel
theorem dX10_init_20 : decode cX10_init 20 = .ok (.sipush 10000, 3) := by decide +kernel
theorem dX10_init_23 : decode cX10_init 23 = .ok (.newarray .long, 2) := by decide +kernel
theorem dX10_init_25 : decode cX10_init 25 = .ok (.putfield 21, 3) := by decide +kernel
theorem dX10_init_28 : decode cX10_init 28 = .ok (.aload_n 0, 1) := by decide +kernel
theorem dX10_init_29 : decode cX10_init 29 = .ok (.sipush 10000, 3) := by decide +kernel
theorem dX10_init_32 : decode cX10_init 32 = .ok (.newarray .int, 2) := by decide +kernel
theorem dX10_init_34 : decode cX10_init 34 = .ok (.putfield 25, 3) := by decide +kernel
theorem dX10_init_37 : decode cX10_init 37 = .ok (.aload_n 0, 1) := by decide +kernel
theorem dX10_init_38 : decode cX10_init 38 = .ok (.sipush 10000, 3) := by decide +kernel
theorem dX10_init_41 : decode cX10_init 41 = .ok (.newarray .int, 2) := by decide +kernel
theorem dX10_init_43 : decode cX10_init 43 = .ok (.putfield 29, 3) := by decide +kernel
theorem dX10_init_46 : decode cX10_init 46 = .ok (.aload_n 0, 1) := by decide +kernel
theorem dX10_init_47 : decode cX10_init 47 = .ok (.new 32, 3) := by decide +kernel
theorem dX10_init_50 : decode cX10_init 50 = .ok (.dup, 1) := by decide +kernel
theorem dX10_init_51 : decode cX10_init 51 = .ok (.invokespecial 34, 3) := by decide +kernel
theorem dX10_init_54 : decode cX10_init 54 = .ok (.putfield 35, 3) := by decide +kernel
theorem dX10_init_57 : decode cX10_init 57 = .ok (.return_, 1) := by decide +kernel
theorem dX10_settle_0 : decode cX10_settle 0 = .ok (.aload_n 0, 1) := by decide +kernel
theorem dX10_settle_1 : decode cX10_settle 1 = .ok (.iload_n 1, 1) := by decide +kernel
theorem dX10_settle_2 : decode cX10_settle 2 = .ok (.putfield 9, 3) := by decide +kernel
theorem dX10_settle_5 : decode cX10_settle 5 = .ok (.aload_n 0, 1) := by decide +kernel
theorem dX10_settle_6 : decode cX10_settle 6 = .ok (.iload_n 2, 1) := by decide +kernel
theorem dX10_settle_7 : decode cX10_settle 7 = .ok (.putfield 18, 3) := by decide +kernel
theorem dX10_settle_10 : decode cX10_settle 10 = .ok (.iconst 1, 1) := by decide +kernel
theorem dX10_settle_11 : decode cX10_settle 11 = .ok (.istore_n 3, 1) := by decide +kernel
theorem dX10_settle_12 : decode cX10_settle 12 = .ok (.aload_n 0, 1) := by decide +kernel
theorem dX10_settle_13 : decode cX10_settle 13 = .ok (.getfield 25, 3) := by decide +kernel
theorem dX10_settle_16 : decode cX10_settle 16 = .ok (.iconst 0, 1) := by decide +kernel
theorem dX10_settle_17 : decode cX10_settle 17 = .ok (.iconst 0, 1) := by decide +kernel
theorem dX10_settle_18 : decode cX10_settle 18 = .ok (.iastore, 1) := by decide +kernel
theorem dX10_settle_19 : decode cX10_settle 19 = .ok (.iconst 0, 1) := by decide +kernel
theorem dX10_settle_20 : decode cX10_settle 20 = .ok (.istore 4, 2) := by decide +kernel
theorem dX10_settle_22 : decode cX10_settle 22 = .ok (.iload 4, 2) := by decide +kernel
theorem dX10_settle_24 : decode cX10_settle 24 = .ok (.aload_n 0, 1) := by decide +kernel
theorem dX10_settle_25 : decode cX10_settle 25 = .ok (.getfield 9, 3) := by decide +kernel
theorem dX10_settle_28 : decode cX10_settle 28 = .ok (.if_icmp .ge 66, 3) := by decide +kernel
theorem dX10_settle_31 : decode cX10_settle 31 = .ok (.iload_n 3, 1) := by decide +kernel
theorem dX10_settle_32 : decode cX10_settle 32 = .ok (.istore 5, 2) := by decide +kernel
theorem dX10_settle_34 : decode cX10_settle 34 = .ok (.iload 5, 2) := by decide +kernel
theorem dX10_settle_36 : decode cX10_settle 36 = .ok (.istore 6, 2) := by decide +kernel
theorem dX10_settle_38 : decode cX10_settle 38 = .ok (.iload 6, 2) := by decide +kernel
theorem dX10_settle_40 : decode cX10_settle 40 = .ok (.iload 5, 2) := by decide +kernel
theorem dX10_settle_42 : decode cX10_settle 42 = .ok (.aload_n 0, 1) := by decide +kernel
theorem dX10_settle_43 : decode cX10_settle 43 = .ok (.getfield 18, 3) := by decide +kernel
theorem dX10_settle_46 : decode cX10_settle 46 = .ok (.iconst 1, 1) := by decide +kernel
theorem dX10_settle_47 : decode cX10_settle 47 = .ok (.iadd, 1) := by decide +kernel
theorem dX10_settle_48 : decode cX10_settle 48 = .ok (.imul, 1) := by decide +kernel
theorem dX10_settle_49 : decode cX10_settle 49 = .ok (.if_icmp .ge 39, 3) := by decide +kernel
theorem dX10_settle_52 : decode cX10_settle 52 = .ok (.iload 6, 2) := by decide +kernel
theorem dX10_settle_54 : decode cX10_settle 54 = .ok (.sipush 10000, 3) := by decide +kernel
theorem dX10_settle_57 : decode cX10_settle 57 = .ok (.if_icmp .ge 31, 3) := by decide +kernel
theorem dX10_settle_60 : decode cX10_settle 60 = .ok (.aload_n 0, 1) := by decide +kernel
theorem dX10_settle_61 : decode cX10_settle 61 = .ok (.getfield 25, 3) := by decide +kernel
theorem dX10_settle_64 : decode cX10_settle 64 = .ok (.iload 6, 2) := by decide +kernel
theorem dX10_settle_66 : decode cX10_settle 66 = .ok (.aload_n 0, 1) := by decide +kernel
theorem dX10_settle_67 : decode cX10_settle 67 = .ok (.getfield 25, 3) := by decide +kernel
theorem dX10_settle_70 : decode cX10_settle 70 = .ok (.iload 6, 2) := by decide +kernel
theorem dX10_settle_72 : decode cX10_settle 72 = .ok (.iload 5, 2) := by decide +kernel
theorem dX10_settle_74 : decode cX10_settle 74 = .ok (.irem, 1) := by decide +kernel
theorem dX10_settle_75 : decode cX10_settle 75 = .ok (.iaload, 1) := by decide +kernel
theorem dX10_settle_76 : decode cX10_settle 76 = .ok (.iconst 1, 1) := by decide +kernel
theorem dX10_settle_77 : decode cX10_settle 77 = .ok (.iadd, 1) := by decide +kernel
theorem dX10_settle_78 : decode cX10_settle 78 = .ok (.iastore, 1) := by decide +kernel
theorem dX10_settle_79 : decode cX10_settle 79 = .ok (.iinc 3 1, 3) := by decide +kernel
theorem dX10_settle_82 : decode cX10_settle 82 = .ok (.iinc 6 1, 3) := by decide +kernel
theorem dX10_settle_85 : decode cX10_settle 85 = .ok (.goto (-47), 3) := by decide +kernel
theorem dX10_settle_88 : decode cX10_settle 88 = .ok (.iinc 4 1, 3) := by decide +kernel
theorem dX10_settle_91 : decode cX10_settle 91 = .ok (.goto (-69), 3) := by decide +kernel
theorem dX10_settle_94 : decode cX10_settle 94 = .ok (.aload_n 0, 1) := by decide +kernel
theorem dX10_settle_95 : decode cX10_settle 95 = .ok (.iload_n 3, 1) := by decide +kernel
theorem dX10_settle_96 : decode cX10_settle 96 = .ok (.putfield 15, 3) := by decide +kernel
theorem dX10_settle_99 : decode cX10_settle 99 = .ok (.return_, 1) := by decide +kernel
theorem dX10_numberAt_0 : decode cX10_numberAt 0 = .ok (.iload_n 1, 1) := by decide +kernel
theorem dX10_numberAt_1 : decode cX10_numberAt 1 = .ok (.istore_n 3, 1) := by decide +kernel
theorem dX10_numberAt_2 : decode cX10_numberAt 2 = .ok (.aload_n 0, 1) := by decide +kernel
theorem dX10_numberAt_3 : decode cX10_numberAt 3 = .ok (.getfield 18, 3) := by decide +kernel
theorem dX10_numberAt_6 : decode cX10_numberAt 6 = .ok (.iconst 1, 1) := by decide +kernel
theorem dX10_numberAt_7 : decode cX10_numberAt 7 = .ok (.iadd, 1) := by decide +kernel
theorem dX10_numberAt_8 : decode cX10_numberAt 8 = .ok (.iconst 2, 1) := by decide +kernel
theorem dX10_numberAt_9 : decode cX10_numberAt 9 = .ok (.invokestatic 39, 3) := by decide +kernel
theorem dX10_numberAt_12 : decode cX10_numberAt 12 = .ok (.istore 4, 2) := by decide +kernel
theorem dX10_numberAt_14 : decode cX10_numberAt 14 = .ok (.iconst 0, 1) := by decide +kernel
theorem dX10_numberAt_15 : decode cX10_numberAt 15 = .ok (.istore 5, 2) := by decide +kernel
theorem dX10_numberAt_17 : decode cX10_numberAt 17 = .ok (.iload 5, 2) := by decide +kernel
theorem dX10_numberAt_19 : decode cX10_numberAt 19 = .ok (.iload_n 2, 1) := by decide +kernel
theorem dX10_numberAt_20 : decode cX10_numberAt 20 = .ok (.if_icmp .ge 14, 3) := by decide +kernel
theorem dX10_numberAt_23 : decode cX10_numberAt 23 = .ok (.iload_n 3, 1) := by decide +kernel
theorem dX10_numberAt_24 : decode cX10_numberAt 24 = .ok (.iload 4, 2) := by decide +kernel
theorem dX10_numberAt_26 : decode cX10_numberAt 26 = .ok (.idiv, 1) := by decide +kernel
theorem dX10_numberAt_27 : decode cX10_numberAt 27 = .ok (.istore_n 3, 1) := by decide +kernel
theorem dX10_numberAt_28 : decode cX10_numberAt 28 = .ok (.iinc 5 1, 3) := by decide +kernel
theorem dX10_numberAt_31 : decode cX10_numberAt 31 = .ok (.goto (-14), 3) := by decide +kernel
theorem dX10_numberAt_34 : decode cX10_numberAt 34 = .ok (.iload_n 3, 1) := by decide +kernel
theorem dX10_numberAt_35 : decode cX10_numberAt 35 = .ok (.iload 4, 2) := by decide +kernel
theorem dX10_numberAt_37 : decode cX10_numberAt 37 = .ok (.irem, 1) := by decide +kernel
theorem dX10_numberAt_38 : decode cX10_numberAt 38 = .ok (.ireturn, 1) := by decide +kernel
theorem dX10_comeBy_0 : decode cX10_comeBy 0 = .ok (.iconst 1, 1) := by decide +kernel
theorem dX10_comeBy_1 : decode cX10_comeBy 1 = .ok (.istore_n 3, 1) := by decide +kernel
theorem dX10_comeBy_2 : decode cX10_comeBy 2 = .ok (.lconst 1, 1) := by decide +kernel
theorem dX10_comeBy_3 : decode cX10_comeBy 3 = .ok (.lstore 4, 2) := by decide +kernel
theorem dX10_comeBy_5 : decode cX10_comeBy 5 = .ok (.aload_n 0, 1) := by decide +kernel
theorem dX10_comeBy_6 : decode cX10_comeBy 6 = .ok (.getfield 21, 3) := by decide +kernel
theorem dX10_comeBy_9 : decode cX10_comeBy 9 = .ok (.iconst 0, 1) := by decide +kernel
theorem dX10_comeBy_10 : decode cX10_comeBy 10 = .ok (.lconst 0, 1) := by decide +kernel
theorem dX10_comeBy_11 : decode cX10_comeBy 11 = .ok (.lastore, 1) := by decide +kernel
theorem dX10_comeBy_12 : decode cX10_comeBy 12 = .ok (.iconst 0, 1) := by decide +kernel
theorem dX10_comeBy_13 : decode cX10_comeBy 13 = .ok (.istore 6, 2) := by decide +kernel
theorem dX10_comeBy_15 : decode cX10_comeBy 15 = .ok (.iload 6, 2) := by decide +kernel
theorem dX10_comeBy_17 : decode cX10_comeBy 17 = .ok (.aload_n 0, 1) := by decide +kernel
theorem dX10_comeBy_18 : decode cX10_comeBy 18 = .ok (.getfield 9, 3) := by decide +kernel
theorem dX10_comeBy_21 : decode cX10_comeBy 21 = .ok (.if_icmp .ge 67, 3) := by decide +kernel
theorem dX10_comeBy_24 : decode cX10_comeBy 24 = .ok (.iload_n 3, 1) := by decide +kernel
theorem dX10_comeBy_25 : decode cX10_comeBy 25 = .ok (.istore 7, 2) := by decide +kernel
theorem dX10_comeBy_27 : decode cX10_comeBy 27 = .ok (.iconst 0, 1) := by decide +kernel
theorem dX10_comeBy_28 : decode cX10_comeBy 28 = .ok (.istore 8, 2) := by decide +kernel
theorem dX10_comeBy_30 : decode cX10_comeBy 30 = .ok (.iload 8, 2) := by decide +kernel
theorem dX10_comeBy_32 : decode cX10_comeBy 32 = .ok (.iload 7, 2) := by decide +kernel
theorem dX10_comeBy_34 : decode cX10_comeBy 34 = .ok (.aload_n 0, 1) := by decide +kernel
theorem dX10_comeBy_35 : decode cX10_comeBy 35 = .ok (.getfield 18, 3) := by decide +kernel
theorem dX10_comeBy_38 : decode cX10_comeBy 38 = .ok (.imul, 1) := by decide +kernel
theorem dX10_comeBy_39 : decode cX10_comeBy 39 = .ok (.if_icmp .ge 37, 3) := by decide +kernel
theorem dX10_comeBy_42 : decode cX10_comeBy 42 = .ok (.iload_n 3, 1) := by decide +kernel
theorem dX10_comeBy_43 : decode cX10_comeBy 43 = .ok (.sipush 10000, 3) := by decide +kernel
theorem dX10_comeBy_46 : decode cX10_comeBy 46 = .ok (.if_icmp .ge 30, 3) := by decide +kernel
theorem dX10_comeBy_49 : decode cX10_comeBy 49 = .ok (.aload_n 0, 1) := by decide +kernel
theorem dX10_comeBy_50 : decode cX10_comeBy 50 = .ok (.getfield 21, 3) := by decide +kernel
theorem dX10_comeBy_53 : decode cX10_comeBy 53 = .ok (.iload_n 3, 1) := by decide +kernel
theorem dX10_comeBy_54 : decode cX10_comeBy 54 = .ok (.aload_n 0, 1) := by decide +kernel
theorem dX10_comeBy_55 : decode cX10_comeBy 55 = .ok (.getfield 21, 3) := by decide +kernel
theorem dX10_comeBy_58 : decode cX10_comeBy 58 = .ok (.iload_n 3, 1) := by decide +kernel
theorem dX10_comeBy_59 : decode cX10_comeBy 59 = .ok (.iload 7, 2) := by decide +kernel
theorem dX10_comeBy_61 : decode cX10_comeBy 61 = .ok (.isub, 1) := by decide +kernel
theorem dX10_comeBy_62 : decode cX10_comeBy 62 = .ok (.laload, 1) := by decide +kernel
theorem dX10_comeBy_63 : decode cX10_comeBy 63 = .ok (.lload 4, 2) := by decide +kernel
theorem dX10_comeBy_65 : decode cX10_comeBy 65 = .ok (.ladd, 1) := by decide +kernel
theorem dX10_comeBy_66 : decode cX10_comeBy 66 = .ok (.lastore, 1) := by decide +kernel
theorem dX10_comeBy_67 : decode cX10_comeBy 67 = .ok (.iinc 3 1, 3) := by decide +kernel
theorem dX10_comeBy_70 : decode cX10_comeBy 70 = .ok (.iinc 8 1, 3) := by decide +kernel
theorem dX10_comeBy_73 : decode cX10_comeBy 73 = .ok (.goto (-43), 3) := by decide +kernel
theorem dX10_comeBy_76 : decode cX10_comeBy 76 = .ok (.lload 4, 2) := by decide +kernel
theorem dX10_comeBy_78 : decode cX10_comeBy 78 = .ok (.lload_n 1, 1) := by decide +kernel
theorem dX10_comeBy_79 : decode cX10_comeBy 79 = .ok (.lmul, 1) := by decide +kernel
theorem dX10_comeBy_80 : decode cX10_comeBy 80 = .ok (.lstore 4, 2) := by decide +kernel
theorem dX10_comeBy_82 : decode cX10_comeBy 82 = .ok (.iinc 6 1, 3) := by decide +kernel
theorem dX10_comeBy_85 : decode cX10_comeBy 85 = .ok (.goto (-70), 3) := by decide +kernel
theorem dX10_comeBy_88 : decode cX10_comeBy 88 = .ok (.return_, 1) := by decide +kernel
set_option maxRecDepth 20000 in
theorem ggX10_howManyComeTo_X10_comeBy : GoodIn wsX10_howManyComeTo wsX10_comeBy := goodIn_r _ [7, 2, 8, 9, 10, 11, 12, 13, 14, 15, 16] (by decide +kernel) (by decide +kernel)
set_option maxRecDepth 20000 in
theorem gX10_howManyComeTo_X10_comeBy : GoodIn wsX10_howManyComeTo (wsV RX10 45 RX10 yX10_comeBy wsX10_comeBy) := goodIn_app (goodIn_of _ (by decide +kernel)) ggX10_howManyComeTo_X10_comeBy
theorem dX10_howManyComeTo_0 : decode cX10_howManyComeTo 0 = .ok (.aload_n 0, 1) := by decide +kernel
theorem dX10_howManyComeTo_1 : decode cX10_howManyComeTo 1 = .ok (.iload_n 1, 1) := by decide +kernel
theorem dX10_howManyComeTo_2 : decode cX10_howManyComeTo 2 = .ok (.i2l, 1) := by decide +kernel
theorem dX10_howManyComeTo_3 : decode cX10_howManyComeTo 3 = .ok (.invokevirtual 45, 3) := by decide +kernel
theorem dX10_howManyComeTo_6 : decode cX10_howManyComeTo 6 = .ok (.iconst 0, 1) := by decide +kernel
theorem dX10_howManyComeTo_7 : decode cX10_howManyComeTo 7 = .ok (.istore 4, 2) := by decide +kernel
theorem dX10_howManyComeTo_9 : decode cX10_howManyComeTo 9 = .ok (.iconst 0, 1) := by decide +kernel
theorem dX10_howManyComeTo_10 : decode cX10_howManyComeTo 10 = .ok (.istore 5, 2) := by decide +kernel
theorem dX10_howManyComeTo_12 : decode cX10_howManyComeTo 12 = .ok (.iload 5, 2) := by decide +kernel
theorem dX10_howManyComeTo_14 : decode cX10_howManyComeTo 14 = .ok (.aload_n 0, 1) := by decide +kernel
theorem dX10_howManyComeTo_15 : decode cX10_howManyComeTo 15 = .ok (.getfield 15, 3) := by decide +kernel
theorem dX10_howManyComeTo_18 : decode cX10_howManyComeTo 18 = .ok (.if_icmp .ge 24, 3) := by decide +kernel
theorem dX10_howManyComeTo_21 : decode cX10_howManyComeTo 21 = .ok (.aload_n 0, 1) := by decide +kernel
theorem dX10_howManyComeTo_22 : decode cX10_howManyComeTo 22 = .ok (.getfield 21, 3) := by decide +kernel
theorem dX10_howManyComeTo_25 : decode cX10_howManyComeTo 25 = .ok (.iload 5, 2) := by decide +kernel
theorem dX10_howManyComeTo_27 : decode cX10_howManyComeTo 27 = .ok (.laload, 1) := by decide +kernel
theorem dX10_howManyComeTo_28 : decode cX10_howManyComeTo 28 = .ok (.lload_n 2, 1) := by decide +kernel
theorem dX10_howManyComeTo_29 : decode cX10_howManyComeTo 29 = .ok (.lcmp, 1) := by decide +kernel
theorem dX10_howManyComeTo_30 : decode cX10_howManyComeTo 30 = .ok (.ifCond .ne 6, 3) := by decide +kernel
theorem dX10_howManyComeTo_33 : decode cX10_howManyComeTo 33 = .ok (.iinc 4 1, 3) := by decide +kernel
theorem dX10_howManyComeTo_36 : decode cX10_howManyComeTo 36 = .ok (.iinc 5 1, 3) := by decide +kernel
theorem dX10_howManyComeTo_39 : decode cX10_howManyComeTo 39 = .ok (.goto (-27), 3) := by decide +kernel
theorem dX10_howManyComeTo_42 : decode cX10_howManyComeTo 42 = .ok (.iload 4, 2) := by decide +kernel
theorem dX10_howManyComeTo_44 : decode cX10_howManyComeTo 44 = .ok (.ireturn, 1) := by decide +kernel
set_option maxRecDepth 20000 in
theorem ggX10_clashing_X10_comeBy : GoodIn wsX10_clashing wsX10_comeBy := goodIn_r _ [8, 3, 9, 10, 31, 32, 33, 34, 35, 36, 37] (by decide +kernel) (by decide +kernel)
set_option maxRecDepth 20000 in
theorem gX10_clashing_X10_comeBy : GoodIn wsX10_clashing (wsV RX10 45 RX10 yX10_comeBy wsX10_comeBy) := goodIn_app (goodIn_of _ (by decide +kernel)) ggX10_clashing_X10_comeBy
set_option maxRecDepth 20000 in
theorem ggX10_clashing_X4_clear : GoodIn wsX10_clashing wsX4_clear := goodIn_r _ [15, 16, 17, 18, 19, 20, 21, 22, 23, 24, 38, 39, 40] (by decide +kernel) (by decide +kernel)
set_option maxRecDepth 20000 in
theorem gX10_clashing_X4_clear : GoodIn wsX10_clashing (wsV RX10 49 RX4 yX4_clear wsX4_clear) := goodIn_app (goodIn_of _ (by decide +kernel)) ggX10_clashing_X4_clear
set_option maxRecDepth 20000 in
theorem ggX10_clashing_X4_leaderOf : GoodIn wsX10_clashing wsX4_leaderOf := goodIn_r _ [28, 29, 16, 17, 30, 38, 39, 40] (by decide +kernel) (by decide +kernel)
set_option maxRecDepth 20000 in
theorem gX10_clashing_X4_leaderOf : GoodIn wsX10_clashing (wsV RX10 53 RX4 yX4_leaderOf wsX4_leaderOf) := goodIn_app (goodIn_of _ (by decide +kernel)) ggX10_clashing_X4_leaderOf
theorem dX10_clashing_0 : decode cX10_clashing 0 = .ok (.aload_n 0, 1) := by decide +kernel
theorem dX10_clashing_1 : decode cX10_clashing 1 = .ok (.iload_n 1, 1) := by decide +kernel
theorem dX10_clashing_2 : decode cX10_clashing 2 = .ok (.i2l, 1) := by decide +kernel
theorem dX10_clashing_3 : decode cX10_clashing 3 = .ok (.invokevirtual 45, 3) := by decide +kernel
theorem dX10_clashing_6 : decode cX10_clashing 6 = .ok (.aload_n 0, 1) := by decide +kernel
theorem dX10_clashing_7 : decode cX10_clashing 7 = .ok (.getfield 35, 3) := by decide +kernel
theorem dX10_clashing_10 : decode cX10_clashing 10 = .ok (.aload_n 0, 1) := by decide +kernel
theorem dX10_clashing_11 : decode cX10_clashing 11 = .ok (.getfield 15, 3) := by decide +kernel
theorem dX10_clashing_14 : decode cX10_clashing 14 = .ok (.invokevirtual 49, 3) := by decide +kernel
theorem dX10_clashing_17 : decode cX10_clashing 17 = .ok (.iconst 0, 1) := by decide +kernel
theorem dX10_clashing_18 : decode cX10_clashing 18 = .ok (.istore_n 3, 1) := by decide +kernel
theorem dX10_clashing_19 : decode cX10_clashing 19 = .ok (.iload_n 3, 1) := by decide +kernel
theorem dX10_clashing_20 : decode cX10_clashing 20 = .ok (.aload_n 0, 1) := by decide +kernel
theorem dX10_clashing_21 : decode cX10_clashing 21 = .ok (.getfield 15, 3) := by decide +kernel
theorem dX10_clashing_24 : decode cX10_clashing 24 = .ok (.if_icmp .ge 42, 3) := by decide +kernel
theorem dX10_clashing_27 : decode cX10_clashing 27 = .ok (.aload_n 0, 1) := by decide +kernel
theorem dX10_clashing_28 : decode cX10_clashing 28 = .ok (.getfield 35, 3) := by decide +kernel
theorem dX10_clashing_31 : decode cX10_clashing 31 = .ok (.aload_n 0, 1) := by decide +kernel
theorem dX10_clashing_32 : decode cX10_clashing 32 = .ok (.getfield 21, 3) := by decide +kernel
theorem dX10_clashing_35 : decode cX10_clashing 35 = .ok (.iload_n 3, 1) := by decide +kernel
theorem dX10_clashing_36 : decode cX10_clashing 36 = .ok (.laload, 1) := by decide +kernel
theorem dX10_clashing_37 : decode cX10_clashing 37 = .ok (.iload_n 3, 1) := by decide +kernel
theorem dX10_clashing_38 : decode cX10_clashing 38 = .ok (.invokevirtual 53, 3) := by decide +kernel
theorem dX10_clashing_41 : decode cX10_clashing 41 = .ok (.istore 4, 2) := by decide +kernel
theorem dX10_clashing_43 : decode cX10_clashing 43 = .ok (.iload 4, 2) := by decide +kernel
theorem dX10_clashing_45 : decode cX10_clashing 45 = .ok (.iload_n 3, 1) := by decide +kernel
theorem dX10_clashing_46 : decode cX10_clashing 46 = .ok (.if_icmp .eq 14, 3) := by decide +kernel
theorem dX10_clashing_49 : decode cX10_clashing 49 = .ok (.iload_n 2, 1) := by decide +kernel
theorem dX10_clashing_50 : decode cX10_clashing 50 = .ok (.ifCond .eq 7, 3) := by decide +kernel
theorem dX10_clashing_53 : decode cX10_clashing 53 = .ok (.iload_n 3, 1) := by decide +kernel
theorem dX10_clashing_54 : decode cX10_clashing 54 = .ok (.goto 5, 3) := by decide +kernel
theorem dX10_clashing_57 : decode cX10_clashing 57 = .ok (.iload 4, 2) := by decide +kernel
theorem dX10_clashing_59 : decode cX10_clashing 59 = .ok (.ireturn, 1) := by decide +kernel
theorem dX10_clashing_60 : decode cX10_clashing 60 = .ok (.iinc 3 1, 3) := by decide +kernel
theorem dX10_clashing_63 : decode cX10_clashing 63 = .ok (.goto (-44), 3) := by decide +kernel
theorem dX10_clashing_66 : decode cX10_clashing 66 = .ok (.bipush (-2), 2) := by decide +kernel
theorem dX10_clashing_68 : decode cX10_clashing 68 = .ok (.ireturn, 1) := by decide +kernel
set_option maxRecDepth 20000 in
theorem ggX10_fewestNumbers_J7_fill_53178 : GoodIn wsX10_fewestNumbers wsJ7_fill_53178 := goodIn_r _ [5] (by decide +kernel) (by decide +kernel)
set_option maxRecDepth 20000 in
theorem gX10_fewestNumbers_J7_fill_53178 : GoodIn wsX10_fewestNumbers (va_wsS RX10 57 yJ7_fill_53178 wsJ7_fill_53178) := goodIn_app (goodIn_of _ (by decide +kernel)) ggX10_fewestNumbers_J7_fill_53178
set_option maxRecDepth 20000 in
theorem ggX10_fewestNumbers_X10_partGroups : GoodIn wsX10_fewestNumbers wsX10_partGroups := goodIn_r _ [10, 11, 12, 13, 1, 14, 15, 16, 17, 18, 9, 19, 20, 21, 22, 23, 24, 25, 26, 27, 28, 29, 30, 4, 31, 32, 33, 34, 35, 36, 37, 38, 39, 40, 41, 42, 43, 44, 45, 46, 47, 48, 49, 50] (by decide +kernel) (by decide +kernel)
set_option maxRecDepth 20000 in
theorem gX10_fewestNumbers_X10_partGroups : GoodIn wsX10_fewestNumbers (wsV RX10 63 RX10 yX10_partGroups wsX10_partGroups) := goodIn_app (goodIn_of _ (by decide +kernel)) ggX10_fewestNumbers_X10_partGroups
theorem dX10_fewestNumbers_0 : decode cX10_fewestNumbers 0 = .ok (.aload_n 0, 1) := by decide +kernel
theorem dX10_fewestNumbers_1 : decode cX10_fewestNumbers 1 = .ok (.getfield 29, 3) := by decide +kernel
theorem dX10_fewestNumbers_4 : decode cX10_fewestNumbers 4 = .ok (.iconst 0, 1) := by decide +kernel
theorem dX10_fewestNumbers_5 : decode cX10_fewestNumbers 5 = .ok (.invokestatic 57, 3) := by decide +kernel
theorem dX10_fewestNumbers_8 : decode cX10_fewestNumbers 8 = .ok (.iconst 1, 1) := by decide +kernel
theorem dX10_fewestNumbers_9 : decode cX10_fewestNumbers 9 = .ok (.istore_n 2, 1) := by decide +kernel
theorem dX10_fewestNumbers_10 : decode cX10_fewestNumbers 10 = .ok (.iload_n 2, 1) := by decide +kernel
theorem dX10_fewestNumbers_11 : decode cX10_fewestNumbers 11 = .ok (.bipush 9, 2) := by decide +kernel
theorem dX10_fewestNumbers_13 : decode cX10_fewestNumbers 13 = .ok (.if_icmp .gt 20, 3) := by decide +kernel
theorem dX10_fewestNumbers_16 : decode cX10_fewestNumbers 16 = .ok (.aload_n 0, 1) := by decide +kernel
theorem dX10_fewestNumbers_17 : decode cX10_fewestNumbers 17 = .ok (.iload_n 2, 1) := by decide +kernel
theorem dX10_fewestNumbers_18 : decode cX10_fewestNumbers 18 = .ok (.iload_n 1, 1) := by decide +kernel
theorem dX10_fewestNumbers_19 : decode cX10_fewestNumbers 19 = .ok (.invokevirtual 63, 3) := by decide +kernel
theorem dX10_fewestNumbers_22 : decode cX10_fewestNumbers 22 = .ok (.ifCond .eq 5, 3) := by decide +kernel
theorem dX10_fewestNumbers_25 : decode cX10_fewestNumbers 25 = .ok (.iload_n 2, 1) := by decide +kernel
theorem dX10_fewestNumbers_26 : decode cX10_fewestNumbers 26 = .ok (.ireturn, 1) := by decide +kernel
theorem dX10_fewestNumbers_27 : decode cX10_fewestNumbers 27 = .ok (.iinc 2 1, 3) := by decide +kernel
theorem dX10_fewestNumbers_30 : decode cX10_fewestNumbers 30 = .ok (.goto (-20), 3) := by decide +kernel
theorem dX10_fewestNumbers_33 : decode cX10_fewestNumbers 33 = .ok (.bipush (-2), 2) := by decide +kernel
theorem dX10_fewestNumbers_35 : decode cX10_fewestNumbers 35 = .ok (.ireturn, 1) := by decide +kernel
set_option maxRecDepth 20000 in
theorem ggX10_partGroups_X10_comeBy : GoodIn wsX10_partGroups wsX10_comeBy := goodIn_r _ [11, 6, 12, 13, 34, 35, 36, 37, 38, 39, 40] (by decide +kernel) (by decide +kernel)
set_option maxRecDepth 20000 in
theorem gX10_partGroups_X10_comeBy : GoodIn wsX10_partGroups (wsV RX10 45 RX10 yX10_comeBy wsX10_comeBy) := goodIn_app (goodIn_of _ (by decide +kernel)) ggX10_partGroups_X10_comeBy
set_option maxRecDepth 20000 in
theorem ggX10_partGroups_X4_clear : GoodIn wsX10_partGroups wsX4_clear := goodIn_r _ [18, 19, 20, 21, 22, 23, 24, 25, 26, 27, 41, 42, 43] (by decide +kernel) (by decide +kernel)
set_option maxRecDepth 20000 in
theorem gX10_partGroups_X4_clear : GoodIn wsX10_partGroups (wsV RX10 49 RX4 yX4_clear wsX4_clear) := goodIn_app (goodIn_of _ (by decide +kernel)) ggX10_partGroups_X4_clear
set_option maxRecDepth 20000 in
theorem ggX10_partGroups_X4_leaderOf : GoodIn wsX10_partGroups wsX4_leaderOf := goodIn_r _ [31, 32, 19, 20, 33, 41, 42, 43] (by decide +kernel) (by decide +kernel)
set_option maxRecDepth 20000 in
theorem gX10_partGroups_X4_leaderOf : GoodIn wsX10_partGroups (wsV RX10 53 RX4 yX4_leaderOf wsX4_leaderOf) := goodIn_app (goodIn_of _ (by decide +kernel)) ggX10_partGroups_X4_leaderOf
theorem dX10_partGroups_0 : decode cX10_partGroups 0 = .ok (.iconst 1, 1) := by decide +kernel
theorem dX10_partGroups_1 : decode cX10_partGroups 1 = .ok (.istore_n 3, 1) := by decide +kernel
theorem dX10_partGroups_2 : decode cX10_partGroups 2 = .ok (.aload_n 0, 1) := by decide +kernel
theorem dX10_partGroups_3 : decode cX10_partGroups 3 = .ok (.iload_n 1, 1) := by decide +kernel
theorem dX10_partGroups_4 : decode cX10_partGroups 4 = .ok (.i2l, 1) := by decide +kernel
theorem dX10_partGroups_5 : decode cX10_partGroups 5 = .ok (.invokevirtual 45, 3) := by decide +kernel
theorem dX10_partGroups_8 : decode cX10_partGroups 8 = .ok (.aload_n 0, 1) := by decide +kernel
theorem dX10_partGroups_9 : decode cX10_partGroups 9 = .ok (.getfield 35, 3) := by decide +kernel
theorem dX10_partGroups_12 : decode cX10_partGroups 12 = .ok (.aload_n 0, 1) := by decide +kernel
theorem dX10_partGroups_13 : decode cX10_partGroups 13 = .ok (.getfield 15, 3) := by decide +kernel
theorem dX10_partGroups_16 : decode cX10_partGroups 16 = .ok (.invokevirtual 49, 3) := by decide +kernel
theorem dX10_partGroups_19 : decode cX10_partGroups 19 = .ok (.iconst 0, 1) := by decide +kernel
theorem dX10_partGroups_20 : decode cX10_partGroups 20 = .ok (.istore 4, 2) := by decide +kernel
theorem dX10_partGroups_22 : decode cX10_partGroups 22 = .ok (.iload 4, 2) := by decide +kernel
theorem dX10_partGroups_24 : decode cX10_partGroups 24 = .ok (.aload_n 0, 1) := by decide +kernel
theorem dX10_partGroups_25 : decode cX10_partGroups 25 = .ok (.getfield 15, 3) := by decide +kernel
theorem dX10_partGroups_28 : decode cX10_partGroups 28 = .ok (.if_icmp .ge 78, 3) := by decide +kernel
theorem dX10_partGroups_31 : decode cX10_partGroups 31 = .ok (.aload_n 0, 1) := by decide +kernel
theorem dX10_partGroups_32 : decode cX10_partGroups 32 = .ok (.getfield 25, 3) := by decide +kernel
theorem dX10_partGroups_35 : decode cX10_partGroups 35 = .ok (.iload 4, 2) := by decide +kernel
theorem dX10_partGroups_37 : decode cX10_partGroups 37 = .ok (.iaload, 1) := by decide +kernel
theorem dX10_partGroups_38 : decode cX10_partGroups 38 = .ok (.iload_n 2, 1) := by decide +kernel
theorem dX10_partGroups_39 : decode cX10_partGroups 39 = .ok (.if_icmp .gt 61, 3) := by decide +kernel
theorem dX10_partGroups_42 : decode cX10_partGroups 42 = .ok (.aload_n 0, 1) := by decide +kernel
theorem dX10_partGroups_43 : decode cX10_partGroups 43 = .ok (.getfield 29, 3) := by decide +kernel
theorem dX10_partGroups_46 : decode cX10_partGroups 46 = .ok (.iload 4, 2) := by decide +kernel
theorem dX10_partGroups_48 : decode cX10_partGroups 48 = .ok (.aload_n 0, 1) := by decide +kernel
theorem dX10_partGroups_49 : decode cX10_partGroups 49 = .ok (.getfield 35, 3) := by decide +kernel
theorem dX10_partGroups_52 : decode cX10_partGroups 52 = .ok (.aload_n 0, 1) := by decide +kernel
theorem dX10_partGroups_53 : decode cX10_partGroups 53 = .ok (.getfield 29, 3) := by decide +kernel
theorem dX10_partGroups_56 : decode cX10_partGroups 56 = .ok (.iload 4, 2) := by decide +kernel
theorem dX10_partGroups_58 : decode cX10_partGroups 58 = .ok (.iaload, 1) := by decide +kernel
theorem dX10_partGroups_59 : decode cX10_partGroups 59 = .ok (.i2l, 1) := by decide +kernel
theorem dX10_partGroups_60 : decode cX10_partGroups 60 = .ok (.ldc2_w 67, 3) := by decide +kernel
theorem dX10_partGroups_63 : decode cX10_partGroups 63 = .ok (.lmul, 1) := by decide +kernel
theorem dX10_partGroups_64 : decode cX10_partGroups 64 = .ok (.aload_n 0, 1) := by decide +kernel
theorem dX10_partGroups_65 : decode cX10_partGroups 65 = .ok (.getfield 21, 3) := by decide +kernel
theorem dX10_partGroups_68 : decode cX10_partGroups 68 = .ok (.iload 4, 2) := by decide +kernel
theorem dX10_partGroups_70 : decode cX10_partGroups 70 = .ok (.laload, 1) := by decide +kernel
theorem dX10_partGroups_71 : decode cX10_partGroups 71 = .ok (.ladd, 1) := by decide +kernel
theorem dX10_partGroups_72 : decode cX10_partGroups 72 = .ok (.iload 4, 2) := by decide +kernel
theorem dX10_partGroups_74 : decode cX10_partGroups 74 = .ok (.invokevirtual 53, 3) := by decide +kernel
theorem dX10_partGroups_77 : decode cX10_partGroups 77 = .ok (.iastore, 1) := by decide +kernel
theorem dX10_partGroups_78 : decode cX10_partGroups 78 = .ok (.iload_n 3, 1) := by decide +kernel
theorem dX10_partGroups_79 : decode cX10_partGroups 79 = .ok (.ifCond .eq 19, 3) := by decide +kernel
theorem dX10_partGroups_82 : decode cX10_partGroups 82 = .ok (.aload_n 0, 1) := by decide +kernel
theorem dX10_partGroups_83 : decode cX10_partGroups 83 = .ok (.getfield 29, 3) := by decide +kernel
theorem dX10_partGroups_86 : decode cX10_partGroups 86 = .ok (.iload 4, 2) := by decide +kernel
theorem dX10_partGroups_88 : decode cX10_partGroups 88 = .ok (.iaload, 1) := by decide +kernel
theorem dX10_partGroups_89 : decode cX10_partGroups 89 = .ok (.iload 4, 2) := by decide +kernel
theorem dX10_partGroups_91 : decode cX10_partGroups 91 = .ok (.if_icmp .ne 7, 3) := by decide +kernel
theorem dX10_partGroups_94 : decode cX10_partGroups 94 = .ok (.iconst 1, 1) := by decide +kernel
theorem dX10_partGroups_95 : decode cX10_partGroups 95 = .ok (.goto 4, 3) := by decide +kernel
theorem dX10_partGroups_98 : decode cX10_partGroups 98 = .ok (.iconst 0, 1) := by decide +kernel
theorem dX10_partGroups_99 : decode cX10_partGroups 99 = .ok (.istore_n 3, 1) := by decide +kernel
theorem dX10_partGroups_100 : decode cX10_partGroups 100 = .ok (.iinc 4 1, 3) := by decide +kernel
theorem dX10_partGroups_103 : decode cX10_partGroups 103 = .ok (.goto (-81), 3) := by decide +kernel
theorem dX10_partGroups_106 : decode cX10_partGroups 106 = .ok (.iload_n 3, 1) := by decide +kernel
theorem dX10_partGroups_107 : decode cX10_partGroups 107 = .ok (.ireturn, 1) := by decide +kernel
