theorem dX12_ask_68 : decode cX12_ask 68 = .ok (.getfield 268, 3) := by decide +kernel
theorem dX12_ask_71 : decode cX12_ask 71 = .ok (.aload_n 0, 1) := by decide +kernel
theorem dX12_ask_72 : decode cX12_ask 72 = .ok (.getfield 79, 3) := by decide +kernel
theorem dX12_ask_75 : decode cX12_ask 75 = .ok (.aload_n 0, 1) := by decide +kernel
theorem dX12_ask_76 : decode cX12_ask 76 = .ok (.getfield 243, 3) := by decide +kernel
theorem dX12_ask_79 : decode cX12_ask 79 = .ok (.iaload, 1) := by decide +kernel
theorem dX12_ask_80 : decode cX12_ask 80 = .ok (.irem, 1) := by decide +kernel
theorem dX12_ask_81 : decode cX12_ask 81 = .ok (.ifCond .ne 7, 3) := by decide +kernel
theorem dX12_ask_84 : decode cX12_ask 84 = .ok (.lload_n 2, 1) := by decide +kernel
theorem dX12_ask_85 : decode cX12_ask 85 = .ok (.lconst 1, 1) := by decide +kernel
theorem dX12_ask_86 : decode cX12_ask 86 = .ok (.ladd, 1) := by decide +kernel
theorem dX12_ask_87 : decode cX12_ask 87 = .ok (.lstore_n 2, 1) := by decide +kernel
theorem dX12_ask_88 : decode cX12_ask 88 = .ok (.aload_n 0, 1) := by decide +kernel
theorem dX12_ask_89 : decode cX12_ask 89 = .ok (.getfield 132, 3) := by decide +kernel
theorem dX12_ask_92 : decode cX12_ask 92 = .ok (.aload_n 0, 1) := by decide +kernel
theorem dX12_ask_93 : decode cX12_ask 93 = .ok (.getfield 265, 3) := by decide +kernel
theorem dX12_ask_96 : decode cX12_ask 96 = .ok (.iload_n 1, 1) := by decide +kernel
theorem dX12_ask_97 : decode cX12_ask 97 = .ok (.iastore, 1) := by decide +kernel
theorem dX12_ask_98 : decode cX12_ask 98 = .ok (.aload_n 0, 1) := by decide +kernel
theorem dX12_ask_99 : decode cX12_ask 99 = .ok (.getfield 135, 3) := by decide +kernel
theorem dX12_ask_102 : decode cX12_ask 102 = .ok (.aload_n 0, 1) := by decide +kernel
theorem dX12_ask_103 : decode cX12_ask 103 = .ok (.getfield 265, 3) := by decide +kernel
theorem dX12_ask_106 : decode cX12_ask 106 = .ok (.lload_n 2, 1) := by decide +kernel
theorem dX12_ask_107 : decode cX12_ask 107 = .ok (.lastore, 1) := by decide +kernel
theorem dX12_ask_108 : decode cX12_ask 108 = .ok (.aload_n 0, 1) := by decide +kernel
theorem dX12_ask_109 : decode cX12_ask 109 = .ok (.dup, 1) := by decide +kernel
theorem dX12_ask_110 : decode cX12_ask 110 = .ok (.getfield 265, 3) := by decide +kernel
theorem dX12_ask_113 : decode cX12_ask 113 = .ok (.iconst 1, 1) := by decide +kernel
theorem dX12_ask_114 : decode cX12_ask 114 = .ok (.iadd, 1) := by decide +kernel
theorem dX12_ask_115 : decode cX12_ask 115 = .ok (.putfield 265, 3) := by decide +kernel
theorem dX12_ask_118 : decode cX12_ask 118 = .ok (.lload_n 2, 1) := by decide +kernel
theorem dX12_ask_119 : decode cX12_ask 119 = .ok (.lreturn, 1) := by decide +kernel
theorem dX12_asksAfter_0 : decode cX12_asksAfter 0 = .ok (.aload_n 0, 1) := by decide +kernel
theorem dX12_asksAfter_1 : decode cX12_asksAfter 1 = .ok (.getfield 82, 3) := by decide +kernel
theorem dX12_asksAfter_4 : decode cX12_asksAfter 4 = .ok (.iconst 2, 1) := by decide +kernel
theorem dX12_asksAfter_5 : decode cX12_asksAfter 5 = .ok (.aload_n 0, 1) := by decide +kernel
theorem dX12_asksAfter_6 : decode cX12_asksAfter 6 = .ok (.getfield 243, 3) := by decide +kernel
theorem dX12_asksAfter_9 : decode cX12_asksAfter 9 = .ok (.imul, 1) := by decide +kernel
theorem dX12_asksAfter_10 : decode cX12_asksAfter 10 = .ok (.iaload, 1) := by decide +kernel
theorem dX12_asksAfter_11 : decode cX12_asksAfter 11 = .ok (.aload_n 0, 1) := by decide +kernel
theorem dX12_asksAfter_12 : decode cX12_asksAfter 12 = .ok (.getfield 85, 3) := by decide +kernel
theorem dX12_asksAfter_15 : decode cX12_asksAfter 15 = .ok (.iconst 2, 1) := by decide +kernel
theorem dX12_asksAfter_16 : decode cX12_asksAfter 16 = .ok (.aload_n 0, 1) := by decide +kernel
theorem dX12_asksAfter_17 : decode cX12_asksAfter 17 = .ok (.getfield 243, 3) := by decide +kernel
theorem dX12_asksAfter_20 : decode cX12_asksAfter 20 = .ok (.imul, 1) := by decide +kernel
theorem dX12_asksAfter_21 : decode cX12_asksAfter 21 = .ok (.iaload, 1) := by decide +kernel
theorem dX12_asksAfter_22 : decode cX12_asksAfter 22 = .ok (.if_icmp .ne 7, 3) := by decide +kernel
theorem dX12_asksAfter_25 : decode cX12_asksAfter 25 = .ok (.iload_n 1, 1) := by decide +kernel
theorem dX12_asksAfter_26 : decode cX12_asksAfter 26 = .ok (.iconst 1, 1) := by decide +kernel
theorem dX12_asksAfter_27 : decode cX12_asksAfter 27 = .ok (.iadd, 1) := by decide +kernel
theorem dX12_asksAfter_28 : decode cX12_asksAfter 28 = .ok (.ireturn, 1) := by decide +kernel
theorem dX12_asksAfter_29 : decode cX12_asksAfter 29 = .ok (.iconst 0, 1) := by decide +kernel
theorem dX12_asksAfter_30 : decode cX12_asksAfter 30 = .ok (.istore 5, 2) := by decide +kernel
theorem dX12_asksAfter_32 : decode cX12_asksAfter 32 = .ok (.iload 5, 2) := by decide +kernel
theorem dX12_asksAfter_34 : decode cX12_asksAfter 34 = .ok (.iconst 3, 1) := by decide +kernel
theorem dX12_asksAfter_35 : decode cX12_asksAfter 35 = .ok (.if_icmp .ge 17, 3) := by decide +kernel
theorem dX12_asksAfter_38 : decode cX12_asksAfter 38 = .ok (.aload_n 0, 1) := by decide +kernel
theorem dX12_asksAfter_39 : decode cX12_asksAfter 39 = .ok (.getfield 113, 3) := by decide +kernel
theorem dX12_asksAfter_42 : decode cX12_asksAfter 42 = .ok (.iload 5, 2) := by decide +kernel
theorem dX12_asksAfter_44 : decode cX12_asksAfter 44 = .ok (.iconst 0, 1) := by decide +kernel
theorem dX12_asksAfter_45 : decode cX12_asksAfter 45 = .ok (.iastore, 1) := by decide +kernel
theorem dX12_asksAfter_46 : decode cX12_asksAfter 46 = .ok (.iinc 5 1, 3) := by decide +kernel
theorem dX12_asksAfter_49 : decode cX12_asksAfter 49 = .ok (.goto (-17), 3) := by decide +kernel
theorem dX12_asksAfter_52 : decode cX12_asksAfter 52 = .ok (.aload_n 0, 1) := by decide +kernel
theorem dX12_asksAfter_53 : decode cX12_asksAfter 53 = .ok (.getfield 113, 3) := by decide +kernel
theorem dX12_asksAfter_56 : decode cX12_asksAfter 56 = .ok (.iconst 3, 1) := by decide +kernel
theorem dX12_asksAfter_57 : decode cX12_asksAfter 57 = .ok (.iload_n 1, 1) := by decide +kernel
theorem dX12_asksAfter_58 : decode cX12_asksAfter 58 = .ok (.iastore, 1) := by decide +kernel
theorem dX12_asksAfter_59 : decode cX12_asksAfter 59 = .ok (.aload_n 0, 1) := by decide +kernel
theorem dX12_asksAfter_60 : decode cX12_asksAfter 60 = .ok (.getfield 113, 3) := by decide +kernel
theorem dX12_asksAfter_63 : decode cX12_asksAfter 63 = .ok (.iconst 4, 1) := by decide +kernel
theorem dX12_asksAfter_64 : decode cX12_asksAfter 64 = .ok (.lload_n 2, 1) := by decide +kernel
theorem dX12_asksAfter_65 : decode cX12_asksAfter 65 = .ok (.ldc2_w 457, 3) := by decide +kernel
theorem dX12_asksAfter_68 : decode cX12_asksAfter 68 = .ok (.lrem, 1) := by decide +kernel
theorem dX12_asksAfter_69 : decode cX12_asksAfter 69 = .ok (.l2i, 1) := by decide +kernel
theorem dX12_asksAfter_70 : decode cX12_asksAfter 70 = .ok (.iastore, 1) := by decide +kernel
theorem dX12_asksAfter_71 : decode cX12_asksAfter 71 = .ok (.aload_n 0, 1) := by decide +kernel
theorem dX12_asksAfter_72 : decode cX12_asksAfter 72 = .ok (.getfield 113, 3) := by decide +kernel
theorem dX12_asksAfter_75 : decode cX12_asksAfter 75 = .ok (.iconst 5, 1) := by decide +kernel
theorem dX12_asksAfter_76 : decode cX12_asksAfter 76 = .ok (.iload 4, 2) := by decide +kernel
theorem dX12_asksAfter_78 : decode cX12_asksAfter 78 = .ok (.iastore, 1) := by decide +kernel
theorem dX12_asksAfter_79 : decode cX12_asksAfter 79 = .ok (.aload_n 0, 1) := by decide +kernel
theorem dX12_asksAfter_80 : decode cX12_asksAfter 80 = .ok (.iconst 2, 1) := by decide +kernel
theorem dX12_asksAfter_81 : decode cX12_asksAfter 81 = .ok (.aload_n 0, 1) := by decide +kernel
theorem dX12_asksAfter_82 : decode cX12_asksAfter 82 = .ok (.getfield 243, 3) := by decide +kernel
theorem dX12_asksAfter_85 : decode cX12_asksAfter 85 = .ok (.imul, 1) := by decide +kernel
theorem dX12_asksAfter_86 : decode cX12_asksAfter 86 = .ok (.invokevirtual 300, 3) := by decide +kernel
theorem dX12_asksAfter_89 : decode cX12_asksAfter 89 = .ok (.ireturn, 1) := by decide +kernel
theorem dX12_asks_0 : decode cX12_asks 0 = .ok (.aload_n 0, 1) := by decide +kernel
theorem dX12_asks_1 : decode cX12_asks 1 = .ok (.getfield 265, 3) := by decide +kernel
theorem dX12_asks_4 : decode cX12_asks 4 = .ok (.ifCond .ne 13, 3) := by decide +kernel
theorem dX12_asks_7 : decode cX12_asks 7 = .ok (.aload_n 0, 1) := by decide +kernel
theorem dX12_asks_8 : decode cX12_asks 8 = .ok (.iconst 0, 1) := by decide +kernel
theorem dX12_asks_9 : decode cX12_asks 9 = .ok (.lconst 0, 1) := by decide +kernel
theorem dX12_asks_10 : decode cX12_asks 10 = .ok (.iconst 0, 1) := by decide +kernel
theorem dX12_asks_11 : decode cX12_asks 11 = .ok (.invokevirtual 459, 3) := by decide +kernel
theorem dX12_asks_14 : decode cX12_asks 14 = .ok (.goto 33, 3) := by decide +kernel
theorem dX12_asks_17 : decode cX12_asks 17 = .ok (.aload_n 0, 1) := by decide +kernel
theorem dX12_asks_18 : decode cX12_asks 18 = .ok (.aload_n 0, 1) := by decide +kernel
theorem dX12_asks_19 : decode cX12_asks 19 = .ok (.getfield 265, 3) := by decide +kernel
theorem dX12_asks_22 : decode cX12_asks 22 = .ok (.aload_n 0, 1) := by decide +kernel
theorem dX12_asks_23 : decode cX12_asks 23 = .ok (.getfield 135, 3) := by decide +kernel
theorem dX12_asks_26 : decode cX12_asks 26 = .ok (.aload_n 0, 1) := by decide +kernel
theorem dX12_asks_27 : decode cX12_asks 27 = .ok (.getfield 265, 3) := by decide +kernel
theorem dX12_asks_30 : decode cX12_asks 30 = .ok (.iconst 1, 1) := by decide +kernel
theorem dX12_asks_31 : decode cX12_asks 31 = .ok (.isub, 1) := by decide +kernel
theorem dX12_asks_32 : decode cX12_asks 32 = .ok (.laload, 1) := by decide +kernel
theorem dX12_asks_33 : decode cX12_asks 33 = .ok (.aload_n 0, 1) := by decide +kernel
theorem dX12_asks_34 : decode cX12_asks 34 = .ok (.getfield 132, 3) := by decide +kernel
theorem dX12_asks_37 : decode cX12_asks 37 = .ok (.aload_n 0, 1) := by decide +kernel
theorem dX12_asks_38 : decode cX12_asks 38 = .ok (.getfield 265, 3) := by decide +kernel
theorem dX12_asks_41 : decode cX12_asks 41 = .ok (.iconst 1, 1) := by decide +kernel
theorem dX12_asks_42 : decode cX12_asks 42 = .ok (.isub, 1) := by decide +kernel
theorem dX12_asks_43 : decode cX12_asks 43 = .ok (.iaload, 1) := by decide +kernel
theorem dX12_asks_44 : decode cX12_asks 44 = .ok (.invokevirtual 459, 3) := by decide +kernel
theorem dX12_asks_47 : decode cX12_asks 47 = .ok (.ireturn, 1) := by decide +kernel
theorem dX12_isOneEnough_0 : decode cX12_isOneEnough 0 = .ok (.bipush (-9), 2) := by decide +kernel
theorem dX12_isOneEnough_2 : decode cX12_isOneEnough 2 = .ok (.istore_n 2, 1) := by decide +kernel
theorem dX12_isOneEnough_3 : decode cX12_isOneEnough 3 = .ok (.iload_n 2, 1) := by decide +kernel
theorem dX12_isOneEnough_4 : decode cX12_isOneEnough 4 = .ok (.bipush 10, 2) := by decide +kernel
theorem dX12_isOneEnough_6 : decode cX12_isOneEnough 6 = .ok (.if_icmp .ge 108, 3) := by decide +kernel
theorem dX12_isOneEnough_9 : decode cX12_isOneEnough 9 = .ok (.iconst 1, 1) := by decide +kernel
theorem dX12_isOneEnough_10 : decode cX12_isOneEnough 10 = .ok (.istore_n 3, 1) := by decide +kernel
theorem dX12_isOneEnough_11 : decode cX12_isOneEnough 11 = .ok (.iconst 0, 1) := by decide +kernel
theorem dX12_isOneEnough_12 : decode cX12_isOneEnough 12 = .ok (.istore 4, 2) := by decide +kernel
theorem dX12_isOneEnough_14 : decode cX12_isOneEnough 14 = .ok (.iload 4, 2) := by decide +kernel
theorem dX12_isOneEnough_16 : decode cX12_isOneEnough 16 = .ok (.iload_n 1, 1) := by decide +kernel
theorem dX12_isOneEnough_17 : decode cX12_isOneEnough 17 = .ok (.if_icmp .ge 85, 3) := by decide +kernel
theorem dX12_isOneEnough_20 : decode cX12_isOneEnough 20 = .ok (.iload_n 3, 1) := by decide +kernel
theorem dX12_isOneEnough_21 : decode cX12_isOneEnough 21 = .ok (.ifCond .eq 81, 3) := by decide +kernel
theorem dX12_isOneEnough_24 : decode cX12_isOneEnough 24 = .ok (.iconst 0, 1) := by decide +kernel
theorem dX12_isOneEnough_25 : decode cX12_isOneEnough 25 = .ok (.istore 5, 2) := by decide +kernel
theorem dX12_isOneEnough_27 : decode cX12_isOneEnough 27 = .ok (.iload 5, 2) := by decide +kernel
theorem dX12_isOneEnough_29 : decode cX12_isOneEnough 29 = .ok (.iload 4, 2) := by decide +kernel
theorem dX12_isOneEnough_31 : decode cX12_isOneEnough 31 = .ok (.if_icmp .ge 65, 3) := by decide +kernel
theorem dX12_isOneEnough_34 : decode cX12_isOneEnough 34 = .ok (.iload_n 3, 1) := by decide +kernel
theorem dX12_isOneEnough_35 : decode cX12_isOneEnough 35 = .ok (.ifCond .eq 61, 3) := by decide +kernel
theorem dX12_isOneEnough_38 : decode cX12_isOneEnough 38 = .ok (.aload_n 0, 1) := by decide +kernel
theorem dX12_isOneEnough_39 : decode cX12_isOneEnough 39 = .ok (.getfield 147, 3) := by decide +kernel
theorem dX12_isOneEnough_42 : decode cX12_isOneEnough 42 = .ok (.iload 4, 2) := by decide +kernel
theorem dX12_isOneEnough_44 : decode cX12_isOneEnough 44 = .ok (.baload, 1) := by decide +kernel
theorem dX12_isOneEnough_45 : decode cX12_isOneEnough 45 = .ok (.ifCond .eq 45, 3) := by decide +kernel
theorem dX12_isOneEnough_48 : decode cX12_isOneEnough 48 = .ok (.aload_n 0, 1) := by decide +kernel
theorem dX12_isOneEnough_49 : decode cX12_isOneEnough 49 = .ok (.getfield 147, 3) := by decide +kernel
theorem dX12_isOneEnough_52 : decode cX12_isOneEnough 52 = .ok (.iload 5, 2) := by decide +kernel
theorem dX12_isOneEnough_54 : decode cX12_isOneEnough 54 = .ok (.baload, 1) := by decide +kernel
theorem dX12_isOneEnough_55 : decode cX12_isOneEnough 55 = .ok (.ifCond .eq 35, 3) := by decide +kernel
theorem dX12_isOneEnough_58 : decode cX12_isOneEnough 58 = .ok (.aload_n 0, 1) := by decide +kernel
theorem dX12_isOneEnough_59 : decode cX12_isOneEnough 59 = .ok (.aload_n 0, 1) := by decide +kernel
theorem dX12_isOneEnough_60 : decode cX12_isOneEnough 60 = .ok (.getfield 144, 3) := by decide +kernel
theorem dX12_isOneEnough_63 : decode cX12_isOneEnough 63 = .ok (.iload 4, 2) := by decide +kernel
theorem dX12_isOneEnough_65 : decode cX12_isOneEnough 65 = .ok (.iaload, 1) := by decide +kernel
theorem dX12_isOneEnough_66 : decode cX12_isOneEnough 66 = .ok (.iload_n 2, 1) := by decide +kernel
theorem dX12_isOneEnough_67 : decode cX12_isOneEnough 67 = .ok (.i2l, 1) := by decide +kernel
theorem dX12_isOneEnough_68 : decode cX12_isOneEnough 68 = .ok (.invokevirtual 407, 3) := by decide +kernel
theorem dX12_isOneEnough_71 : decode cX12_isOneEnough 71 = .ok (.aload_n 0, 1) := by decide +kernel
theorem dX12_isOneEnough_72 : decode cX12_isOneEnough 72 = .ok (.aload_n 0, 1) := by decide +kernel
theorem dX12_isOneEnough_73 : decode cX12_isOneEnough 73 = .ok (.getfield 144, 3) := by decide +kernel
theorem dX12_isOneEnough_76 : decode cX12_isOneEnough 76 = .ok (.iload 5, 2) := by decide +kernel
theorem dX12_isOneEnough_78 : decode cX12_isOneEnough 78 = .ok (.iaload, 1) := by decide +kernel
theorem dX12_isOneEnough_79 : decode cX12_isOneEnough 79 = .ok (.iload_n 2, 1) := by decide +kernel
theorem dX12_isOneEnough_80 : decode cX12_isOneEnough 80 = .ok (.i2l, 1) := by decide +kernel
theorem dX12_isOneEnough_81 : decode cX12_isOneEnough 81 = .ok (.invokevirtual 407, 3) := by decide +kernel
theorem dX12_isOneEnough_84 : decode cX12_isOneEnough 84 = .ok (.lcmp, 1) := by decide +kernel
theorem dX12_isOneEnough_85 : decode cX12_isOneEnough 85 = .ok (.ifCond .ne 5, 3) := by decide +kernel
theorem dX12_isOneEnough_88 : decode cX12_isOneEnough 88 = .ok (.iconst 0, 1) := by decide +kernel
theorem dX12_isOneEnough_89 : decode cX12_isOneEnough 89 = .ok (.istore_n 3, 1) := by decide +kernel
theorem dX12_isOneEnough_90 : decode cX12_isOneEnough 90 = .ok (.iinc 5 1, 3) := by decide +kernel
theorem dX12_isOneEnough_93 : decode cX12_isOneEnough 93 = .ok (.goto (-66), 3) := by decide +kernel
theorem dX12_isOneEnough_96 : decode cX12_isOneEnough 96 = .ok (.iinc 4 1, 3) := by decide +kernel
theorem dX12_isOneEnough_99 : decode cX12_isOneEnough 99 = .ok (.goto (-85), 3) := by decide +kernel
theorem dX12_isOneEnough_102 : decode cX12_isOneEnough 102 = .ok (.iload_n 3, 1) := by decide +kernel
theorem dX12_isOneEnough_103 : decode cX12_isOneEnough 103 = .ok (.ifCond .eq 5, 3) := by decide +kernel
theorem dX12_isOneEnough_106 : decode cX12_isOneEnough 106 = .ok (.iconst 1, 1) := by decide +kernel
theorem dX12_isOneEnough_107 : decode cX12_isOneEnough 107 = .ok (.ireturn, 1) := by decide +kernel
theorem dX12_isOneEnough_108 : decode cX12_isOneEnough 108 = .ok (.iinc 2 1, 3) := by decide +kernel
theorem dX12_isOneEnough_111 : decode cX12_isOneEnough 111 = .ok (.goto (-108), 3) := by decide +kernel
theorem dX12_isOneEnough_114 : decode cX12_isOneEnough 114 = .ok (.iconst 0, 1) := by decide +kernel
theorem dX12_isOneEnough_115 : decode cX12_isOneEnough 115 = .ok (.ireturn, 1) := by decide +kernel
theorem dX12_areTwoEnough_0 : decode cX12_areTwoEnough 0 = .ok (.bipush (-9), 2) := by decide +kernel
theorem dX12_areTwoEnough_2 : decode cX12_areTwoEnough 2 = .ok (.istore_n 2, 1) := by decide +kernel
theorem dX12_areTwoEnough_3 : decode cX12_areTwoEnough 3 = .ok (.iload_n 2, 1) := by decide +kernel
theorem dX12_areTwoEnough_4 : decode cX12_areTwoEnough 4 = .ok (.bipush 10, 2) := by decide +kernel
theorem dX12_areTwoEnough_6 : decode cX12_areTwoEnough 6 = .ok (.if_icmp .ge 103, 3) := by decide +kernel
theorem dX12_areTwoEnough_9 : decode cX12_areTwoEnough 9 = .ok (.iconst 1, 1) := by decide +kernel
theorem dX12_areTwoEnough_10 : decode cX12_areTwoEnough 10 = .ok (.istore_n 3, 1) := by decide +kernel
theorem dX12_areTwoEnough_11 : decode cX12_areTwoEnough 11 = .ok (.iconst 0, 1) := by decide +kernel
theorem dX12_areTwoEnough_12 : decode cX12_areTwoEnough 12 = .ok (.istore 4, 2) := by decide +kernel
theorem dX12_areTwoEnough_14 : decode cX12_areTwoEnough 14 = .ok (.iload 4, 2) := by decide +kernel
theorem dX12_areTwoEnough_16 : decode cX12_areTwoEnough 16 = .ok (.iload_n 1, 1) := by decide +kernel
theorem dX12_areTwoEnough_17 : decode cX12_areTwoEnough 17 = .ok (.if_icmp .ge 80, 3) := by decide +kernel
theorem dX12_areTwoEnough_20 : decode cX12_areTwoEnough 20 = .ok (.iload_n 3, 1) := by decide +kernel
theorem dX12_areTwoEnough_21 : decode cX12_areTwoEnough 21 = .ok (.ifCond .eq 76, 3) := by decide +kernel
theorem dX12_areTwoEnough_24 : decode cX12_areTwoEnough 24 = .ok (.aload_n 0, 1) := by decide +kernel
theorem dX12_areTwoEnough_25 : decode cX12_areTwoEnough 25 = .ok (.aload_n 0, 1) := by decide +kernel
theorem dX12_areTwoEnough_26 : decode cX12_areTwoEnough 26 = .ok (.getfield 144, 3) := by decide +kernel
theorem dX12_areTwoEnough_29 : decode cX12_areTwoEnough 29 = .ok (.iload 4, 2) := by decide +kernel
theorem dX12_areTwoEnough_31 : decode cX12_areTwoEnough 31 = .ok (.iaload, 1) := by decide +kernel
theorem dX12_areTwoEnough_32 : decode cX12_areTwoEnough 32 = .ok (.iload_n 2, 1) := by decide +kernel
theorem dX12_areTwoEnough_33 : decode cX12_areTwoEnough 33 = .ok (.i2l, 1) := by decide +kernel
theorem dX12_areTwoEnough_34 : decode cX12_areTwoEnough 34 = .ok (.invokevirtual 407, 3) := by decide +kernel
theorem dX12_areTwoEnough_37 : decode cX12_areTwoEnough 37 = .ok (.lstore 5, 2) := by decide +kernel
theorem dX12_areTwoEnough_39 : decode cX12_areTwoEnough 39 = .ok (.iconst 0, 1) := by decide +kernel
theorem dX12_areTwoEnough_40 : decode cX12_areTwoEnough 40 = .ok (.istore 7, 2) := by decide +kernel
theorem dX12_areTwoEnough_42 : decode cX12_areTwoEnough 42 = .ok (.iload 7, 2) := by decide +kernel
theorem dX12_areTwoEnough_44 : decode cX12_areTwoEnough 44 = .ok (.iload_n 1, 1) := by decide +kernel
theorem dX12_areTwoEnough_45 : decode cX12_areTwoEnough 45 = .ok (.if_icmp .ge 40, 3) := by decide +kernel
theorem dX12_areTwoEnough_48 : decode cX12_areTwoEnough 48 = .ok (.aload_n 0, 1) := by decide +kernel
theorem dX12_areTwoEnough_49 : decode cX12_areTwoEnough 49 = .ok (.getfield 147, 3) := by decide +kernel
theorem dX12_areTwoEnough_52 : decode cX12_areTwoEnough 52 = .ok (.iload 7, 2) := by decide +kernel
theorem dX12_areTwoEnough_54 : decode cX12_areTwoEnough 54 = .ok (.aload_n 0, 1) := by decide +kernel
theorem dX12_areTwoEnough_55 : decode cX12_areTwoEnough 55 = .ok (.aload_n 0, 1) := by decide +kernel
theorem dX12_areTwoEnough_56 : decode cX12_areTwoEnough 56 = .ok (.getfield 144, 3) := by decide +kernel
theorem dX12_areTwoEnough_59 : decode cX12_areTwoEnough 59 = .ok (.iload 7, 2) := by decide +kernel
theorem dX12_areTwoEnough_61 : decode cX12_areTwoEnough 61 = .ok (.iaload, 1) := by decide +kernel
theorem dX12_areTwoEnough_62 : decode cX12_areTwoEnough 62 = .ok (.iload_n 2, 1) := by decide +kernel
theorem dX12_areTwoEnough_63 : decode cX12_areTwoEnough 63 = .ok (.i2l, 1) := by decide +kernel
theorem dX12_areTwoEnough_64 : decode cX12_areTwoEnough 64 = .ok (.invokevirtual 407, 3) := by decide +kernel
theorem dX12_areTwoEnough_67 : decode cX12_areTwoEnough 67 = .ok (.lload 5, 2) := by decide +kernel
theorem dX12_areTwoEnough_69 : decode cX12_areTwoEnough 69 = .ok (.lcmp, 1) := by decide +kernel
theorem dX12_areTwoEnough_70 : decode cX12_areTwoEnough 70 = .ok (.ifCond .ne 7, 3) := by decide +kernel
theorem dX12_areTwoEnough_73 : decode cX12_areTwoEnough 73 = .ok (.iconst 1, 1) := by decide +kernel
theorem dX12_areTwoEnough_74 : decode cX12_areTwoEnough 74 = .ok (.goto 4, 3) := by decide +kernel
theorem dX12_areTwoEnough_77 : decode cX12_areTwoEnough 77 = .ok (.iconst 0, 1) := by decide +kernel
theorem dX12_areTwoEnough_78 : decode cX12_areTwoEnough 78 = .ok (.bastore, 1) := by decide +kernel
theorem dX12_areTwoEnough_79 : decode cX12_areTwoEnough 79 = .ok (.iinc 7 1, 3) := by decide +kernel
theorem dX12_areTwoEnough_82 : decode cX12_areTwoEnough 82 = .ok (.goto (-40), 3) := by decide +kernel
theorem dX12_areTwoEnough_85 : decode cX12_areTwoEnough 85 = .ok (.aload_n 0, 1) := by decide +kernel
theorem dX12_areTwoEnough_86 : decode cX12_areTwoEnough 86 = .ok (.iload_n 1, 1) := by decide +kernel
theorem dX12_areTwoEnough_87 : decode cX12_areTwoEnough 87 = .ok (.invokevirtual 463, 3) := by decide +kernel
theorem dX12_areTwoEnough_90 : decode cX12_areTwoEnough 90 = .ok (.istore_n 3, 1) := by decide +kernel
theorem dX12_areTwoEnough_91 : decode cX12_areTwoEnough 91 = .ok (.iinc 4 1, 3) := by decide +kernel
theorem dX12_areTwoEnough_94 : decode cX12_areTwoEnough 94 = .ok (.goto (-80), 3) := by decide +kernel
theorem dX12_areTwoEnough_97 : decode cX12_areTwoEnough 97 = .ok (.iload_n 3, 1) := by decide +kernel
theorem dX12_areTwoEnough_98 : decode cX12_areTwoEnough 98 = .ok (.ifCond .eq 5, 3) := by decide +kernel
theorem dX12_areTwoEnough_101 : decode cX12_areTwoEnough 101 = .ok (.iconst 1, 1) := by decide +kernel
theorem dX12_areTwoEnough_102 : decode cX12_areTwoEnough 102 = .ok (.ireturn, 1) := by decide +kernel
theorem dX12_areTwoEnough_103 : decode cX12_areTwoEnough 103 = .ok (.iinc 2 1, 3) := by decide +kernel
theorem dX12_areTwoEnough_106 : decode cX12_areTwoEnough 106 = .ok (.goto (-103), 3) := by decide +kernel
theorem dX12_areTwoEnough_109 : decode cX12_areTwoEnough 109 = .ok (.iconst 0, 1) := by decide +kernel
theorem dX12_areTwoEnough_110 : decode cX12_areTwoEnough 110 = .ok (.ireturn, 1) := by decide +kernel
theorem dX12_enough_0 : decode cX12_enough 0 = .ok (.aload_n 0, 1) := by decide +kernel
theorem dX12_enough_1 : decode cX12_enough 1 = .ok (.iload_n 1, 1) := by decide +kernel
theorem dX12_enough_2 : decode cX12_enough 2 = .ok (.iload_n 2, 1) := by decide +kernel
theorem dX12_enough_3 : decode cX12_enough 3 = .ok (.iload_n 3, 1) := by decide +kernel
theorem dX12_enough_4 : decode cX12_enough 4 = .ok (.invokevirtual 448, 3) := by decide +kernel
theorem dX12_enough_7 : decode cX12_enough 7 = .ok (.ifCond .ne 5, 3) := by decide +kernel
theorem dX12_enough_10 : decode cX12_enough 10 = .ok (.iconst (-1), 1) := by decide +kernel
theorem dX12_enough_11 : decode cX12_enough 11 = .ok (.ireturn, 1) := by decide +kernel
theorem dX12_enough_12 : decode cX12_enough 12 = .ok (.aload_n 0, 1) := by decide +kernel
theorem dX12_enough_13 : decode cX12_enough 13 = .ok (.iload_n 1, 1) := by decide +kernel
theorem dX12_enough_14 : decode cX12_enough 14 = .ok (.iload_n 2, 1) := by decide +kernel
theorem dX12_enough_15 : decode cX12_enough 15 = .ok (.iload_n 3, 1) := by decide +kernel
theorem dX12_enough_16 : decode cX12_enough 16 = .ok (.invokevirtual 451, 3) := by decide +kernel
theorem dX12_enough_19 : decode cX12_enough 19 = .ok (.istore 4, 2) := by decide +kernel
theorem dX12_enough_21 : decode cX12_enough 21 = .ok (.iload 4, 2) := by decide +kernel
theorem dX12_enough_23 : decode cX12_enough 23 = .ok (.bipush 24, 2) := by decide +kernel
theorem dX12_enough_25 : decode cX12_enough 25 = .ok (.if_icmp .le 6, 3) := by decide +kernel
theorem dX12_enough_28 : decode cX12_enough 28 = .ok (.bipush (-2), 2) := by decide +kernel
theorem dX12_enough_30 : decode cX12_enough 30 = .ok (.ireturn, 1) := by decide +kernel
theorem dX12_enough_31 : decode cX12_enough 31 = .ok (.iload 4, 2) := by decide +kernel
theorem dX12_enough_33 : decode cX12_enough 33 = .ok (.iconst 2, 1) := by decide +kernel
theorem dX12_enough_34 : decode cX12_enough 34 = .ok (.if_icmp .ge 5, 3) := by decide +kernel
theorem dX12_enough_37 : decode cX12_enough 37 = .ok (.iconst 0, 1) := by decide +kernel
theorem dX12_enough_38 : decode cX12_enough 38 = .ok (.ireturn, 1) := by decide +kernel
theorem dX12_enough_39 : decode cX12_enough 39 = .ok (.iconst 0, 1) := by decide +kernel
theorem dX12_enough_40 : decode cX12_enough 40 = .ok (.istore 5, 2) := by decide +kernel
theorem dX12_enough_42 : decode cX12_enough 42 = .ok (.iconst 0, 1) := by decide +kernel
theorem dX12_enough_43 : decode cX12_enough 43 = .ok (.istore 6, 2) := by decide +kernel
theorem dX12_enough_45 : decode cX12_enough 45 = .ok (.iload 6, 2) := by decide +kernel
theorem dX12_enough_47 : decode cX12_enough 47 = .ok (.aload_n 0, 1) := by decide +kernel
theorem dX12_enough_48 : decode cX12_enough 48 = .ok (.invokevirtual 404, 3) := by decide +kernel
theorem dX12_enough_51 : decode cX12_enough 51 = .ok (.if_icmp .ge 42, 3) := by decide +kernel
theorem dX12_enough_54 : decode cX12_enough 54 = .ok (.aload_n 0, 1) := by decide +kernel
theorem dX12_enough_55 : decode cX12_enough 55 = .ok (.getfield 138, 3) := by decide +kernel
theorem dX12_enough_58 : decode cX12_enough 58 = .ok (.iload 6, 2) := by decide +kernel
theorem dX12_enough_60 : decode cX12_enough 60 = .ok (.baload, 1) := by decide +kernel
theorem dX12_enough_61 : decode cX12_enough 61 = .ok (.ifCond .ne 6, 3) := by decide +kernel
theorem dX12_enough_64 : decode cX12_enough 64 = .ok (.goto 23, 3) := by decide +kernel
theorem dX12_enough_67 : decode cX12_enough 67 = .ok (.aload_n 0, 1) := by decide +kernel
theorem dX12_enough_68 : decode cX12_enough 68 = .ok (.getfield 144, 3) := by decide +kernel
theorem dX12_enough_71 : decode cX12_enough 71 = .ok (.iload 5, 2) := by decide +kernel
theorem dX12_enough_73 : decode cX12_enough 73 = .ok (.iload 6, 2) := by decide +kernel
theorem dX12_enough_75 : decode cX12_enough 75 = .ok (.iastore, 1) := by decide +kernel
theorem dX12_enough_76 : decode cX12_enough 76 = .ok (.aload_n 0, 1) := by decide +kernel
theorem dX12_enough_77 : decode cX12_enough 77 = .ok (.getfield 147, 3) := by decide +kernel
theorem dX12_enough_80 : decode cX12_enough 80 = .ok (.iload 5, 2) := by decide +kernel
theorem dX12_enough_82 : decode cX12_enough 82 = .ok (.iconst 1, 1) := by decide +kernel
theorem dX12_enough_83 : decode cX12_enough 83 = .ok (.bastore, 1) := by decide +kernel
theorem dX12_enough_84 : decode cX12_enough 84 = .ok (.iinc 5 1, 3) := by decide +kernel
theorem dX12_enough_87 : decode cX12_enough 87 = .ok (.iinc 6 1, 3) := by decide +kernel
theorem dX12_enough_90 : decode cX12_enough 90 = .ok (.goto (-45), 3) := by decide +kernel
theorem dX12_enough_93 : decode cX12_enough 93 = .ok (.aload_n 0, 1) := by decide +kernel
theorem dX12_enough_94 : decode cX12_enough 94 = .ok (.iload 4, 2) := by decide +kernel
theorem dX12_enough_96 : decode cX12_enough 96 = .ok (.invokevirtual 463, 3) := by decide +kernel
theorem dX12_enough_99 : decode cX12_enough 99 = .ok (.ifCond .eq 7, 3) := by decide +kernel
theorem dX12_enough_102 : decode cX12_enough 102 = .ok (.iconst 1, 1) := by decide +kernel
theorem dX12_enough_103 : decode cX12_enough 103 = .ok (.goto 17, 3) := by decide +kernel
theorem dX12_enough_106 : decode cX12_enough 106 = .ok (.aload_n 0, 1) := by decide +kernel
theorem dX12_enough_107 : decode cX12_enough 107 = .ok (.iload 4, 2) := by decide +kernel
theorem dX12_enough_109 : decode cX12_enough 109 = .ok (.invokevirtual 466, 3) := by decide +kernel
theorem dX12_enough_112 : decode cX12_enough 112 = .ok (.ifCond .eq 7, 3) := by decide +kernel
theorem dX12_enough_115 : decode cX12_enough 115 = .ok (.iconst 2, 1) := by decide +kernel
theorem dX12_enough_116 : decode cX12_enough 116 = .ok (.goto 4, 3) := by decide +kernel
theorem dX12_enough_119 : decode cX12_enough 119 = .ok (.iconst 3, 1) := by decide +kernel
theorem dX12_enough_120 : decode cX12_enough 120 = .ok (.ireturn, 1) := by decide +kernel
theorem dX12_plays_0 : decode cX12_plays 0 = .ok (.aload_n 0, 1) := by decide +kernel
theorem dX12_plays_1 : decode cX12_plays 1 = .ok (.invokevirtual 404, 3) := by decide +kernel
theorem dX12_plays_4 : decode cX12_plays 4 = .ok (.istore_n 2, 1) := by decide +kernel
theorem dX12_plays_5 : decode cX12_plays 5 = .ok (.iconst 0, 1) := by decide +kernel
theorem dX12_plays_6 : decode cX12_plays 6 = .ok (.istore_n 3, 1) := by decide +kernel
theorem dX12_plays_7 : decode cX12_plays 7 = .ok (.iload_n 3, 1) := by decide +kernel
theorem dX12_plays_8 : decode cX12_plays 8 = .ok (.iload_n 2, 1) := by decide +kernel
theorem dX12_plays_9 : decode cX12_plays 9 = .ok (.if_icmp .ge 16, 3) := by decide +kernel
theorem dX12_plays_12 : decode cX12_plays 12 = .ok (.aload_n 0, 1) := by decide +kernel
theorem dX12_plays_13 : decode cX12_plays 13 = .ok (.getfield 138, 3) := by decide +kernel
theorem dX12_plays_16 : decode cX12_plays 16 = .ok (.iload_n 3, 1) := by decide +kernel
theorem dX12_plays_17 : decode cX12_plays 17 = .ok (.iconst 1, 1) := by decide +kernel
theorem dX12_plays_18 : decode cX12_plays 18 = .ok (.bastore, 1) := by decide +kernel
theorem dX12_plays_19 : decode cX12_plays 19 = .ok (.iinc 3 1, 3) := by decide +kernel
theorem dX12_plays_22 : decode cX12_plays 22 = .ok (.goto (-15), 3) := by decide +kernel
theorem dX12_plays_25 : decode cX12_plays 25 = .ok (.iload_n 2, 1) := by decide +kernel
theorem dX12_plays_26 : decode cX12_plays 26 = .ok (.istore_n 3, 1) := by decide +kernel
theorem dX12_plays_27 : decode cX12_plays 27 = .ok (.aload_n 0, 1) := by decide +kernel
theorem dX12_plays_28 : decode cX12_plays 28 = .ok (.iconst 0, 1) := by decide +kernel
theorem dX12_plays_29 : decode cX12_plays 29 = .ok (.putfield 469, 3) := by decide +kernel
theorem dX12_plays_32 : decode cX12_plays 32 = .ok (.aload_n 0, 1) := by decide +kernel
theorem dX12_plays_33 : decode cX12_plays 33 = .ok (.iconst 0, 1) := by decide +kernel
theorem dX12_plays_34 : decode cX12_plays 34 = .ok (.putfield 472, 3) := by decide +kernel
theorem dX12_plays_37 : decode cX12_plays 37 = .ok (.lconst 0, 1) := by decide +kernel
theorem dX12_plays_38 : decode cX12_plays 38 = .ok (.lstore 4, 2) := by decide +kernel
theorem dX12_plays_40 : decode cX12_plays 40 = .ok (.iconst 0, 1) := by decide +kernel
theorem dX12_plays_41 : decode cX12_plays 41 = .ok (.istore 6, 2) := by decide +kernel
theorem dX12_plays_43 : decode cX12_plays 43 = .ok (.iload_n 2, 1) := by decide +kernel
theorem dX12_plays_44 : decode cX12_plays 44 = .ok (.iconst 1, 1) := by decide +kernel
theorem dX12_plays_45 : decode cX12_plays 45 = .ok (.if_icmp .le 118, 3) := by decide +kernel
theorem dX12_plays_48 : decode cX12_plays 48 = .ok (.aload_n 0, 1) := by decide +kernel
theorem dX12_plays_49 : decode cX12_plays 49 = .ok (.getfield 469, 3) := by decide +kernel
theorem dX12_plays_52 : decode cX12_plays 52 = .ok (.bipush 50, 2) := by decide +kernel
theorem dX12_plays_54 : decode cX12_plays 54 = .ok (.if_icmp .ge 109, 3) := by decide +kernel
theorem dX12_plays_57 : decode cX12_plays 57 = .ok (.aload_n 0, 1) := by decide +kernel
theorem dX12_plays_58 : decode cX12_plays 58 = .ok (.aload_n 0, 1) := by decide +kernel
theorem dX12_plays_59 : decode cX12_plays 59 = .ok (.getfield 469, 3) := by decide +kernel
theorem dX12_plays_62 : decode cX12_plays 62 = .ok (.lload 4, 2) := by decide +kernel
theorem dX12_plays_64 : decode cX12_plays 64 = .ok (.iload 6, 2) := by decide +kernel
theorem dX12_plays_66 : decode cX12_plays 66 = .ok (.invokevirtual 459, 3) := by decide +kernel
theorem dX12_plays_69 : decode cX12_plays 69 = .ok (.istore 6, 2) := by decide +kernel
theorem dX12_plays_71 : decode cX12_plays 71 = .ok (.aload_n 0, 1) := by decide +kernel
theorem dX12_plays_72 : decode cX12_plays 72 = .ok (.iload_n 1, 1) := by decide +kernel
theorem dX12_plays_73 : decode cX12_plays 73 = .ok (.iload 6, 2) := by decide +kernel
theorem dX12_plays_75 : decode cX12_plays 75 = .ok (.i2l, 1) := by decide +kernel
theorem dX12_plays_76 : decode cX12_plays 76 = .ok (.invokevirtual 407, 3) := by decide +kernel
theorem dX12_plays_79 : decode cX12_plays 79 = .ok (.lstore 4, 2) := by decide +kernel
theorem dX12_plays_81 : decode cX12_plays 81 = .ok (.aload_n 0, 1) := by decide +kernel
theorem dX12_plays_82 : decode cX12_plays 82 = .ok (.dup, 1) := by decide +kernel
theorem dX12_plays_83 : decode cX12_plays 83 = .ok (.getfield 469, 3) := by decide +kernel
theorem dX12_plays_86 : decode cX12_plays 86 = .ok (.iconst 1, 1) := by decide +kernel
theorem dX12_plays_87 : decode cX12_plays 87 = .ok (.iadd, 1) := by decide +kernel
theorem dX12_plays_88 : decode cX12_plays 88 = .ok (.putfield 469, 3) := by decide +kernel
theorem dX12_plays_91 : decode cX12_plays 91 = .ok (.aload_n 0, 1) := by decide +kernel
theorem dX12_plays_92 : decode cX12_plays 92 = .ok (.dup, 1) := by decide +kernel
theorem dX12_plays_93 : decode cX12_plays 93 = .ok (.getfield 472, 3) := by decide +kernel
theorem dX12_plays_96 : decode cX12_plays 96 = .ok (.iload 6, 2) := by decide +kernel
theorem dX12_plays_98 : decode cX12_plays 98 = .ok (.i2l, 1) := by decide +kernel
theorem dX12_plays_99 : decode cX12_plays 99 = .ok (.invokestatic 366, 3) := by decide +kernel
theorem dX12_plays_102 : decode cX12_plays 102 = .ok (.iadd, 1) := by decide +kernel
theorem dX12_plays_103 : decode cX12_plays 103 = .ok (.putfield 472, 3) := by decide +kernel
theorem dX12_plays_106 : decode cX12_plays 106 = .ok (.iconst 0, 1) := by decide +kernel
theorem dX12_plays_107 : decode cX12_plays 107 = .ok (.istore 7, 2) := by decide +kernel
theorem dX12_plays_109 : decode cX12_plays 109 = .ok (.iload 7, 2) := by decide +kernel
theorem dX12_plays_111 : decode cX12_plays 111 = .ok (.iload_n 3, 1) := by decide +kernel
theorem dX12_plays_112 : decode cX12_plays 112 = .ok (.if_icmp .ge 48, 3) := by decide +kernel
theorem dX12_plays_115 : decode cX12_plays 115 = .ok (.aload_n 0, 1) := by decide +kernel
theorem dX12_plays_116 : decode cX12_plays 116 = .ok (.getfield 138, 3) := by decide +kernel
theorem dX12_plays_119 : decode cX12_plays 119 = .ok (.iload 7, 2) := by decide +kernel
theorem dX12_plays_121 : decode cX12_plays 121 = .ok (.baload, 1) := by decide +kernel
theorem dX12_plays_122 : decode cX12_plays 122 = .ok (.ifCond .eq 32, 3) := by decide +kernel
theorem dX12_plays_125 : decode cX12_plays 125 = .ok (.aload_n 0, 1) := by decide +kernel
theorem dX12_plays_126 : decode cX12_plays 126 = .ok (.iload 7, 2) := by decide +kernel
theorem dX12_plays_128 : decode cX12_plays 128 = .ok (.iload 6, 2) := by decide +kernel
theorem dX12_plays_130 : decode cX12_plays 130 = .ok (.i2l, 1) := by decide +kernel
theorem dX12_plays_131 : decode cX12_plays 131 = .ok (.invokevirtual 407, 3) := by decide +kernel
theorem dX12_plays_134 : decode cX12_plays 134 = .ok (.lload 4, 2) := by decide +kernel
theorem dX12_plays_136 : decode cX12_plays 136 = .ok (.lcmp, 1) := by decide +kernel
theorem dX12_plays_137 : decode cX12_plays 137 = .ok (.ifCond .ne 6, 3) := by decide +kernel
theorem dX12_plays_140 : decode cX12_plays 140 = .ok (.goto 14, 3) := by decide +kernel
theorem dX12_plays_143 : decode cX12_plays 143 = .ok (.aload_n 0, 1) := by decide +kernel
theorem dX12_plays_144 : decode cX12_plays 144 = .ok (.getfield 138, 3) := by decide +kernel
theorem dX12_plays_147 : decode cX12_plays 147 = .ok (.iload 7, 2) := by decide +kernel
theorem dX12_plays_149 : decode cX12_plays 149 = .ok (.iconst 0, 1) := by decide +kernel
theorem dX12_plays_150 : decode cX12_plays 150 = .ok (.bastore, 1) := by decide +kernel
theorem dX12_plays_151 : decode cX12_plays 151 = .ok (.iinc 2 (-1), 3) := by decide +kernel
theorem dX12_plays_154 : decode cX12_plays 154 = .ok (.iinc 7 1, 3) := by decide +kernel
theorem dX12_plays_157 : decode cX12_plays 157 = .ok (.goto (-48), 3) := by decide +kernel
theorem dX12_plays_160 : decode cX12_plays 160 = .ok (.goto (-117), 3) := by decide +kernel
theorem dX12_plays_163 : decode cX12_plays 163 = .ok (.iload_n 2, 1) := by decide +kernel
theorem dX12_plays_164 : decode cX12_plays 164 = .ok (.iconst 1, 1) := by decide +kernel
theorem dX12_plays_165 : decode cX12_plays 165 = .ok (.if_icmp .le 9, 3) := by decide +kernel
theorem dX12_plays_168 : decode cX12_plays 168 = .ok (.aload_n 0, 1) := by decide +kernel
theorem dX12_plays_169 : decode cX12_plays 169 = .ok (.bipush (-2), 2) := by decide +kernel
theorem dX12_plays_171 : decode cX12_plays 171 = .ok (.putfield 469, 3) := by decide +kernel
theorem dX12_plays_174 : decode cX12_plays 174 = .ok (.return_, 1) := by decide +kernel
theorem dX12_game_0 : decode cX12_game 0 = .ok (.iload_n 1, 1) := by decide +kernel
theorem dX12_game_1 : decode cX12_game 1 = .ok (.i2l, 1) := by decide +kernel
theorem dX12_game_2 : decode cX12_game 2 = .ok (.lconst 0, 1) := by decide +kernel
theorem dX12_game_3 : decode cX12_game 3 = .ok (.aload_n 0, 1) := by decide +kernel
theorem dX12_game_4 : decode cX12_game 4 = .ok (.invokevirtual 404, 3) := by decide +kernel
theorem dX12_game_7 : decode cX12_game 7 = .ok (.iconst 1, 1) := by decide +kernel
theorem dX12_game_8 : decode cX12_game 8 = .ok (.isub, 1) := by decide +kernel
theorem dX12_game_9 : decode cX12_game 9 = .ok (.i2l, 1) := by decide +kernel
theorem dX12_game_10 : decode cX12_game 10 = .ok (.invokestatic 332, 3) := by decide +kernel
theorem dX12_game_13 : decode cX12_game 13 = .ok (.ifCond .eq 13, 3) := by decide +kernel
theorem dX12_game_16 : decode cX12_game 16 = .ok (.iload_n 2, 1) := by decide +kernel
theorem dX12_game_17 : decode cX12_game 17 = .ok (.i2l, 1) := by decide +kernel
theorem dX12_game_18 : decode cX12_game 18 = .ok (.lconst 0, 1) := by decide +kernel
theorem dX12_game_19 : decode cX12_game 19 = .ok (.lconst 1, 1) := by decide +kernel
theorem dX12_game_20 : decode cX12_game 20 = .ok (.invokestatic 332, 3) := by decide +kernel
theorem dX12_game_23 : decode cX12_game 23 = .ok (.ifCond .ne 5, 3) := by decide +kernel
theorem dX12_game_26 : decode cX12_game 26 = .ok (.iconst (-1), 1) := by decide +kernel
theorem dX12_game_27 : decode cX12_game 27 = .ok (.ireturn, 1) := by decide +kernel
theorem dX12_game_28 : decode cX12_game 28 = .ok (.aload_n 0, 1) := by decide +kernel
theorem dX12_game_29 : decode cX12_game 29 = .ok (.iload_n 1, 1) := by decide +kernel
theorem dX12_game_30 : decode cX12_game 30 = .ok (.invokevirtual 475, 3) := by decide +kernel
theorem dX12_game_33 : decode cX12_game 33 = .ok (.iload_n 2, 1) := by decide +kernel
theorem dX12_game_34 : decode cX12_game 34 = .ok (.ifCond .ne 10, 3) := by decide +kernel
theorem dX12_game_37 : decode cX12_game 37 = .ok (.aload_n 0, 1) := by decide +kernel
theorem dX12_game_38 : decode cX12_game 38 = .ok (.getfield 469, 3) := by decide +kernel
theorem dX12_game_41 : decode cX12_game 41 = .ok (.goto 7, 3) := by decide +kernel
theorem dX12_game_44 : decode cX12_game 44 = .ok (.aload_n 0, 1) := by decide +kernel
theorem dX12_game_45 : decode cX12_game 45 = .ok (.getfield 472, 3) := by decide +kernel
theorem dX12_game_48 : decode cX12_game 48 = .ok (.ireturn, 1) := by decide +kernel
theorem dX12_sumOf_0 : decode cX12_sumOf 0 = .ok (.iconst 0, 1) := by decide +kernel
theorem dX12_sumOf_1 : decode cX12_sumOf 1 = .ok (.istore_n 2, 1) := by decide +kernel
theorem dX12_sumOf_2 : decode cX12_sumOf 2 = .ok (.iconst 0, 1) := by decide +kernel
theorem dX12_sumOf_3 : decode cX12_sumOf 3 = .ok (.istore_n 3, 1) := by decide +kernel
theorem dX12_sumOf_4 : decode cX12_sumOf 4 = .ok (.iload_n 3, 1) := by decide +kernel
theorem dX12_sumOf_5 : decode cX12_sumOf 5 = .ok (.aload_n 0, 1) := by decide +kernel
theorem dX12_sumOf_6 : decode cX12_sumOf 6 = .ok (.getfield 67, 3) := by decide +kernel
theorem dX12_sumOf_9 : decode cX12_sumOf 9 = .ok (.aload_n 0, 1) := by decide +kernel
theorem dX12_sumOf_10 : decode cX12_sumOf 10 = .ok (.getfield 243, 3) := by decide +kernel
theorem dX12_sumOf_13 : decode cX12_sumOf 13 = .ok (.iaload, 1) := by decide +kernel
theorem dX12_sumOf_14 : decode cX12_sumOf 14 = .ok (.if_icmp .ge 35, 3) := by decide +kernel
theorem dX12_sumOf_17 : decode cX12_sumOf 17 = .ok (.iload_n 1, 1) := by decide +kernel
theorem dX12_sumOf_18 : decode cX12_sumOf 18 = .ok (.iload_n 3, 1) := by decide +kernel
theorem dX12_sumOf_19 : decode cX12_sumOf 19 = .ok (.ishr, 1) := by decide +kernel
theorem dX12_sumOf_20 : decode cX12_sumOf 20 = .ok (.iconst 1, 1) := by decide +kernel
theorem dX12_sumOf_21 : decode cX12_sumOf 21 = .ok (.iand, 1) := by decide +kernel
theorem dX12_sumOf_22 : decode cX12_sumOf 22 = .ok (.iconst 1, 1) := by decide +kernel
theorem dX12_sumOf_23 : decode cX12_sumOf 23 = .ok (.if_icmp .ne 20, 3) := by decide +kernel
theorem dX12_sumOf_26 : decode cX12_sumOf 26 = .ok (.iload_n 2, 1) := by decide +kernel
theorem dX12_sumOf_27 : decode cX12_sumOf 27 = .ok (.aload_n 0, 1) := by decide +kernel
theorem dX12_sumOf_28 : decode cX12_sumOf 28 = .ok (.getfield 70, 3) := by decide +kernel
theorem dX12_sumOf_31 : decode cX12_sumOf 31 = .ok (.bipush 9, 2) := by decide +kernel
theorem dX12_sumOf_33 : decode cX12_sumOf 33 = .ok (.aload_n 0, 1) := by decide +kernel
theorem dX12_sumOf_34 : decode cX12_sumOf 34 = .ok (.getfield 243, 3) := by decide +kernel
theorem dX12_sumOf_37 : decode cX12_sumOf 37 = .ok (.imul, 1) := by decide +kernel
theorem dX12_sumOf_38 : decode cX12_sumOf 38 = .ok (.iload_n 3, 1) := by decide +kernel
theorem dX12_sumOf_39 : decode cX12_sumOf 39 = .ok (.iadd, 1) := by decide +kernel
theorem dX12_sumOf_40 : decode cX12_sumOf 40 = .ok (.iaload, 1) := by decide +kernel
theorem dX12_sumOf_41 : decode cX12_sumOf 41 = .ok (.iadd, 1) := by decide +kernel
theorem dX12_sumOf_42 : decode cX12_sumOf 42 = .ok (.istore_n 2, 1) := by decide +kernel
theorem dX12_sumOf_43 : decode cX12_sumOf 43 = .ok (.iinc 3 1, 3) := by decide +kernel
theorem dX12_sumOf_46 : decode cX12_sumOf 46 = .ok (.goto (-42), 3) := by decide +kernel
theorem dX12_sumOf_49 : decode cX12_sumOf 49 = .ok (.iload_n 2, 1) := by decide +kernel
theorem dX12_sumOf_50 : decode cX12_sumOf 50 = .ok (.ireturn, 1) := by decide +kernel
theorem dX12_bad_0 : decode cX12_bad 0 = .ok (.iload_n 1, 1) := by decide +kernel
theorem dX12_bad_1 : decode cX12_bad 1 = .ok (.i2l, 1) := by decide +kernel
theorem dX12_bad_2 : decode cX12_bad 2 = .ok (.lconst 0, 1) := by decide +kernel
theorem dX12_bad_3 : decode cX12_bad 3 = .ok (.ldc2_w 478, 3) := by decide +kernel
theorem dX12_bad_6 : decode cX12_bad 6 = .ok (.invokestatic 332, 3) := by decide +kernel
theorem dX12_bad_9 : decode cX12_bad 9 = .ok (.ifCond .eq 15, 3) := by decide +kernel
theorem dX12_bad_12 : decode cX12_bad 12 = .ok (.iload_n 2, 1) := by decide +kernel
theorem dX12_bad_13 : decode cX12_bad 13 = .ok (.i2l, 1) := by decide +kernel
theorem dX12_bad_14 : decode cX12_bad 14 = .ok (.lconst 1, 1) := by decide +kernel
theorem dX12_bad_15 : decode cX12_bad 15 = .ok (.ldc2_w 432, 3) := by decide +kernel
theorem dX12_bad_18 : decode cX12_bad 18 = .ok (.invokestatic 332, 3) := by decide +kernel
theorem dX12_bad_21 : decode cX12_bad 21 = .ok (.ifCond .ne 5, 3) := by decide +kernel
theorem dX12_bad_24 : decode cX12_bad 24 = .ok (.iconst (-1), 1) := by decide +kernel
theorem dX12_bad_25 : decode cX12_bad 25 = .ok (.ireturn, 1) := by decide +kernel
theorem dX12_bad_26 : decode cX12_bad 26 = .ok (.iconst 0, 1) := by decide +kernel
theorem dX12_bad_27 : decode cX12_bad 27 = .ok (.istore_n 3, 1) := by decide +kernel
theorem dX12_bad_28 : decode cX12_bad 28 = .ok (.iconst 0, 1) := by decide +kernel
theorem dX12_bad_29 : decode cX12_bad 29 = .ok (.istore 4, 2) := by decide +kernel
theorem dX12_bad_31 : decode cX12_bad 31 = .ok (.iload 4, 2) := by decide +kernel
theorem dX12_bad_33 : decode cX12_bad 33 = .ok (.iconst 1, 1) := by decide +kernel
theorem dX12_bad_34 : decode cX12_bad 34 = .ok (.aload_n 0, 1) := by decide +kernel
theorem dX12_bad_35 : decode cX12_bad 35 = .ok (.getfield 67, 3) := by decide +kernel
theorem dX12_bad_38 : decode cX12_bad 38 = .ok (.aload_n 0, 1) := by decide +kernel
theorem dX12_bad_39 : decode cX12_bad 39 = .ok (.getfield 243, 3) := by decide +kernel
theorem dX12_bad_42 : decode cX12_bad 42 = .ok (.iaload, 1) := by decide +kernel
theorem dX12_bad_43 : decode cX12_bad 43 = .ok (.ishl, 1) := by decide +kernel
theorem dX12_bad_44 : decode cX12_bad 44 = .ok (.if_icmp .ge 24, 3) := by decide +kernel
theorem dX12_bad_47 : decode cX12_bad 47 = .ok (.aload_n 0, 1) := by decide +kernel
theorem dX12_bad_48 : decode cX12_bad 48 = .ok (.iload 4, 2) := by decide +kernel
theorem dX12_bad_50 : decode cX12_bad 50 = .ok (.invokevirtual 480, 3) := by decide +kernel
theorem dX12_bad_53 : decode cX12_bad 53 = .ok (.iload_n 2, 1) := by decide +kernel
theorem dX12_bad_54 : decode cX12_bad 54 = .ok (.imul, 1) := by decide +kernel
theorem dX12_bad_55 : decode cX12_bad 55 = .ok (.iload_n 1, 1) := by decide +kernel
theorem dX12_bad_56 : decode cX12_bad 56 = .ok (.if_icmp .ne 6, 3) := by decide +kernel
theorem dX12_bad_59 : decode cX12_bad 59 = .ok (.iinc 3 1, 3) := by decide +kernel
theorem dX12_bad_62 : decode cX12_bad 62 = .ok (.iinc 4 1, 3) := by decide +kernel
theorem dX12_bad_65 : decode cX12_bad 65 = .ok (.goto (-34), 3) := by decide +kernel
theorem dX12_bad_68 : decode cX12_bad 68 = .ok (.iload_n 3, 1) := by decide +kernel
theorem dX12_bad_69 : decode cX12_bad 69 = .ok (.ireturn, 1) := by decide +kernel
theorem dX12_badSet_0 : decode cX12_badSet 0 = .ok (.iload_n 1, 1) := by decide +kernel
theorem dX12_badSet_1 : decode cX12_badSet 1 = .ok (.i2l, 1) := by decide +kernel
theorem dX12_badSet_2 : decode cX12_badSet 2 = .ok (.lconst 0, 1) := by decide +kernel
theorem dX12_badSet_3 : decode cX12_badSet 3 = .ok (.ldc2_w 478, 3) := by decide +kernel
theorem dX12_badSet_6 : decode cX12_badSet 6 = .ok (.invokestatic 332, 3) := by decide +kernel
theorem dX12_badSet_9 : decode cX12_badSet 9 = .ok (.ifCond .eq 15, 3) := by decide +kernel
theorem dX12_badSet_12 : decode cX12_badSet 12 = .ok (.iload_n 2, 1) := by decide +kernel
theorem dX12_badSet_13 : decode cX12_badSet 13 = .ok (.i2l, 1) := by decide +kernel
theorem dX12_badSet_14 : decode cX12_badSet 14 = .ok (.lconst 1, 1) := by decide +kernel
theorem dX12_badSet_15 : decode cX12_badSet 15 = .ok (.ldc2_w 432, 3) := by decide +kernel
theorem dX12_badSet_18 : decode cX12_badSet 18 = .ok (.invokestatic 332, 3) := by decide +kernel
theorem dX12_badSet_21 : decode cX12_badSet 21 = .ok (.ifCond .ne 5, 3) := by decide +kernel
theorem dX12_badSet_24 : decode cX12_badSet 24 = .ok (.iconst (-1), 1) := by decide +kernel
theorem dX12_badSet_25 : decode cX12_badSet 25 = .ok (.ireturn, 1) := by decide +kernel
theorem dX12_badSet_26 : decode cX12_badSet 26 = .ok (.iconst 0, 1) := by decide +kernel
theorem dX12_badSet_27 : decode cX12_badSet 27 = .ok (.istore_n 3, 1) := by decide +kernel
theorem dX12_badSet_28 : decode cX12_badSet 28 = .ok (.iload_n 3, 1) := by decide +kernel
theorem dX12_badSet_29 : decode cX12_badSet 29 = .ok (.iconst 1, 1) := by decide +kernel
theorem dX12_badSet_30 : decode cX12_badSet 30 = .ok (.aload_n 0, 1) := by decide +kernel
theorem dX12_badSet_31 : decode cX12_badSet 31 = .ok (.getfield 67, 3) := by decide +kernel
theorem dX12_badSet_34 : decode cX12_badSet 34 = .ok (.aload_n 0, 1) := by decide +kernel
theorem dX12_badSet_35 : decode cX12_badSet 35 = .ok (.getfield 243, 3) := by decide +kernel
theorem dX12_badSet_38 : decode cX12_badSet 38 = .ok (.iaload, 1) := by decide +kernel
theorem dX12_badSet_39 : decode cX12_badSet 39 = .ok (.ishl, 1) := by decide +kernel
theorem dX12_badSet_40 : decode cX12_badSet 40 = .ok (.if_icmp .ge 22, 3) := by decide +kernel
theorem dX12_badSet_43 : decode cX12_badSet 43 = .ok (.aload_n 0, 1) := by decide +kernel
theorem dX12_badSet_44 : decode cX12_badSet 44 = .ok (.iload_n 3, 1) := by decide +kernel
theorem dX12_badSet_45 : decode cX12_badSet 45 = .ok (.invokevirtual 480, 3) := by decide +kernel
theorem dX12_badSet_48 : decode cX12_badSet 48 = .ok (.iload_n 2, 1) := by decide +kernel
theorem dX12_badSet_49 : decode cX12_badSet 49 = .ok (.imul, 1) := by decide +kernel
theorem dX12_badSet_50 : decode cX12_badSet 50 = .ok (.iload_n 1, 1) := by decide +kernel
theorem dX12_badSet_51 : decode cX12_badSet 51 = .ok (.if_icmp .ne 5, 3) := by decide +kernel
theorem dX12_badSet_54 : decode cX12_badSet 54 = .ok (.iload_n 3, 1) := by decide +kernel
theorem dX12_badSet_55 : decode cX12_badSet 55 = .ok (.ireturn, 1) := by decide +kernel
theorem dX12_badSet_56 : decode cX12_badSet 56 = .ok (.iinc 3 1, 3) := by decide +kernel
theorem dX12_badSet_59 : decode cX12_badSet 59 = .ok (.goto (-31), 3) := by decide +kernel
theorem dX12_badSet_62 : decode cX12_badSet 62 = .ok (.bipush (-2), 2) := by decide +kernel
theorem dX12_badSet_64 : decode cX12_badSet 64 = .ok (.ireturn, 1) := by decide +kernel
theorem dX12_allTold_0 : decode cX12_allTold 0 = .ok (.iconst 0, 1) := by decide +kernel
theorem dX12_allTold_1 : decode cX12_allTold 1 = .ok (.istore_n 1, 1) := by decide +kernel
theorem dX12_allTold_2 : decode cX12_allTold 2 = .ok (.iload_n 1, 1) := by decide +kernel
theorem dX12_allTold_3 : decode cX12_allTold 3 = .ok (.iconst 1, 1) := by decide +kernel
theorem dX12_allTold_4 : decode cX12_allTold 4 = .ok (.aload_n 0, 1) := by decide +kernel
theorem dX12_allTold_5 : decode cX12_allTold 5 = .ok (.getfield 67, 3) := by decide +kernel
theorem dX12_allTold_8 : decode cX12_allTold 8 = .ok (.aload_n 0, 1) := by decide +kernel
theorem dX12_allTold_9 : decode cX12_allTold 9 = .ok (.getfield 243, 3) := by decide +kernel
theorem dX12_allTold_12 : decode cX12_allTold 12 = .ok (.iaload, 1) := by decide +kernel
theorem dX12_allTold_13 : decode cX12_allTold 13 = .ok (.ishl, 1) := by decide +kernel
theorem dX12_allTold_14 : decode cX12_allTold 14 = .ok (.if_icmp .ge 49, 3) := by decide +kernel
theorem dX12_allTold_17 : decode cX12_allTold 17 = .ok (.iload_n 1, 1) := by decide +kernel
theorem dX12_allTold_18 : decode cX12_allTold 18 = .ok (.iconst 1, 1) := by decide +kernel
theorem dX12_allTold_19 : decode cX12_allTold 19 = .ok (.iadd, 1) := by decide +kernel
theorem dX12_allTold_20 : decode cX12_allTold 20 = .ok (.istore_n 2, 1) := by decide +kernel
theorem dX12_allTold_21 : decode cX12_allTold 21 = .ok (.iload_n 2, 1) := by decide +kernel
theorem dX12_allTold_22 : decode cX12_allTold 22 = .ok (.iconst 1, 1) := by decide +kernel
theorem dX12_allTold_23 : decode cX12_allTold 23 = .ok (.aload_n 0, 1) := by decide +kernel
theorem dX12_allTold_24 : decode cX12_allTold 24 = .ok (.getfield 67, 3) := by decide +kernel
theorem dX12_allTold_27 : decode cX12_allTold 27 = .ok (.aload_n 0, 1) := by decide +kernel
theorem dX12_allTold_28 : decode cX12_allTold 28 = .ok (.getfield 243, 3) := by decide +kernel
theorem dX12_allTold_31 : decode cX12_allTold 31 = .ok (.iaload, 1) := by decide +kernel
theorem dX12_allTold_32 : decode cX12_allTold 32 = .ok (.ishl, 1) := by decide +kernel
theorem dX12_allTold_33 : decode cX12_allTold 33 = .ok (.if_icmp .ge 24, 3) := by decide +kernel
theorem dX12_allTold_36 : decode cX12_allTold 36 = .ok (.aload_n 0, 1) := by decide +kernel
theorem dX12_allTold_37 : decode cX12_allTold 37 = .ok (.iload_n 1, 1) := by decide +kernel
theorem dX12_allTold_38 : decode cX12_allTold 38 = .ok (.invokevirtual 480, 3) := by decide +kernel
theorem dX12_allTold_41 : decode cX12_allTold 41 = .ok (.aload_n 0, 1) := by decide +kernel
theorem dX12_allTold_42 : decode cX12_allTold 42 = .ok (.iload_n 2, 1) := by decide +kernel
theorem dX12_allTold_43 : decode cX12_allTold 43 = .ok (.invokevirtual 480, 3) := by decide +kernel
theorem dX12_allTold_46 : decode cX12_allTold 46 = .ok (.if_icmp .ne 5, 3) := by decide +kernel
theorem dX12_allTold_49 : decode cX12_allTold 49 = .ok (.iconst 0, 1) := by decide +kernel
theorem dX12_allTold_50 : decode cX12_allTold 50 = .ok (.ireturn, 1) := by decide +kernel
theorem dX12_allTold_51 : decode cX12_allTold 51 = .ok (.iinc 2 1, 3) := by decide +kernel
theorem dX12_allTold_54 : decode cX12_allTold 54 = .ok (.goto (-33), 3) := by decide +kernel
theorem dX12_allTold_57 : decode cX12_allTold 57 = .ok (.iinc 1 1, 3) := by decide +kernel
theorem dX12_allTold_60 : decode cX12_allTold 60 = .ok (.goto (-58), 3) := by decide +kernel
theorem dX12_allTold_63 : decode cX12_allTold 63 = .ok (.iconst 1, 1) := by decide +kernel
theorem dX12_allTold_64 : decode cX12_allTold 64 = .ok (.ireturn, 1) := by decide +kernel
theorem dX12_margin_0 : decode cX12_margin 0 = .ok (.aload_n 0, 1) := by decide +kernel
theorem dX12_margin_1 : decode cX12_margin 1 = .ok (.getfield 67, 3) := by decide +kernel
theorem dX12_margin_4 : decode cX12_margin 4 = .ok (.aload_n 0, 1) := by decide +kernel
theorem dX12_margin_5 : decode cX12_margin 5 = .ok (.getfield 243, 3) := by decide +kernel
theorem dX12_margin_8 : decode cX12_margin 8 = .ok (.iaload, 1) := by decide +kernel
theorem dX12_margin_9 : decode cX12_margin 9 = .ok (.ifCond .ne 6, 3) := by decide +kernel
theorem dX12_margin_12 : decode cX12_margin 12 = .ok (.bipush (-2), 2) := by decide +kernel
theorem dX12_margin_14 : decode cX12_margin 14 = .ok (.ireturn, 1) := by decide +kernel
theorem dX12_margin_15 : decode cX12_margin 15 = .ok (.iconst (-1), 1) := by decide +kernel
theorem dX12_margin_16 : decode cX12_margin 16 = .ok (.istore_n 1, 1) := by decide +kernel
theorem dX12_margin_17 : decode cX12_margin 17 = .ok (.iconst 0, 1) := by decide +kernel
theorem dX12_margin_18 : decode cX12_margin 18 = .ok (.istore_n 2, 1) := by decide +kernel
theorem dX12_margin_19 : decode cX12_margin 19 = .ok (.iload_n 2, 1) := by decide +kernel
theorem dX12_margin_20 : decode cX12_margin 20 = .ok (.iconst 1, 1) := by decide +kernel
theorem dX12_margin_21 : decode cX12_margin 21 = .ok (.aload_n 0, 1) := by decide +kernel
theorem dX12_margin_22 : decode cX12_margin 22 = .ok (.getfield 67, 3) := by decide +kernel
theorem dX12_margin_25 : decode cX12_margin 25 = .ok (.aload_n 0, 1) := by decide +kernel
theorem dX12_margin_26 : decode cX12_margin 26 = .ok (.getfield 243, 3) := by decide +kernel
theorem dX12_margin_29 : decode cX12_margin 29 = .ok (.iaload, 1) := by decide +kernel
theorem dX12_margin_30 : decode cX12_margin 30 = .ok (.ishl, 1) := by decide +kernel
theorem dX12_margin_31 : decode cX12_margin 31 = .ok (.if_icmp .ge 58, 3) := by decide +kernel
theorem dX12_margin_34 : decode cX12_margin 34 = .ok (.iconst 0, 1) := by decide +kernel
theorem dX12_margin_35 : decode cX12_margin 35 = .ok (.istore_n 3, 1) := by decide +kernel
theorem dX12_margin_36 : decode cX12_margin 36 = .ok (.iload_n 3, 1) := by decide +kernel
theorem dX12_margin_37 : decode cX12_margin 37 = .ok (.iload_n 2, 1) := by decide +kernel
theorem dX12_margin_38 : decode cX12_margin 38 = .ok (.if_icmp .ge 45, 3) := by decide +kernel
theorem dX12_margin_41 : decode cX12_margin 41 = .ok (.aload_n 0, 1) := by decide +kernel
theorem dX12_margin_42 : decode cX12_margin 42 = .ok (.iload_n 2, 1) := by decide +kernel
theorem dX12_margin_43 : decode cX12_margin 43 = .ok (.invokevirtual 480, 3) := by decide +kernel
theorem dX12_margin_46 : decode cX12_margin 46 = .ok (.aload_n 0, 1) := by decide +kernel
theorem dX12_margin_47 : decode cX12_margin 47 = .ok (.iload_n 3, 1) := by decide +kernel
theorem dX12_margin_48 : decode cX12_margin 48 = .ok (.invokevirtual 480, 3) := by decide +kernel
theorem dX12_margin_51 : decode cX12_margin 51 = .ok (.isub, 1) := by decide +kernel
theorem dX12_margin_52 : decode cX12_margin 52 = .ok (.istore 4, 2) := by decide +kernel
theorem dX12_margin_54 : decode cX12_margin 54 = .ok (.iload 4, 2) := by decide +kernel
theorem dX12_margin_56 : decode cX12_margin 56 = .ok (.ifCond .ge 8, 3) := by decide +kernel
theorem dX12_margin_59 : decode cX12_margin 59 = .ok (.iload 4, 2) := by decide +kernel
theorem dX12_margin_61 : decode cX12_margin 61 = .ok (.ineg, 1) := by decide +kernel
theorem dX12_margin_62 : decode cX12_margin 62 = .ok (.istore 4, 2) := by decide +kernel
theorem dX12_margin_64 : decode cX12_margin 64 = .ok (.iload_n 1, 1) := by decide +kernel
theorem dX12_margin_65 : decode cX12_margin 65 = .ok (.ifCond .lt 9, 3) := by decide +kernel
theorem dX12_margin_68 : decode cX12_margin 68 = .ok (.iload 4, 2) := by decide +kernel
theorem dX12_margin_70 : decode cX12_margin 70 = .ok (.iload_n 1, 1) := by decide +kernel
theorem dX12_margin_71 : decode cX12_margin 71 = .ok (.if_icmp .ge 6, 3) := by decide +kernel
theorem dX12_margin_74 : decode cX12_margin 74 = .ok (.iload 4, 2) := by decide +kernel
theorem dX12_margin_76 : decode cX12_margin 76 = .ok (.istore_n 1, 1) := by decide +kernel
theorem dX12_margin_77 : decode cX12_margin 77 = .ok (.iinc 3 1, 3) := by decide +kernel
theorem dX12_margin_80 : decode cX12_margin 80 = .ok (.goto (-44), 3) := by decide +kernel
theorem dX12_margin_83 : decode cX12_margin 83 = .ok (.iinc 2 1, 3) := by decide +kernel
theorem dX12_margin_86 : decode cX12_margin 86 = .ok (.goto (-67), 3) := by decide +kernel
theorem dX12_margin_89 : decode cX12_margin 89 = .ok (.iload_n 1, 1) := by decide +kernel
theorem dX12_margin_90 : decode cX12_margin 90 = .ok (.ireturn, 1) := by decide +kernel
theorem dX12_bits_0 : decode cX12_bits 0 = .ok (.iconst 0, 1) := by decide +kernel
theorem dX12_bits_1 : decode cX12_bits 1 = .ok (.istore_n 1, 1) := by decide +kernel
theorem dX12_bits_2 : decode cX12_bits 2 = .ok (.iconst 0, 1) := by decide +kernel
theorem dX12_bits_3 : decode cX12_bits 3 = .ok (.istore_n 2, 1) := by decide +kernel
theorem dX12_bits_4 : decode cX12_bits 4 = .ok (.iload_n 2, 1) := by decide +kernel
theorem dX12_bits_5 : decode cX12_bits 5 = .ok (.bipush 8, 2) := by decide +kernel
theorem dX12_bits_7 : decode cX12_bits 7 = .ok (.if_icmp .ge 17, 3) := by decide +kernel
theorem dX12_bits_10 : decode cX12_bits 10 = .ok (.iload_n 1, 1) := by decide +kernel
theorem dX12_bits_11 : decode cX12_bits 11 = .ok (.iload_n 0, 1) := by decide +kernel
theorem dX12_bits_12 : decode cX12_bits 12 = .ok (.iload_n 2, 1) := by decide +kernel
theorem dX12_bits_13 : decode cX12_bits 13 = .ok (.ishr, 1) := by decide +kernel
theorem dX12_bits_14 : decode cX12_bits 14 = .ok (.iconst 1, 1) := by decide +kernel
theorem dX12_bits_15 : decode cX12_bits 15 = .ok (.iand, 1) := by decide +kernel
theorem dX12_bits_16 : decode cX12_bits 16 = .ok (.iadd, 1) := by decide +kernel
theorem dX12_bits_17 : decode cX12_bits 17 = .ok (.istore_n 1, 1) := by decide +kernel
theorem dX12_bits_18 : decode cX12_bits 18 = .ok (.iinc 2 1, 3) := by decide +kernel
theorem dX12_bits_21 : decode cX12_bits 21 = .ok (.goto (-17), 3) := by decide +kernel
theorem dX12_bits_24 : decode cX12_bits 24 = .ok (.iload_n 1, 1) := by decide +kernel
theorem dX12_bits_25 : decode cX12_bits 25 = .ok (.ireturn, 1) := by decide +kernel
theorem dX12_restOf_0 : decode cX12_restOf 0 = .ok (.iload_n 1, 1) := by decide +kernel
theorem dX12_restOf_1 : decode cX12_restOf 1 = .ok (.aload_n 0, 1) := by decide +kernel
theorem dX12_restOf_2 : decode cX12_restOf 2 = .ok (.getfield 52, 3) := by decide +kernel
theorem dX12_restOf_5 : decode cX12_restOf 5 = .ok (.aload_n 0, 1) := by decide +kernel
theorem dX12_restOf_6 : decode cX12_restOf 6 = .ok (.getfield 243, 3) := by decide +kernel
theorem dX12_restOf_9 : decode cX12_restOf 9 = .ok (.iaload, 1) := by decide +kernel
theorem dX12_restOf_10 : decode cX12_restOf 10 = .ok (.irem, 1) := by decide +kernel
theorem dX12_restOf_11 : decode cX12_restOf 11 = .ok (.istore_n 2, 1) := by decide +kernel
theorem dX12_restOf_12 : decode cX12_restOf 12 = .ok (.iload_n 2, 1) := by decide +kernel
theorem dX12_restOf_13 : decode cX12_restOf 13 = .ok (.ifCond .ge 17, 3) := by decide +kernel
theorem dX12_restOf_16 : decode cX12_restOf 16 = .ok (.iload_n 2, 1) := by decide +kernel
theorem dX12_restOf_17 : decode cX12_restOf 17 = .ok (.aload_n 0, 1) := by decide +kernel
theorem dX12_restOf_18 : decode cX12_restOf 18 = .ok (.getfield 52, 3) := by decide +kernel
theorem dX12_restOf_21 : decode cX12_restOf 21 = .ok (.aload_n 0, 1) := by decide +kernel
theorem dX12_restOf_22 : decode cX12_restOf 22 = .ok (.getfield 243, 3) := by decide +kernel
theorem dX12_restOf_25 : decode cX12_restOf 25 = .ok (.iaload, 1) := by decide +kernel
theorem dX12_restOf_26 : decode cX12_restOf 26 = .ok (.iadd, 1) := by decide +kernel
theorem dX12_restOf_27 : decode cX12_restOf 27 = .ok (.goto 4, 3) := by decide +kernel
theorem dX12_restOf_30 : decode cX12_restOf 30 = .ok (.iload_n 2, 1) := by decide +kernel
theorem dX12_restOf_31 : decode cX12_restOf 31 = .ok (.ireturn, 1) := by decide +kernel
theorem dX12_turned_0 : decode cX12_turned 0 = .ok (.iconst 1, 1) := by decide +kernel
theorem dX12_turned_1 : decode cX12_turned 1 = .ok (.istore_n 2, 1) := by decide +kernel
theorem dX12_turned_2 : decode cX12_turned 2 = .ok (.aload_n 0, 1) := by decide +kernel
theorem dX12_turned_3 : decode cX12_turned 3 = .ok (.iload_n 1, 1) := by decide +kernel
theorem dX12_turned_4 : decode cX12_turned 4 = .ok (.iload_n 2, 1) := by decide +kernel
theorem dX12_turned_5 : decode cX12_turned 5 = .ok (.imul, 1) := by decide +kernel
theorem dX12_turned_6 : decode cX12_turned 6 = .ok (.invokevirtual 386, 3) := by decide +kernel
theorem dX12_turned_9 : decode cX12_turned 9 = .ok (.iconst 1, 1) := by decide +kernel
theorem dX12_turned_10 : decode cX12_turned 10 = .ok (.if_icmp .eq 9, 3) := by decide +kernel
theorem dX12_turned_13 : decode cX12_turned 13 = .ok (.iinc 2 1, 3) := by decide +kernel
theorem dX12_turned_16 : decode cX12_turned 16 = .ok (.goto (-14), 3) := by decide +kernel
theorem dX12_turned_19 : decode cX12_turned 19 = .ok (.iload_n 2, 1) := by decide +kernel
theorem dX12_turned_20 : decode cX12_turned 20 = .ok (.ireturn, 1) := by decide +kernel
theorem dX12_rowComes_0 : decode cX12_rowComes 0 = .ok (.iconst 0, 1) := by decide +kernel
theorem dX12_rowComes_1 : decode cX12_rowComes 1 = .ok (.istore_n 3, 1) := by decide +kernel
theorem dX12_rowComes_2 : decode cX12_rowComes 2 = .ok (.iconst 0, 1) := by decide +kernel
theorem dX12_rowComes_3 : decode cX12_rowComes 3 = .ok (.istore 4, 2) := by decide +kernel
theorem dX12_rowComes_5 : decode cX12_rowComes 5 = .ok (.iload 4, 2) := by decide +kernel
theorem dX12_rowComes_7 : decode cX12_rowComes 7 = .ok (.aload_n 0, 1) := by decide +kernel
theorem dX12_rowComes_8 : decode cX12_rowComes 8 = .ok (.getfield 55, 3) := by decide +kernel
theorem dX12_rowComes_11 : decode cX12_rowComes 11 = .ok (.aload_n 0, 1) := by decide +kernel
theorem dX12_rowComes_12 : decode cX12_rowComes 12 = .ok (.getfield 243, 3) := by decide +kernel
theorem dX12_rowComes_15 : decode cX12_rowComes 15 = .ok (.iaload, 1) := by decide +kernel
theorem dX12_rowComes_16 : decode cX12_rowComes 16 = .ok (.if_icmp .ge 171, 3) := by decide +kernel
theorem dX12_rowComes_19 : decode cX12_rowComes 19 = .ok (.iload_n 1, 1) := by decide +kernel
theorem dX12_rowComes_20 : decode cX12_rowComes 20 = .ok (.iload 4, 2) := by decide +kernel
theorem dX12_rowComes_22 : decode cX12_rowComes 22 = .ok (.ishr, 1) := by decide +kernel
theorem dX12_rowComes_23 : decode cX12_rowComes 23 = .ok (.iconst 1, 1) := by decide +kernel
theorem dX12_rowComes_24 : decode cX12_rowComes 24 = .ok (.iand, 1) := by decide +kernel
theorem dX12_rowComes_25 : decode cX12_rowComes 25 = .ok (.ifCond .ne 6, 3) := by decide +kernel
theorem dX12_rowComes_28 : decode cX12_rowComes 28 = .ok (.goto 153, 3) := by decide +kernel
theorem dX12_rowComes_31 : decode cX12_rowComes 31 = .ok (.aload_n 0, 1) := by decide +kernel
theorem dX12_rowComes_32 : decode cX12_rowComes 32 = .ok (.aload_n 0, 1) := by decide +kernel
theorem dX12_rowComes_33 : decode cX12_rowComes 33 = .ok (.getfield 61, 3) := by decide +kernel
theorem dX12_rowComes_36 : decode cX12_rowComes 36 = .ok (.bipush 8, 2) := by decide +kernel
theorem dX12_rowComes_38 : decode cX12_rowComes 38 = .ok (.aload_n 0, 1) := by decide +kernel
theorem dX12_rowComes_39 : decode cX12_rowComes 39 = .ok (.getfield 243, 3) := by decide +kernel
theorem dX12_rowComes_42 : decode cX12_rowComes 42 = .ok (.imul, 1) := by decide +kernel
theorem dX12_rowComes_43 : decode cX12_rowComes 43 = .ok (.iload 4, 2) := by decide +kernel
theorem dX12_rowComes_45 : decode cX12_rowComes 45 = .ok (.iadd, 1) := by decide +kernel
theorem dX12_rowComes_46 : decode cX12_rowComes 46 = .ok (.iaload, 1) := by decide +kernel
theorem dX12_rowComes_47 : decode cX12_rowComes 47 = .ok (.invokevirtual 386, 3) := by decide +kernel
theorem dX12_rowComes_50 : decode cX12_rowComes 50 = .ok (.istore 5, 2) := by decide +kernel
theorem dX12_rowComes_52 : decode cX12_rowComes 52 = .ok (.iconst 0, 1) := by decide +kernel
theorem dX12_rowComes_53 : decode cX12_rowComes 53 = .ok (.istore 6, 2) := by decide +kernel
theorem dX12_rowComes_55 : decode cX12_rowComes 55 = .ok (.iload 6, 2) := by decide +kernel
theorem dX12_rowComes_57 : decode cX12_rowComes 57 = .ok (.aload_n 0, 1) := by decide +kernel
theorem dX12_rowComes_58 : decode cX12_rowComes 58 = .ok (.getfield 55, 3) := by decide +kernel
theorem dX12_rowComes_61 : decode cX12_rowComes 61 = .ok (.aload_n 0, 1) := by decide +kernel
theorem dX12_rowComes_62 : decode cX12_rowComes 62 = .ok (.getfield 243, 3) := by decide +kernel
theorem dX12_rowComes_65 : decode cX12_rowComes 65 = .ok (.iaload, 1) := by decide +kernel
theorem dX12_rowComes_66 : decode cX12_rowComes 66 = .ok (.if_icmp .ge 106, 3) := by decide +kernel
theorem dX12_rowComes_69 : decode cX12_rowComes 69 = .ok (.iload 6, 2) := by decide +kernel
theorem dX12_rowComes_71 : decode cX12_rowComes 71 = .ok (.iload 4, 2) := by decide +kernel
theorem dX12_rowComes_73 : decode cX12_rowComes 73 = .ok (.if_icmp .eq 93, 3) := by decide +kernel
theorem dX12_rowComes_76 : decode cX12_rowComes 76 = .ok (.iload_n 1, 1) := by decide +kernel
theorem dX12_rowComes_77 : decode cX12_rowComes 77 = .ok (.iload 6, 2) := by decide +kernel
theorem dX12_rowComes_79 : decode cX12_rowComes 79 = .ok (.ishr, 1) := by decide +kernel
theorem dX12_rowComes_80 : decode cX12_rowComes 80 = .ok (.iconst 1, 1) := by decide +kernel
theorem dX12_rowComes_81 : decode cX12_rowComes 81 = .ok (.iand, 1) := by decide +kernel
theorem dX12_rowComes_82 : decode cX12_rowComes 82 = .ok (.ifCond .ne 6, 3) := by decide +kernel
theorem dX12_rowComes_85 : decode cX12_rowComes 85 = .ok (.goto 81, 3) := by decide +kernel
theorem dX12_rowComes_88 : decode cX12_rowComes 88 = .ok (.aload_n 0, 1) := by decide +kernel
theorem dX12_rowComes_89 : decode cX12_rowComes 89 = .ok (.iload 5, 2) := by decide +kernel
theorem dX12_rowComes_91 : decode cX12_rowComes 91 = .ok (.aload_n 0, 1) := by decide +kernel
theorem dX12_rowComes_92 : decode cX12_rowComes 92 = .ok (.iload_n 2, 1) := by decide +kernel
theorem dX12_rowComes_93 : decode cX12_rowComes 93 = .ok (.aload_n 0, 1) := by decide +kernel
theorem dX12_rowComes_94 : decode cX12_rowComes 94 = .ok (.getfield 58, 3) := by decide +kernel
theorem dX12_rowComes_97 : decode cX12_rowComes 97 = .ok (.bipush 8, 2) := by decide +kernel
theorem dX12_rowComes_99 : decode cX12_rowComes 99 = .ok (.aload_n 0, 1) := by decide +kernel
theorem dX12_rowComes_100 : decode cX12_rowComes 100 = .ok (.getfield 243, 3) := by decide +kernel
theorem dX12_rowComes_103 : decode cX12_rowComes 103 = .ok (.imul, 1) := by decide +kernel
theorem dX12_rowComes_104 : decode cX12_rowComes 104 = .ok (.iload 6, 2) := by decide +kernel
theorem dX12_rowComes_106 : decode cX12_rowComes 106 = .ok (.iadd, 1) := by decide +kernel
theorem dX12_rowComes_107 : decode cX12_rowComes 107 = .ok (.iaload, 1) := by decide +kernel
theorem dX12_rowComes_108 : decode cX12_rowComes 108 = .ok (.isub, 1) := by decide +kernel
theorem dX12_rowComes_109 : decode cX12_rowComes 109 = .ok (.invokevirtual 386, 3) := by decide +kernel
theorem dX12_rowComes_112 : decode cX12_rowComes 112 = .ok (.imul, 1) := by decide +kernel
theorem dX12_rowComes_113 : decode cX12_rowComes 113 = .ok (.invokevirtual 386, 3) := by decide +kernel
theorem dX12_rowComes_116 : decode cX12_rowComes 116 = .ok (.istore 5, 2) := by decide +kernel
theorem dX12_rowComes_118 : decode cX12_rowComes 118 = .ok (.aload_n 0, 1) := by decide +kernel
theorem dX12_rowComes_119 : decode cX12_rowComes 119 = .ok (.iload 5, 2) := by decide +kernel
theorem dX12_rowComes_121 : decode cX12_rowComes 121 = .ok (.aload_n 0, 1) := by decide +kernel
theorem dX12_rowComes_122 : decode cX12_rowComes 122 = .ok (.aload_n 0, 1) := by decide +kernel
theorem dX12_rowComes_123 : decode cX12_rowComes 123 = .ok (.aload_n 0, 1) := by decide +kernel
theorem dX12_rowComes_124 : decode cX12_rowComes 124 = .ok (.getfield 58, 3) := by decide +kernel
theorem dX12_rowComes_127 : decode cX12_rowComes 127 = .ok (.bipush 8, 2) := by decide +kernel
theorem dX12_rowComes_129 : decode cX12_rowComes 129 = .ok (.aload_n 0, 1) := by decide +kernel
theorem dX12_rowComes_130 : decode cX12_rowComes 130 = .ok (.getfield 243, 3) := by decide +kernel
theorem dX12_rowComes_133 : decode cX12_rowComes 133 = .ok (.imul, 1) := by decide +kernel
theorem dX12_rowComes_134 : decode cX12_rowComes 134 = .ok (.iload 4, 2) := by decide +kernel
theorem dX12_rowComes_136 : decode cX12_rowComes 136 = .ok (.iadd, 1) := by decide +kernel
theorem dX12_rowComes_137 : decode cX12_rowComes 137 = .ok (.iaload, 1) := by decide +kernel
theorem dX12_rowComes_138 : decode cX12_rowComes 138 = .ok (.aload_n 0, 1) := by decide +kernel
theorem dX12_rowComes_139 : decode cX12_rowComes 139 = .ok (.getfield 58, 3) := by decide +kernel
theorem dX12_rowComes_142 : decode cX12_rowComes 142 = .ok (.bipush 8, 2) := by decide +kernel
theorem dX12_rowComes_144 : decode cX12_rowComes 144 = .ok (.aload_n 0, 1) := by decide +kernel
theorem dX12_rowComes_145 : decode cX12_rowComes 145 = .ok (.getfield 243, 3) := by decide +kernel
theorem dX12_rowComes_148 : decode cX12_rowComes 148 = .ok (.imul, 1) := by decide +kernel
theorem dX12_rowComes_149 : decode cX12_rowComes 149 = .ok (.iload 6, 2) := by decide +kernel
theorem dX12_rowComes_151 : decode cX12_rowComes 151 = .ok (.iadd, 1) := by decide +kernel
theorem dX12_rowComes_152 : decode cX12_rowComes 152 = .ok (.iaload, 1) := by decide +kernel
theorem dX12_rowComes_153 : decode cX12_rowComes 153 = .ok (.isub, 1) := by decide +kernel
theorem dX12_rowComes_154 : decode cX12_rowComes 154 = .ok (.invokevirtual 386, 3) := by decide +kernel
theorem dX12_rowComes_157 : decode cX12_rowComes 157 = .ok (.invokevirtual 483, 3) := by decide +kernel
theorem dX12_rowComes_160 : decode cX12_rowComes 160 = .ok (.imul, 1) := by decide +kernel
theorem dX12_rowComes_161 : decode cX12_rowComes 161 = .ok (.invokevirtual 386, 3) := by decide +kernel
theorem dX12_rowComes_164 : decode cX12_rowComes 164 = .ok (.istore 5, 2) := by decide +kernel
theorem dX12_rowComes_166 : decode cX12_rowComes 166 = .ok (.iinc 6 1, 3) := by decide +kernel
theorem dX12_rowComes_169 : decode cX12_rowComes 169 = .ok (.goto (-114), 3) := by decide +kernel
theorem dX12_rowComes_172 : decode cX12_rowComes 172 = .ok (.aload_n 0, 1) := by decide +kernel
theorem dX12_rowComes_173 : decode cX12_rowComes 173 = .ok (.iload_n 3, 1) := by decide +kernel
theorem dX12_rowComes_174 : decode cX12_rowComes 174 = .ok (.iload 5, 2) := by decide +kernel
theorem dX12_rowComes_176 : decode cX12_rowComes 176 = .ok (.iadd, 1) := by decide +kernel
theorem dX12_rowComes_177 : decode cX12_rowComes 177 = .ok (.invokevirtual 386, 3) := by decide +kernel
theorem dX12_rowComes_180 : decode cX12_rowComes 180 = .ok (.istore_n 3, 1) := by decide +kernel
theorem dX12_rowComes_181 : decode cX12_rowComes 181 = .ok (.iinc 4 1, 3) := by decide +kernel
theorem dX12_rowComes_184 : decode cX12_rowComes 184 = .ok (.goto (-179), 3) := by decide +kernel
theorem dX12_rowComes_187 : decode cX12_rowComes 187 = .ok (.iload_n 3, 1) := by decide +kernel
theorem dX12_rowComes_188 : decode cX12_rowComes 188 = .ok (.ireturn, 1) := by decide +kernel
theorem dX12_isSet_0 : decode cX12_isSet 0 = .ok (.iload_n 1, 1) := by decide +kernel
theorem dX12_isSet_1 : decode cX12_isSet 1 = .ok (.i2l, 1) := by decide +kernel
theorem dX12_isSet_2 : decode cX12_isSet 2 = .ok (.lconst 1, 1) := by decide +kernel
theorem dX12_isSet_3 : decode cX12_isSet 3 = .ok (.iconst 1, 1) := by decide +kernel
theorem dX12_isSet_4 : decode cX12_isSet 4 = .ok (.aload_n 0, 1) := by decide +kernel
theorem dX12_isSet_5 : decode cX12_isSet 5 = .ok (.getfield 55, 3) := by decide +kernel
theorem dX12_isSet_8 : decode cX12_isSet 8 = .ok (.aload_n 0, 1) := by decide +kernel
theorem dX12_isSet_9 : decode cX12_isSet 9 = .ok (.getfield 243, 3) := by decide +kernel
theorem dX12_isSet_12 : decode cX12_isSet 12 = .ok (.iaload, 1) := by decide +kernel
theorem dX12_isSet_13 : decode cX12_isSet 13 = .ok (.ishl, 1) := by decide +kernel
theorem dX12_isSet_14 : decode cX12_isSet 14 = .ok (.iconst 1, 1) := by decide +kernel
theorem dX12_isSet_15 : decode cX12_isSet 15 = .ok (.isub, 1) := by decide +kernel
theorem dX12_isSet_16 : decode cX12_isSet 16 = .ok (.i2l, 1) := by decide +kernel
theorem dX12_isSet_17 : decode cX12_isSet 17 = .ok (.invokestatic 332, 3) := by decide +kernel
theorem dX12_isSet_20 : decode cX12_isSet 20 = .ok (.ifCond .eq 16, 3) := by decide +kernel
theorem dX12_isSet_23 : decode cX12_isSet 23 = .ok (.iload_n 1, 1) := by decide +kernel
theorem dX12_isSet_24 : decode cX12_isSet 24 = .ok (.invokestatic 486, 3) := by decide +kernel
theorem dX12_isSet_27 : decode cX12_isSet 27 = .ok (.bipush 7, 2) := by decide +kernel
theorem dX12_isSet_29 : decode cX12_isSet 29 = .ok (.if_icmp .ge 7, 3) := by decide +kernel
theorem dX12_isSet_32 : decode cX12_isSet 32 = .ok (.iconst 1, 1) := by decide +kernel
theorem dX12_isSet_33 : decode cX12_isSet 33 = .ok (.goto 4, 3) := by decide +kernel
theorem dX12_isSet_36 : decode cX12_isSet 36 = .ok (.iconst 0, 1) := by decide +kernel
theorem dX12_isSet_37 : decode cX12_isSet 37 = .ok (.ireturn, 1) := by decide +kernel
theorem dX12_secret_0 : decode cX12_secret 0 = .ok (.aload_n 0, 1) := by decide +kernel
theorem dX12_secret_1 : decode cX12_secret 1 = .ok (.iload_n 1, 1) := by decide +kernel
theorem dX12_secret_2 : decode cX12_secret 2 = .ok (.invokevirtual 489, 3) := by decide +kernel
theorem dX12_secret_5 : decode cX12_secret 5 = .ok (.ifCond .eq 12, 3) := by decide +kernel
theorem dX12_secret_8 : decode cX12_secret 8 = .ok (.aload_n 0, 1) := by decide +kernel
theorem dX12_secret_9 : decode cX12_secret 9 = .ok (.iload_n 1, 1) := by decide +kernel
theorem dX12_secret_10 : decode cX12_secret 10 = .ok (.iconst 0, 1) := by decide +kernel
theorem dX12_secret_11 : decode cX12_secret 11 = .ok (.invokevirtual 492, 3) := by decide +kernel
theorem dX12_secret_14 : decode cX12_secret 14 = .ok (.goto 4, 3) := by decide +kernel
theorem dX12_secret_17 : decode cX12_secret 17 = .ok (.iconst (-1), 1) := by decide +kernel
theorem dX12_secret_18 : decode cX12_secret 18 = .ok (.ireturn, 1) := by decide +kernel
theorem dX12_shared_0 : decode cX12_shared 0 = .ok (.aload_n 0, 1) := by decide +kernel
theorem dX12_shared_1 : decode cX12_shared 1 = .ok (.iload_n 1, 1) := by decide +kernel
theorem dX12_shared_2 : decode cX12_shared 2 = .ok (.invokevirtual 489, 3) := by decide +kernel
theorem dX12_shared_5 : decode cX12_shared 5 = .ok (.ifCond .eq 24, 3) := by decide +kernel
theorem dX12_shared_8 : decode cX12_shared 8 = .ok (.iload_n 2, 1) := by decide +kernel
theorem dX12_shared_9 : decode cX12_shared 9 = .ok (.i2l, 1) := by decide +kernel
theorem dX12_shared_10 : decode cX12_shared 10 = .ok (.lconst 0, 1) := by decide +kernel
theorem dX12_shared_11 : decode cX12_shared 11 = .ok (.ldc2_w 389, 3) := by decide +kernel
theorem dX12_shared_14 : decode cX12_shared 14 = .ok (.invokestatic 332, 3) := by decide +kernel
theorem dX12_shared_17 : decode cX12_shared 17 = .ok (.ifCond .eq 12, 3) := by decide +kernel
theorem dX12_shared_20 : decode cX12_shared 20 = .ok (.aload_n 0, 1) := by decide +kernel
theorem dX12_shared_21 : decode cX12_shared 21 = .ok (.iload_n 1, 1) := by decide +kernel
theorem dX12_shared_22 : decode cX12_shared 22 = .ok (.iload_n 2, 1) := by decide +kernel
theorem dX12_shared_23 : decode cX12_shared 23 = .ok (.invokevirtual 492, 3) := by decide +kernel
theorem dX12_shared_26 : decode cX12_shared 26 = .ok (.goto 4, 3) := by decide +kernel
theorem dX12_shared_29 : decode cX12_shared 29 = .ok (.iconst (-1), 1) := by decide +kernel
theorem dX12_shared_30 : decode cX12_shared 30 = .ok (.ireturn, 1) := by decide +kernel
theorem dX12_fillsRow_0 : decode cX12_fillsRow 0 = .ok (.iconst 0, 1) := by decide +kernel
theorem dX12_fillsRow_1 : decode cX12_fillsRow 1 = .ok (.istore_n 2, 1) := by decide +kernel
theorem dX12_fillsRow_2 : decode cX12_fillsRow 2 = .ok (.iload_n 2, 1) := by decide +kernel
theorem dX12_fillsRow_3 : decode cX12_fillsRow 3 = .ok (.bipush 6, 2) := by decide +kernel
theorem dX12_fillsRow_5 : decode cX12_fillsRow 5 = .ok (.if_icmp .ge 16, 3) := by decide +kernel
theorem dX12_fillsRow_8 : decode cX12_fillsRow 8 = .ok (.aload_n 0, 1) := by decide +kernel
theorem dX12_fillsRow_9 : decode cX12_fillsRow 9 = .ok (.getfield 150, 3) := by decide +kernel
theorem dX12_fillsRow_12 : decode cX12_fillsRow 12 = .ok (.iload_n 2, 1) := by decide +kernel
theorem dX12_fillsRow_13 : decode cX12_fillsRow 13 = .ok (.iconst 0, 1) := by decide +kernel
theorem dX12_fillsRow_14 : decode cX12_fillsRow 14 = .ok (.iastore, 1) := by decide +kernel
theorem dX12_fillsRow_15 : decode cX12_fillsRow 15 = .ok (.iinc 2 1, 3) := by decide +kernel
theorem dX12_fillsRow_18 : decode cX12_fillsRow 18 = .ok (.goto (-16), 3) := by decide +kernel
theorem dX12_fillsRow_21 : decode cX12_fillsRow 21 = .ok (.iconst 0, 1) := by decide +kernel
theorem dX12_fillsRow_22 : decode cX12_fillsRow 22 = .ok (.istore_n 2, 1) := by decide +kernel
theorem dX12_fillsRow_23 : decode cX12_fillsRow 23 = .ok (.iload_n 2, 1) := by decide +kernel
theorem dX12_fillsRow_24 : decode cX12_fillsRow 24 = .ok (.aload_n 0, 1) := by decide +kernel
theorem dX12_fillsRow_25 : decode cX12_fillsRow 25 = .ok (.getfield 55, 3) := by decide +kernel
theorem dX12_fillsRow_28 : decode cX12_fillsRow 28 = .ok (.aload_n 0, 1) := by decide +kernel
theorem dX12_fillsRow_29 : decode cX12_fillsRow 29 = .ok (.getfield 243, 3) := by decide +kernel
theorem dX12_fillsRow_32 : decode cX12_fillsRow 32 = .ok (.iaload, 1) := by decide +kernel
theorem dX12_fillsRow_33 : decode cX12_fillsRow 33 = .ok (.if_icmp .ge 256, 3) := by decide +kernel
theorem dX12_fillsRow_36 : decode cX12_fillsRow 36 = .ok (.iload_n 1, 1) := by decide +kernel
theorem dX12_fillsRow_37 : decode cX12_fillsRow 37 = .ok (.iload_n 2, 1) := by decide +kernel
theorem dX12_fillsRow_38 : decode cX12_fillsRow 38 = .ok (.ishr, 1) := by decide +kernel
theorem dX12_fillsRow_39 : decode cX12_fillsRow 39 = .ok (.iconst 1, 1) := by decide +kernel
theorem dX12_fillsRow_40 : decode cX12_fillsRow 40 = .ok (.iand, 1) := by decide +kernel
theorem dX12_fillsRow_41 : decode cX12_fillsRow 41 = .ok (.ifCond .ne 6, 3) := by decide +kernel
theorem dX12_fillsRow_44 : decode cX12_fillsRow 44 = .ok (.goto 239, 3) := by decide +kernel
theorem dX12_fillsRow_47 : decode cX12_fillsRow 47 = .ok (.iconst 0, 1) := by decide +kernel
theorem dX12_fillsRow_48 : decode cX12_fillsRow 48 = .ok (.istore_n 3, 1) := by decide +kernel
theorem dX12_fillsRow_49 : decode cX12_fillsRow 49 = .ok (.aload_n 0, 1) := by decide +kernel
theorem dX12_fillsRow_50 : decode cX12_fillsRow 50 = .ok (.aload_n 0, 1) := by decide +kernel
theorem dX12_fillsRow_51 : decode cX12_fillsRow 51 = .ok (.getfield 61, 3) := by decide +kernel
theorem dX12_fillsRow_54 : decode cX12_fillsRow 54 = .ok (.bipush 8, 2) := by decide +kernel
theorem dX12_fillsRow_56 : decode cX12_fillsRow 56 = .ok (.aload_n 0, 1) := by decide +kernel
theorem dX12_fillsRow_57 : decode cX12_fillsRow 57 = .ok (.getfield 243, 3) := by decide +kernel
theorem dX12_fillsRow_60 : decode cX12_fillsRow 60 = .ok (.imul, 1) := by decide +kernel
theorem dX12_fillsRow_61 : decode cX12_fillsRow 61 = .ok (.iload_n 2, 1) := by decide +kernel
theorem dX12_fillsRow_62 : decode cX12_fillsRow 62 = .ok (.iadd, 1) := by decide +kernel
theorem dX12_fillsRow_63 : decode cX12_fillsRow 63 = .ok (.iaload, 1) := by decide +kernel
theorem dX12_fillsRow_64 : decode cX12_fillsRow 64 = .ok (.invokevirtual 386, 3) := by decide +kernel
theorem dX12_fillsRow_67 : decode cX12_fillsRow 67 = .ok (.istore 4, 2) := by decide +kernel
theorem dX12_fillsRow_69 : decode cX12_fillsRow 69 = .ok (.aload_n 0, 1) := by decide +kernel
theorem dX12_fillsRow_70 : decode cX12_fillsRow 70 = .ok (.getfield 153, 3) := by decide +kernel
theorem dX12_fillsRow_73 : decode cX12_fillsRow 73 = .ok (.iconst 0, 1) := by decide +kernel
theorem dX12_fillsRow_74 : decode cX12_fillsRow 74 = .ok (.iconst 1, 1) := by decide +kernel
theorem dX12_fillsRow_75 : decode cX12_fillsRow 75 = .ok (.iastore, 1) := by decide +kernel
theorem dX12_fillsRow_76 : decode cX12_fillsRow 76 = .ok (.iconst 0, 1) := by decide +kernel
theorem dX12_fillsRow_77 : decode cX12_fillsRow 77 = .ok (.istore 5, 2) := by decide +kernel
theorem dX12_fillsRow_79 : decode cX12_fillsRow 79 = .ok (.iload 5, 2) := by decide +kernel
theorem dX12_fillsRow_81 : decode cX12_fillsRow 81 = .ok (.aload_n 0, 1) := by decide +kernel
theorem dX12_fillsRow_82 : decode cX12_fillsRow 82 = .ok (.getfield 55, 3) := by decide +kernel
theorem dX12_fillsRow_85 : decode cX12_fillsRow 85 = .ok (.aload_n 0, 1) := by decide +kernel
theorem dX12_fillsRow_86 : decode cX12_fillsRow 86 = .ok (.getfield 243, 3) := by decide +kernel
theorem dX12_fillsRow_89 : decode cX12_fillsRow 89 = .ok (.iaload, 1) := by decide +kernel
theorem dX12_fillsRow_90 : decode cX12_fillsRow 90 = .ok (.if_icmp .ge 149, 3) := by decide +kernel
theorem dX12_fillsRow_93 : decode cX12_fillsRow 93 = .ok (.iload 5, 2) := by decide +kernel
theorem dX12_fillsRow_95 : decode cX12_fillsRow 95 = .ok (.iload_n 2, 1) := by decide +kernel
theorem dX12_fillsRow_96 : decode cX12_fillsRow 96 = .ok (.if_icmp .eq 137, 3) := by decide +kernel
theorem dX12_fillsRow_99 : decode cX12_fillsRow 99 = .ok (.iload_n 1, 1) := by decide +kernel
theorem dX12_fillsRow_100 : decode cX12_fillsRow 100 = .ok (.iload 5, 2) := by decide +kernel
theorem dX12_fillsRow_102 : decode cX12_fillsRow 102 = .ok (.ishr, 1) := by decide +kernel
theorem dX12_fillsRow_103 : decode cX12_fillsRow 103 = .ok (.iconst 1, 1) := by decide +kernel
theorem dX12_fillsRow_104 : decode cX12_fillsRow 104 = .ok (.iand, 1) := by decide +kernel
theorem dX12_fillsRow_105 : decode cX12_fillsRow 105 = .ok (.ifCond .ne 6, 3) := by decide +kernel
theorem dX12_fillsRow_108 : decode cX12_fillsRow 108 = .ok (.goto 125, 3) := by decide +kernel
theorem dX12_fillsRow_111 : decode cX12_fillsRow 111 = .ok (.aload_n 0, 1) := by decide +kernel
theorem dX12_fillsRow_112 : decode cX12_fillsRow 112 = .ok (.getfield 58, 3) := by decide +kernel
theorem dX12_fillsRow_115 : decode cX12_fillsRow 115 = .ok (.bipush 8, 2) := by decide +kernel
theorem dX12_fillsRow_117 : decode cX12_fillsRow 117 = .ok (.aload_n 0, 1) := by decide +kernel
theorem dX12_fillsRow_118 : decode cX12_fillsRow 118 = .ok (.getfield 243, 3) := by decide +kernel
theorem dX12_fillsRow_121 : decode cX12_fillsRow 121 = .ok (.imul, 1) := by decide +kernel
theorem dX12_fillsRow_122 : decode cX12_fillsRow 122 = .ok (.iload 5, 2) := by decide +kernel
theorem dX12_fillsRow_124 : decode cX12_fillsRow 124 = .ok (.iadd, 1) := by decide +kernel
theorem dX12_fillsRow_125 : decode cX12_fillsRow 125 = .ok (.iaload, 1) := by decide +kernel
theorem dX12_fillsRow_126 : decode cX12_fillsRow 126 = .ok (.istore 6, 2) := by decide +kernel
theorem dX12_fillsRow_128 : decode cX12_fillsRow 128 = .ok (.aload_n 0, 1) := by decide +kernel
theorem dX12_fillsRow_129 : decode cX12_fillsRow 129 = .ok (.iload 4, 2) := by decide +kernel
theorem dX12_fillsRow_131 : decode cX12_fillsRow 131 = .ok (.aload_n 0, 1) := by decide +kernel
theorem dX12_fillsRow_132 : decode cX12_fillsRow 132 = .ok (.aload_n 0, 1) := by decide +kernel
theorem dX12_fillsRow_133 : decode cX12_fillsRow 133 = .ok (.aload_n 0, 1) := by decide +kernel
theorem dX12_fillsRow_134 : decode cX12_fillsRow 134 = .ok (.getfield 58, 3) := by decide +kernel
theorem dX12_fillsRow_137 : decode cX12_fillsRow 137 = .ok (.bipush 8, 2) := by decide +kernel
theorem dX12_fillsRow_139 : decode cX12_fillsRow 139 = .ok (.aload_n 0, 1) := by decide +kernel
theorem dX12_fillsRow_140 : decode cX12_fillsRow 140 = .ok (.getfield 243, 3) := by decide +kernel
theorem dX12_fillsRow_143 : decode cX12_fillsRow 143 = .ok (.imul, 1) := by decide +kernel
theorem dX12_fillsRow_144 : decode cX12_fillsRow 144 = .ok (.iload_n 2, 1) := by decide +kernel
theorem dX12_fillsRow_145 : decode cX12_fillsRow 145 = .ok (.iadd, 1) := by decide +kernel
theorem dX12_fillsRow_146 : decode cX12_fillsRow 146 = .ok (.iaload, 1) := by decide +kernel
theorem dX12_fillsRow_147 : decode cX12_fillsRow 147 = .ok (.iload 6, 2) := by decide +kernel
theorem dX12_fillsRow_149 : decode cX12_fillsRow 149 = .ok (.isub, 1) := by decide +kernel
theorem dX12_fillsRow_150 : decode cX12_fillsRow 150 = .ok (.invokevirtual 386, 3) := by decide +kernel
theorem dX12_fillsRow_153 : decode cX12_fillsRow 153 = .ok (.invokevirtual 483, 3) := by decide +kernel
theorem dX12_fillsRow_156 : decode cX12_fillsRow 156 = .ok (.imul, 1) := by decide +kernel
theorem dX12_fillsRow_157 : decode cX12_fillsRow 157 = .ok (.invokevirtual 386, 3) := by decide +kernel
theorem dX12_fillsRow_160 : decode cX12_fillsRow 160 = .ok (.istore 4, 2) := by decide +kernel
theorem dX12_fillsRow_162 : decode cX12_fillsRow 162 = .ok (.aload_n 0, 1) := by decide +kernel
theorem dX12_fillsRow_163 : decode cX12_fillsRow 163 = .ok (.getfield 153, 3) := by decide +kernel
theorem dX12_fillsRow_166 : decode cX12_fillsRow 166 = .ok (.iload_n 3, 1) := by decide +kernel
theorem dX12_fillsRow_167 : decode cX12_fillsRow 167 = .ok (.iconst 1, 1) := by decide +kernel
theorem dX12_fillsRow_168 : decode cX12_fillsRow 168 = .ok (.iadd, 1) := by decide +kernel
theorem dX12_fillsRow_169 : decode cX12_fillsRow 169 = .ok (.aload_n 0, 1) := by decide +kernel
theorem dX12_fillsRow_170 : decode cX12_fillsRow 170 = .ok (.getfield 153, 3) := by decide +kernel
theorem dX12_fillsRow_173 : decode cX12_fillsRow 173 = .ok (.iload_n 3, 1) := by decide +kernel
theorem dX12_fillsRow_174 : decode cX12_fillsRow 174 = .ok (.iaload, 1) := by decide +kernel
theorem dX12_fillsRow_175 : decode cX12_fillsRow 175 = .ok (.iastore, 1) := by decide +kernel
theorem dX12_fillsRow_176 : decode cX12_fillsRow 176 = .ok (.iload_n 3, 1) := by decide +kernel
theorem dX12_fillsRow_177 : decode cX12_fillsRow 177 = .ok (.istore 7, 2) := by decide +kernel
theorem dX12_fillsRow_179 : decode cX12_fillsRow 179 = .ok (.iload 7, 2) := by decide +kernel
theorem dX12_fillsRow_181 : decode cX12_fillsRow 181 = .ok (.ifCond .lt 49, 3) := by decide +kernel
theorem dX12_fillsRow_184 : decode cX12_fillsRow 184 = .ok (.aload_n 0, 1) := by decide +kernel
theorem dX12_fillsRow_185 : decode cX12_fillsRow 185 = .ok (.getfield 153, 3) := by decide +kernel
theorem dX12_fillsRow_188 : decode cX12_fillsRow 188 = .ok (.iload 7, 2) := by decide +kernel
theorem dX12_fillsRow_190 : decode cX12_fillsRow 190 = .ok (.aload_n 0, 1) := by decide +kernel
theorem dX12_fillsRow_191 : decode cX12_fillsRow 191 = .ok (.iload 7, 2) := by decide +kernel
theorem dX12_fillsRow_193 : decode cX12_fillsRow 193 = .ok (.ifCond .le 15, 3) := by decide +kernel
theorem dX12_fillsRow_196 : decode cX12_fillsRow 196 = .ok (.aload_n 0, 1) := by decide +kernel
theorem dX12_fillsRow_197 : decode cX12_fillsRow 197 = .ok (.getfield 153, 3) := by decide +kernel
theorem dX12_fillsRow_200 : decode cX12_fillsRow 200 = .ok (.iload 7, 2) := by decide +kernel
theorem dX12_fillsRow_202 : decode cX12_fillsRow 202 = .ok (.iconst 1, 1) := by decide +kernel
theorem dX12_fillsRow_203 : decode cX12_fillsRow 203 = .ok (.isub, 1) := by decide +kernel
theorem dX12_fillsRow_204 : decode cX12_fillsRow 204 = .ok (.iaload, 1) := by decide +kernel
theorem dX12_fillsRow_205 : decode cX12_fillsRow 205 = .ok (.goto 4, 3) := by decide +kernel
theorem dX12_fillsRow_208 : decode cX12_fillsRow 208 = .ok (.iconst 0, 1) := by decide +kernel
theorem dX12_fillsRow_209 : decode cX12_fillsRow 209 = .ok (.iload 6, 2) := by decide +kernel
theorem dX12_fillsRow_211 : decode cX12_fillsRow 211 = .ok (.aload_n 0, 1) := by decide +kernel
theorem dX12_fillsRow_212 : decode cX12_fillsRow 212 = .ok (.getfield 153, 3) := by decide +kernel
theorem dX12_fillsRow_215 : decode cX12_fillsRow 215 = .ok (.iload 7, 2) := by decide +kernel
theorem dX12_fillsRow_217 : decode cX12_fillsRow 217 = .ok (.iaload, 1) := by decide +kernel
theorem dX12_fillsRow_218 : decode cX12_fillsRow 218 = .ok (.imul, 1) := by decide +kernel
theorem dX12_fillsRow_219 : decode cX12_fillsRow 219 = .ok (.isub, 1) := by decide +kernel
theorem dX12_fillsRow_220 : decode cX12_fillsRow 220 = .ok (.invokevirtual 386, 3) := by decide +kernel
theorem dX12_fillsRow_223 : decode cX12_fillsRow 223 = .ok (.iastore, 1) := by decide +kernel
theorem dX12_fillsRow_224 : decode cX12_fillsRow 224 = .ok (.iinc 7 (-1), 3) := by decide +kernel
theorem dX12_fillsRow_227 : decode cX12_fillsRow 227 = .ok (.goto (-48), 3) := by decide +kernel
theorem dX12_fillsRow_230 : decode cX12_fillsRow 230 = .ok (.iinc 3 1, 3) := by decide +kernel
theorem dX12_fillsRow_233 : decode cX12_fillsRow 233 = .ok (.iinc 5 1, 3) := by decide +kernel
theorem dX12_fillsRow_236 : decode cX12_fillsRow 236 = .ok (.goto (-157), 3) := by decide +kernel
theorem dX12_fillsRow_239 : decode cX12_fillsRow 239 = .ok (.iconst 0, 1) := by decide +kernel
theorem dX12_fillsRow_240 : decode cX12_fillsRow 240 = .ok (.istore 5, 2) := by decide +kernel
theorem dX12_fillsRow_242 : decode cX12_fillsRow 242 = .ok (.iload 5, 2) := by decide +kernel
theorem dX12_fillsRow_244 : decode cX12_fillsRow 244 = .ok (.iload_n 3, 1) := by decide +kernel
theorem dX12_fillsRow_245 : decode cX12_fillsRow 245 = .ok (.if_icmp .gt 38, 3) := by decide +kernel
theorem dX12_fillsRow_248 : decode cX12_fillsRow 248 = .ok (.aload_n 0, 1) := by decide +kernel
theorem dX12_fillsRow_249 : decode cX12_fillsRow 249 = .ok (.getfield 150, 3) := by decide +kernel
theorem dX12_fillsRow_252 : decode cX12_fillsRow 252 = .ok (.iload 5, 2) := by decide +kernel
theorem dX12_fillsRow_254 : decode cX12_fillsRow 254 = .ok (.aload_n 0, 1) := by decide +kernel
theorem dX12_fillsRow_255 : decode cX12_fillsRow 255 = .ok (.aload_n 0, 1) := by decide +kernel
theorem dX12_fillsRow_256 : decode cX12_fillsRow 256 = .ok (.getfield 150, 3) := by decide +kernel
theorem dX12_fillsRow_259 : decode cX12_fillsRow 259 = .ok (.iload 5, 2) := by decide +kernel
theorem dX12_fillsRow_261 : decode cX12_fillsRow 261 = .ok (.iaload, 1) := by decide +kernel
theorem dX12_fillsRow_262 : decode cX12_fillsRow 262 = .ok (.iload 4, 2) := by decide +kernel
theorem dX12_fillsRow_264 : decode cX12_fillsRow 264 = .ok (.aload_n 0, 1) := by decide +kernel
theorem dX12_fillsRow_265 : decode cX12_fillsRow 265 = .ok (.getfield 153, 3) := by decide +kernel
theorem dX12_fillsRow_268 : decode cX12_fillsRow 268 = .ok (.iload 5, 2) := by decide +kernel
theorem dX12_fillsRow_270 : decode cX12_fillsRow 270 = .ok (.iaload, 1) := by decide +kernel
theorem dX12_fillsRow_271 : decode cX12_fillsRow 271 = .ok (.imul, 1) := by decide +kernel
theorem dX12_fillsRow_272 : decode cX12_fillsRow 272 = .ok (.iadd, 1) := by decide +kernel
theorem dX12_fillsRow_273 : decode cX12_fillsRow 273 = .ok (.invokevirtual 386, 3) := by decide +kernel
theorem dX12_fillsRow_276 : decode cX12_fillsRow 276 = .ok (.iastore, 1) := by decide +kernel
theorem dX12_fillsRow_277 : decode cX12_fillsRow 277 = .ok (.iinc 5 1, 3) := by decide +kernel
theorem dX12_fillsRow_280 : decode cX12_fillsRow 280 = .ok (.goto (-38), 3) := by decide +kernel
theorem dX12_fillsRow_283 : decode cX12_fillsRow 283 = .ok (.iinc 2 1, 3) := by decide +kernel
theorem dX12_fillsRow_286 : decode cX12_fillsRow 286 = .ok (.goto (-263), 3) := by decide +kernel
theorem dX12_fillsRow_289 : decode cX12_fillsRow 289 = .ok (.return_, 1) := by decide +kernel
theorem dX12_shareRow_0 : decode cX12_shareRow 0 = .ok (.aload_n 0, 1) := by decide +kernel
theorem dX12_shareRow_1 : decode cX12_shareRow 1 = .ok (.iload_n 1, 1) := by decide +kernel
theorem dX12_shareRow_2 : decode cX12_shareRow 2 = .ok (.invokevirtual 489, 3) := by decide +kernel
theorem dX12_shareRow_5 : decode cX12_shareRow 5 = .ok (.ifCond .eq 19, 3) := by decide +kernel
theorem dX12_shareRow_8 : decode cX12_shareRow 8 = .ok (.iload_n 2, 1) := by decide +kernel
theorem dX12_shareRow_9 : decode cX12_shareRow 9 = .ok (.i2l, 1) := by decide +kernel
theorem dX12_shareRow_10 : decode cX12_shareRow 10 = .ok (.lconst 0, 1) := by decide +kernel
theorem dX12_shareRow_11 : decode cX12_shareRow 11 = .ok (.iload_n 1, 1) := by decide +kernel
theorem dX12_shareRow_12 : decode cX12_shareRow 12 = .ok (.invokestatic 486, 3) := by decide +kernel
theorem dX12_shareRow_15 : decode cX12_shareRow 15 = .ok (.iconst 1, 1) := by decide +kernel
theorem dX12_shareRow_16 : decode cX12_shareRow 16 = .ok (.isub, 1) := by decide +kernel
theorem dX12_shareRow_17 : decode cX12_shareRow 17 = .ok (.i2l, 1) := by decide +kernel
theorem dX12_shareRow_18 : decode cX12_shareRow 18 = .ok (.invokestatic 332, 3) := by decide +kernel
theorem dX12_shareRow_21 : decode cX12_shareRow 21 = .ok (.ifCond .ne 5, 3) := by decide +kernel
theorem dX12_shareRow_24 : decode cX12_shareRow 24 = .ok (.iconst (-1), 1) := by decide +kernel
theorem dX12_shareRow_25 : decode cX12_shareRow 25 = .ok (.ireturn, 1) := by decide +kernel
theorem dX12_shareRow_26 : decode cX12_shareRow 26 = .ok (.aload_n 0, 1) := by decide +kernel
theorem dX12_shareRow_27 : decode cX12_shareRow 27 = .ok (.iload_n 1, 1) := by decide +kernel
theorem dX12_shareRow_28 : decode cX12_shareRow 28 = .ok (.invokevirtual 495, 3) := by decide +kernel
theorem dX12_shareRow_31 : decode cX12_shareRow 31 = .ok (.aload_n 0, 1) := by decide +kernel
theorem dX12_shareRow_32 : decode cX12_shareRow 32 = .ok (.getfield 150, 3) := by decide +kernel
theorem dX12_shareRow_35 : decode cX12_shareRow 35 = .ok (.iload_n 2, 1) := by decide +kernel
theorem dX12_shareRow_36 : decode cX12_shareRow 36 = .ok (.iaload, 1) := by decide +kernel
theorem dX12_shareRow_37 : decode cX12_shareRow 37 = .ok (.ireturn, 1) := by decide +kernel
theorem dX12_wrong_0 : decode cX12_wrong 0 = .ok (.iload_n 1, 1) := by decide +kernel
theorem dX12_wrong_1 : decode cX12_wrong 1 = .ok (.i2l, 1) := by decide +kernel
theorem dX12_wrong_2 : decode cX12_wrong 2 = .ok (.lconst 1, 1) := by decide +kernel
theorem dX12_wrong_3 : decode cX12_wrong 3 = .ok (.ldc2_w 376, 3) := by decide +kernel
theorem dX12_wrong_6 : decode cX12_wrong 6 = .ok (.invokestatic 332, 3) := by decide +kernel
theorem dX12_wrong_9 : decode cX12_wrong 9 = .ok (.ifCond .ne 5, 3) := by decide +kernel
theorem dX12_wrong_12 : decode cX12_wrong 12 = .ok (.iconst (-1), 1) := by decide +kernel
theorem dX12_wrong_13 : decode cX12_wrong 13 = .ok (.ireturn, 1) := by decide +kernel
theorem dX12_wrong_14 : decode cX12_wrong 14 = .ok (.aload_n 0, 1) := by decide +kernel
theorem dX12_wrong_15 : decode cX12_wrong 15 = .ok (.getfield 55, 3) := by decide +kernel
theorem dX12_wrong_18 : decode cX12_wrong 18 = .ok (.aload_n 0, 1) := by decide +kernel
theorem dX12_wrong_19 : decode cX12_wrong 19 = .ok (.getfield 243, 3) := by decide +kernel
theorem dX12_wrong_22 : decode cX12_wrong 22 = .ok (.iaload, 1) := by decide +kernel
theorem dX12_wrong_23 : decode cX12_wrong 23 = .ok (.iload_n 1, 1) := by decide +kernel
theorem dX12_wrong_24 : decode cX12_wrong 24 = .ok (.if_icmp .ge 6, 3) := by decide +kernel
theorem dX12_wrong_27 : decode cX12_wrong 27 = .ok (.bipush (-2), 2) := by decide +kernel
theorem dX12_wrong_29 : decode cX12_wrong 29 = .ok (.ireturn, 1) := by decide +kernel
theorem dX12_wrong_30 : decode cX12_wrong 30 = .ok (.bipush (-2), 2) := by decide +kernel
theorem dX12_wrong_32 : decode cX12_wrong 32 = .ok (.istore_n 2, 1) := by decide +kernel
theorem dX12_wrong_33 : decode cX12_wrong 33 = .ok (.iconst 1, 1) := by decide +kernel
theorem dX12_wrong_34 : decode cX12_wrong 34 = .ok (.istore_n 3, 1) := by decide +kernel
theorem dX12_wrong_35 : decode cX12_wrong 35 = .ok (.iload_n 3, 1) := by decide +kernel
theorem dX12_wrong_36 : decode cX12_wrong 36 = .ok (.iconst 1, 1) := by decide +kernel
theorem dX12_wrong_37 : decode cX12_wrong 37 = .ok (.aload_n 0, 1) := by decide +kernel
theorem dX12_wrong_38 : decode cX12_wrong 38 = .ok (.getfield 55, 3) := by decide +kernel
theorem dX12_wrong_41 : decode cX12_wrong 41 = .ok (.aload_n 0, 1) := by decide +kernel
theorem dX12_wrong_42 : decode cX12_wrong 42 = .ok (.getfield 243, 3) := by decide +kernel
theorem dX12_wrong_45 : decode cX12_wrong 45 = .ok (.iaload, 1) := by decide +kernel
theorem dX12_wrong_46 : decode cX12_wrong 46 = .ok (.ishl, 1) := by decide +kernel
theorem dX12_wrong_47 : decode cX12_wrong 47 = .ok (.if_icmp .ge 116, 3) := by decide +kernel
theorem dX12_wrong_50 : decode cX12_wrong 50 = .ok (.iload_n 3, 1) := by decide +kernel
theorem dX12_wrong_51 : decode cX12_wrong 51 = .ok (.invokestatic 486, 3) := by decide +kernel
theorem dX12_wrong_54 : decode cX12_wrong 54 = .ok (.iload_n 1, 1) := by decide +kernel
theorem dX12_wrong_55 : decode cX12_wrong 55 = .ok (.if_icmp .eq 6, 3) := by decide +kernel
theorem dX12_wrong_58 : decode cX12_wrong 58 = .ok (.goto 99, 3) := by decide +kernel
theorem dX12_wrong_61 : decode cX12_wrong 61 = .ok (.iconst 0, 1) := by decide +kernel
theorem dX12_wrong_62 : decode cX12_wrong 62 = .ok (.istore 4, 2) := by decide +kernel
theorem dX12_wrong_64 : decode cX12_wrong 64 = .ok (.iconst 0, 1) := by decide +kernel
theorem dX12_wrong_65 : decode cX12_wrong 65 = .ok (.istore 5, 2) := by decide +kernel
theorem dX12_wrong_67 : decode cX12_wrong 67 = .ok (.iload 5, 2) := by decide +kernel
theorem dX12_wrong_69 : decode cX12_wrong 69 = .ok (.aload_n 0, 1) := by decide +kernel
theorem dX12_wrong_70 : decode cX12_wrong 70 = .ok (.getfield 55, 3) := by decide +kernel
theorem dX12_wrong_73 : decode cX12_wrong 73 = .ok (.aload_n 0, 1) := by decide +kernel
theorem dX12_wrong_74 : decode cX12_wrong 74 = .ok (.getfield 243, 3) := by decide +kernel
theorem dX12_wrong_77 : decode cX12_wrong 77 = .ok (.iaload, 1) := by decide +kernel
theorem dX12_wrong_78 : decode cX12_wrong 78 = .ok (.if_icmp .ge 60, 3) := by decide +kernel
theorem dX12_wrong_81 : decode cX12_wrong 81 = .ok (.aload_n 0, 1) := by decide +kernel
theorem dX12_wrong_82 : decode cX12_wrong 82 = .ok (.iload_n 3, 1) := by decide +kernel
theorem dX12_wrong_83 : decode cX12_wrong 83 = .ok (.aload_n 0, 1) := by decide +kernel
theorem dX12_wrong_84 : decode cX12_wrong 84 = .ok (.getfield 58, 3) := by decide +kernel
theorem dX12_wrong_87 : decode cX12_wrong 87 = .ok (.bipush 8, 2) := by decide +kernel
theorem dX12_wrong_89 : decode cX12_wrong 89 = .ok (.aload_n 0, 1) := by decide +kernel
theorem dX12_wrong_90 : decode cX12_wrong 90 = .ok (.getfield 243, 3) := by decide +kernel
theorem dX12_wrong_93 : decode cX12_wrong 93 = .ok (.imul, 1) := by decide +kernel
theorem dX12_wrong_94 : decode cX12_wrong 94 = .ok (.iload 5, 2) := by decide +kernel
theorem dX12_wrong_96 : decode cX12_wrong 96 = .ok (.iadd, 1) := by decide +kernel
theorem dX12_wrong_97 : decode cX12_wrong 97 = .ok (.iaload, 1) := by decide +kernel
theorem dX12_wrong_98 : decode cX12_wrong 98 = .ok (.invokevirtual 492, 3) := by decide +kernel
theorem dX12_wrong_101 : decode cX12_wrong 101 = .ok (.aload_n 0, 1) := by decide +kernel
theorem dX12_wrong_102 : decode cX12_wrong 102 = .ok (.aload_n 0, 1) := by decide +kernel
theorem dX12_wrong_103 : decode cX12_wrong 103 = .ok (.getfield 61, 3) := by decide +kernel
theorem dX12_wrong_106 : decode cX12_wrong 106 = .ok (.bipush 8, 2) := by decide +kernel
theorem dX12_wrong_108 : decode cX12_wrong 108 = .ok (.aload_n 0, 1) := by decide +kernel
theorem dX12_wrong_109 : decode cX12_wrong 109 = .ok (.getfield 243, 3) := by decide +kernel
theorem dX12_wrong_112 : decode cX12_wrong 112 = .ok (.imul, 1) := by decide +kernel
theorem dX12_wrong_113 : decode cX12_wrong 113 = .ok (.iload 5, 2) := by decide +kernel
theorem dX12_wrong_115 : decode cX12_wrong 115 = .ok (.iadd, 1) := by decide +kernel
theorem dX12_wrong_116 : decode cX12_wrong 116 = .ok (.iaload, 1) := by decide +kernel
theorem dX12_wrong_117 : decode cX12_wrong 117 = .ok (.invokevirtual 386, 3) := by decide +kernel
theorem dX12_wrong_120 : decode cX12_wrong 120 = .ok (.if_icmp .eq 12, 3) := by decide +kernel
theorem dX12_wrong_123 : decode cX12_wrong 123 = .ok (.iload 4, 2) := by decide +kernel
theorem dX12_wrong_125 : decode cX12_wrong 125 = .ok (.iconst 1, 1) := by decide +kernel
theorem dX12_wrong_126 : decode cX12_wrong 126 = .ok (.iload 5, 2) := by decide +kernel
theorem dX12_wrong_128 : decode cX12_wrong 128 = .ok (.ishl, 1) := by decide +kernel
theorem dX12_wrong_129 : decode cX12_wrong 129 = .ok (.ior, 1) := by decide +kernel
theorem dX12_wrong_130 : decode cX12_wrong 130 = .ok (.istore 4, 2) := by decide +kernel
theorem dX12_wrong_132 : decode cX12_wrong 132 = .ok (.iinc 5 1, 3) := by decide +kernel
theorem dX12_wrong_135 : decode cX12_wrong 135 = .ok (.goto (-68), 3) := by decide +kernel
theorem dX12_wrong_138 : decode cX12_wrong 138 = .ok (.iload_n 2, 1) := by decide +kernel
theorem dX12_wrong_139 : decode cX12_wrong 139 = .ok (.ifCond .lt 15, 3) := by decide +kernel
theorem dX12_wrong_142 : decode cX12_wrong 142 = .ok (.iload 4, 2) := by decide +kernel
theorem dX12_wrong_144 : decode cX12_wrong 144 = .ok (.invokestatic 486, 3) := by decide +kernel
theorem dX12_wrong_147 : decode cX12_wrong 147 = .ok (.iload_n 2, 1) := by decide +kernel
theorem dX12_wrong_148 : decode cX12_wrong 148 = .ok (.invokestatic 486, 3) := by decide +kernel
theorem dX12_wrong_151 : decode cX12_wrong 151 = .ok (.if_icmp .ge 6, 3) := by decide +kernel
theorem dX12_wrong_154 : decode cX12_wrong 154 = .ok (.iload 4, 2) := by decide +kernel
theorem dX12_wrong_156 : decode cX12_wrong 156 = .ok (.istore_n 2, 1) := by decide +kernel
theorem dX12_wrong_157 : decode cX12_wrong 157 = .ok (.iinc 3 1, 3) := by decide +kernel
theorem dX12_wrong_160 : decode cX12_wrong 160 = .ok (.goto (-125), 3) := by decide +kernel
theorem dX12_wrong_163 : decode cX12_wrong 163 = .ok (.iload_n 2, 1) := by decide +kernel
theorem dX12_wrong_164 : decode cX12_wrong 164 = .ok (.ireturn, 1) := by decide +kernel
theorem dX12_paired_0 : decode cX12_paired 0 = .ok (.lload_n 0, 1) := by decide +kernel
theorem dX12_paired_1 : decode cX12_paired 1 = .ok (.lload_n 2, 1) := by decide +kernel
theorem dX12_paired_2 : decode cX12_paired 2 = .ok (.ladd, 1) := by decide +kernel
theorem dX12_paired_3 : decode cX12_paired 3 = .ok (.lstore 4, 2) := by decide +kernel
theorem dX12_paired_5 : decode cX12_paired 5 = .ok (.lload 4, 2) := by decide +kernel
theorem dX12_paired_7 : decode cX12_paired 7 = .ok (.ldc2_w 372, 3) := by decide +kernel
theorem dX12_paired_10 : decode cX12_paired 10 = .ok (.lrem, 1) := by decide +kernel
theorem dX12_paired_11 : decode cX12_paired 11 = .ok (.lconst 0, 1) := by decide +kernel
theorem dX12_paired_12 : decode cX12_paired 12 = .ok (.lcmp, 1) := by decide +kernel
theorem dX12_paired_13 : decode cX12_paired 13 = .ok (.ifCond .ne 17, 3) := by decide +kernel
theorem dX12_paired_16 : decode cX12_paired 16 = .ok (.lload 4, 2) := by decide +kernel
theorem dX12_paired_18 : decode cX12_paired 18 = .ok (.ldc2_w 372, 3) := by decide +kernel
theorem dX12_paired_21 : decode cX12_paired 21 = .ok (.ldiv, 1) := by decide +kernel
theorem dX12_paired_22 : decode cX12_paired 22 = .ok (.lload 4, 2) := by decide +kernel
theorem dX12_paired_24 : decode cX12_paired 24 = .ok (.lconst 1, 1) := by decide +kernel
theorem dX12_paired_25 : decode cX12_paired 25 = .ok (.ladd, 1) := by decide +kernel
theorem dX12_paired_26 : decode cX12_paired 26 = .ok (.lmul, 1) := by decide +kernel
theorem dX12_paired_27 : decode cX12_paired 27 = .ok (.goto 14, 3) := by decide +kernel
theorem dX12_paired_30 : decode cX12_paired 30 = .ok (.lload 4, 2) := by decide +kernel
theorem dX12_paired_32 : decode cX12_paired 32 = .ok (.lconst 1, 1) := by decide +kernel
theorem dX12_paired_33 : decode cX12_paired 33 = .ok (.ladd, 1) := by decide +kernel
theorem dX12_paired_34 : decode cX12_paired 34 = .ok (.ldc2_w 372, 3) := by decide +kernel
theorem dX12_paired_37 : decode cX12_paired 37 = .ok (.ldiv, 1) := by decide +kernel
theorem dX12_paired_38 : decode cX12_paired 38 = .ok (.lload 4, 2) := by decide +kernel
theorem dX12_paired_40 : decode cX12_paired 40 = .ok (.lmul, 1) := by decide +kernel
theorem dX12_paired_41 : decode cX12_paired 41 = .ok (.lload_n 2, 1) := by decide +kernel
theorem dX12_paired_42 : decode cX12_paired 42 = .ok (.ladd, 1) := by decide +kernel
theorem dX12_paired_43 : decode cX12_paired 43 = .ok (.lreturn, 1) := by decide +kernel
theorem dX12_pair_0 : decode cX12_pair 0 = .ok (.iload_n 1, 1) := by decide +kernel
theorem dX12_pair_1 : decode cX12_pair 1 = .ok (.i2l, 1) := by decide +kernel
theorem dX12_pair_2 : decode cX12_pair 2 = .ok (.lconst 0, 1) := by decide +kernel
theorem dX12_pair_3 : decode cX12_pair 3 = .ok (.ldc2_w 498, 3) := by decide +kernel
theorem dX12_pair_6 : decode cX12_pair 6 = .ok (.invokestatic 332, 3) := by decide +kernel
theorem dX12_pair_9 : decode cX12_pair 9 = .ok (.ifCond .eq 25, 3) := by decide +kernel
theorem dX12_pair_12 : decode cX12_pair 12 = .ok (.iload_n 2, 1) := by decide +kernel
theorem dX12_pair_13 : decode cX12_pair 13 = .ok (.i2l, 1) := by decide +kernel
theorem dX12_pair_14 : decode cX12_pair 14 = .ok (.lconst 0, 1) := by decide +kernel
theorem dX12_pair_15 : decode cX12_pair 15 = .ok (.ldc2_w 498, 3) := by decide +kernel
theorem dX12_pair_18 : decode cX12_pair 18 = .ok (.invokestatic 332, 3) := by decide +kernel
theorem dX12_pair_21 : decode cX12_pair 21 = .ok (.ifCond .eq 13, 3) := by decide +kernel
theorem dX12_pair_24 : decode cX12_pair 24 = .ok (.iload_n 1, 1) := by decide +kernel
theorem dX12_pair_25 : decode cX12_pair 25 = .ok (.i2l, 1) := by decide +kernel
theorem dX12_pair_26 : decode cX12_pair 26 = .ok (.iload_n 2, 1) := by decide +kernel
theorem dX12_pair_27 : decode cX12_pair 27 = .ok (.i2l, 1) := by decide +kernel
theorem dX12_pair_28 : decode cX12_pair 28 = .ok (.invokestatic 500, 3) := by decide +kernel
theorem dX12_pair_31 : decode cX12_pair 31 = .ok (.goto 6, 3) := by decide +kernel
theorem dX12_pair_34 : decode cX12_pair 34 = .ok (.ldc2_w 359, 3) := by decide +kernel
theorem dX12_pair_37 : decode cX12_pair 37 = .ok (.lreturn, 1) := by decide +kernel
theorem dX12_unpair_0 : decode cX12_unpair 0 = .ok (.lload_n 1, 1) := by decide +kernel
theorem dX12_unpair_1 : decode cX12_unpair 1 = .ok (.lconst 0, 1) := by decide +kernel
theorem dX12_unpair_2 : decode cX12_unpair 2 = .ok (.ldc2_w 370, 3) := by decide +kernel
theorem dX12_unpair_5 : decode cX12_unpair 5 = .ok (.invokestatic 332, 3) := by decide +kernel
theorem dX12_unpair_8 : decode cX12_unpair 8 = .ok (.ifCond .ne 7, 3) := by decide +kernel
theorem dX12_unpair_11 : decode cX12_unpair 11 = .ok (.ldc2_w 359, 3) := by decide +kernel
theorem dX12_unpair_14 : decode cX12_unpair 14 = .ok (.lreturn, 1) := by decide +kernel
theorem dX12_unpair_15 : decode cX12_unpair 15 = .ok (.lconst 0, 1) := by decide +kernel
theorem dX12_unpair_16 : decode cX12_unpair 16 = .ok (.lstore 4, 2) := by decide +kernel
theorem dX12_unpair_18 : decode cX12_unpair 18 = .ok (.ldc2_w 504, 3) := by decide +kernel
theorem dX12_unpair_21 : decode cX12_unpair 21 = .ok (.lstore 6, 2) := by decide +kernel
theorem dX12_unpair_23 : decode cX12_unpair 23 = .ok (.lload 4, 2) := by decide +kernel
theorem dX12_unpair_25 : decode cX12_unpair 25 = .ok (.lload 6, 2) := by decide +kernel
theorem dX12_unpair_27 : decode cX12_unpair 27 = .ok (.lcmp, 1) := by decide +kernel
theorem dX12_unpair_28 : decode cX12_unpair 28 = .ok (.ifCond .ge 43, 3) := by decide +kernel
theorem dX12_unpair_31 : decode cX12_unpair 31 = .ok (.lload 4, 2) := by decide +kernel
theorem dX12_unpair_33 : decode cX12_unpair 33 = .ok (.lload 6, 2) := by decide +kernel
theorem dX12_unpair_35 : decode cX12_unpair 35 = .ok (.ladd, 1) := by decide +kernel
theorem dX12_unpair_36 : decode cX12_unpair 36 = .ok (.lconst 1, 1) := by decide +kernel
theorem dX12_unpair_37 : decode cX12_unpair 37 = .ok (.ladd, 1) := by decide +kernel
theorem dX12_unpair_38 : decode cX12_unpair 38 = .ok (.ldc2_w 372, 3) := by decide +kernel
theorem dX12_unpair_41 : decode cX12_unpair 41 = .ok (.ldiv, 1) := by decide +kernel
theorem dX12_unpair_42 : decode cX12_unpair 42 = .ok (.lstore 8, 2) := by decide +kernel
theorem dX12_unpair_44 : decode cX12_unpair 44 = .ok (.lload 8, 2) := by decide +kernel
theorem dX12_unpair_46 : decode cX12_unpair 46 = .ok (.lconst 0, 1) := by decide +kernel
theorem dX12_unpair_47 : decode cX12_unpair 47 = .ok (.invokestatic 500, 3) := by decide +kernel
theorem dX12_unpair_50 : decode cX12_unpair 50 = .ok (.lload_n 1, 1) := by decide +kernel
theorem dX12_unpair_51 : decode cX12_unpair 51 = .ok (.lcmp, 1) := by decide +kernel
theorem dX12_unpair_52 : decode cX12_unpair 52 = .ok (.ifCond .gt 10, 3) := by decide +kernel
theorem dX12_unpair_55 : decode cX12_unpair 55 = .ok (.lload 8, 2) := by decide +kernel
theorem dX12_unpair_57 : decode cX12_unpair 57 = .ok (.lstore 4, 2) := by decide +kernel
theorem dX12_unpair_59 : decode cX12_unpair 59 = .ok (.goto 9, 3) := by decide +kernel
theorem dX12_unpair_62 : decode cX12_unpair 62 = .ok (.lload 8, 2) := by decide +kernel
theorem dX12_unpair_64 : decode cX12_unpair 64 = .ok (.lconst 1, 1) := by decide +kernel
theorem dX12_unpair_65 : decode cX12_unpair 65 = .ok (.lsub, 1) := by decide +kernel
theorem dX12_unpair_66 : decode cX12_unpair 66 = .ok (.lstore 6, 2) := by decide +kernel
theorem dX12_unpair_68 : decode cX12_unpair 68 = .ok (.goto (-45), 3) := by decide +kernel
theorem dX12_unpair_71 : decode cX12_unpair 71 = .ok (.lload_n 1, 1) := by decide +kernel
theorem dX12_unpair_72 : decode cX12_unpair 72 = .ok (.lload 4, 2) := by decide +kernel
theorem dX12_unpair_74 : decode cX12_unpair 74 = .ok (.lconst 0, 1) := by decide +kernel
theorem dX12_unpair_75 : decode cX12_unpair 75 = .ok (.invokestatic 500, 3) := by decide +kernel
theorem dX12_unpair_78 : decode cX12_unpair 78 = .ok (.lsub, 1) := by decide +kernel
theorem dX12_unpair_79 : decode cX12_unpair 79 = .ok (.lstore 8, 2) := by decide +kernel
theorem dX12_unpair_81 : decode cX12_unpair 81 = .ok (.iload_n 3, 1) := by decide +kernel
theorem dX12_unpair_82 : decode cX12_unpair 82 = .ok (.ifCond .eq 8, 3) := by decide +kernel
theorem dX12_unpair_85 : decode cX12_unpair 85 = .ok (.lload 8, 2) := by decide +kernel
theorem dX12_unpair_87 : decode cX12_unpair 87 = .ok (.goto 8, 3) := by decide +kernel
theorem dX12_unpair_90 : decode cX12_unpair 90 = .ok (.lload 4, 2) := by decide +kernel
theorem dX12_unpair_92 : decode cX12_unpair 92 = .ok (.lload 8, 2) := by decide +kernel
theorem dX12_unpair_94 : decode cX12_unpair 94 = .ok (.lsub, 1) := by decide +kernel
theorem dX12_unpair_95 : decode cX12_unpair 95 = .ok (.lreturn, 1) := by decide +kernel
theorem dX12_number_0 : decode cX12_number 0 = .ok (.aload_n 0, 1) := by decide +kernel
theorem dX12_number_1 : decode cX12_number 1 = .ok (.iload_n 1, 1) := by decide +kernel
theorem dX12_number_2 : decode cX12_number 2 = .ok (.invokevirtual 336, 3) := by decide +kernel
theorem dX12_number_5 : decode cX12_number 5 = .ok (.ifCond .ne 7, 3) := by decide +kernel
theorem dX12_number_8 : decode cX12_number 8 = .ok (.ldc2_w 359, 3) := by decide +kernel
theorem dX12_number_11 : decode cX12_number 11 = .ok (.lreturn, 1) := by decide +kernel
theorem dX12_number_12 : decode cX12_number 12 = .ok (.aload_n 0, 1) := by decide +kernel
theorem dX12_number_13 : decode cX12_number 13 = .ok (.iload_n 1, 1) := by decide +kernel
theorem dX12_number_14 : decode cX12_number 14 = .ok (.invokevirtual 339, 3) := by decide +kernel
theorem dX12_number_17 : decode cX12_number 17 = .ok (.iconst 4, 1) := by decide +kernel
theorem dX12_number_18 : decode cX12_number 18 = .ok (.if_icmp .gt 19, 3) := by decide +kernel
theorem dX12_number_21 : decode cX12_number 21 = .ok (.aload_n 0, 1) := by decide +kernel
theorem dX12_number_22 : decode cX12_number 22 = .ok (.iload_n 1, 1) := by decide +kernel
theorem dX12_number_23 : decode cX12_number 23 = .ok (.invokevirtual 339, 3) := by decide +kernel
theorem dX12_number_26 : decode cX12_number 26 = .ok (.ifCond .eq 11, 3) := by decide +kernel
theorem dX12_number_29 : decode cX12_number 29 = .ok (.aload_n 0, 1) := by decide +kernel
theorem dX12_number_30 : decode cX12_number 30 = .ok (.iload_n 1, 1) := by decide +kernel
theorem dX12_number_31 : decode cX12_number 31 = .ok (.invokevirtual 361, 3) := by decide +kernel
theorem dX12_number_34 : decode cX12_number 34 = .ok (.ifCond .eq 7, 3) := by decide +kernel
theorem dX12_number_37 : decode cX12_number 37 = .ok (.ldc2_w 364, 3) := by decide +kernel
theorem dX12_number_40 : decode cX12_number 40 = .ok (.lreturn, 1) := by decide +kernel
theorem dX12_number_41 : decode cX12_number 41 = .ok (.aload_n 0, 1) := by decide +kernel
theorem dX12_number_42 : decode cX12_number 42 = .ok (.iload_n 1, 1) := by decide +kernel
theorem dX12_number_43 : decode cX12_number 43 = .ok (.iconst 0, 1) := by decide +kernel
theorem dX12_number_44 : decode cX12_number 44 = .ok (.invokevirtual 342, 3) := by decide +kernel
theorem dX12_number_47 : decode cX12_number 47 = .ok (.i2l, 1) := by decide +kernel
theorem dX12_number_48 : decode cX12_number 48 = .ok (.lstore_n 2, 1) := by decide +kernel
theorem dX12_number_49 : decode cX12_number 49 = .ok (.iconst 1, 1) := by decide +kernel
theorem dX12_number_50 : decode cX12_number 50 = .ok (.istore 4, 2) := by decide +kernel
theorem dX12_number_52 : decode cX12_number 52 = .ok (.iload 4, 2) := by decide +kernel
theorem dX12_number_54 : decode cX12_number 54 = .ok (.aload_n 0, 1) := by decide +kernel
theorem dX12_number_55 : decode cX12_number 55 = .ok (.iload_n 1, 1) := by decide +kernel
theorem dX12_number_56 : decode cX12_number 56 = .ok (.invokevirtual 339, 3) := by decide +kernel
theorem dX12_number_59 : decode cX12_number 59 = .ok (.if_icmp .ge 22, 3) := by decide +kernel
theorem dX12_number_62 : decode cX12_number 62 = .ok (.lload_n 2, 1) := by decide +kernel
theorem dX12_number_63 : decode cX12_number 63 = .ok (.aload_n 0, 1) := by decide +kernel
theorem dX12_number_64 : decode cX12_number 64 = .ok (.iload_n 1, 1) := by decide +kernel
theorem dX12_number_65 : decode cX12_number 65 = .ok (.iload 4, 2) := by decide +kernel
theorem dX12_number_67 : decode cX12_number 67 = .ok (.invokevirtual 342, 3) := by decide +kernel
theorem dX12_number_70 : decode cX12_number 70 = .ok (.i2l, 1) := by decide +kernel
theorem dX12_number_71 : decode cX12_number 71 = .ok (.invokestatic 500, 3) := by decide +kernel
theorem dX12_number_74 : decode cX12_number 74 = .ok (.lstore_n 2, 1) := by decide +kernel
theorem dX12_number_75 : decode cX12_number 75 = .ok (.iinc 4 1, 3) := by decide +kernel
theorem dX12_number_78 : decode cX12_number 78 = .ok (.goto (-26), 3) := by decide +kernel
theorem dX12_number_81 : decode cX12_number 81 = .ok (.lload_n 2, 1) := by decide +kernel
theorem dX12_number_82 : decode cX12_number 82 = .ok (.lreturn, 1) := by decide +kernel
theorem dX12_hold_0 : decode cX12_hold 0 = .ok (.iload_n 1, 1) := by decide +kernel
theorem dX12_hold_1 : decode cX12_hold 1 = .ok (.i2l, 1) := by decide +kernel
theorem dX12_hold_2 : decode cX12_hold 2 = .ok (.lconst 0, 1) := by decide +kernel
theorem dX12_hold_3 : decode cX12_hold 3 = .ok (.ldc2_w 372, 3) := by decide +kernel
theorem dX12_hold_6 : decode cX12_hold 6 = .ok (.invokestatic 332, 3) := by decide +kernel
theorem dX12_hold_9 : decode cX12_hold 9 = .ok (.ifCond .ne 5, 3) := by decide +kernel
theorem dX12_hold_12 : decode cX12_hold 12 = .ok (.iconst 0, 1) := by decide +kernel
theorem dX12_hold_13 : decode cX12_hold 13 = .ok (.ireturn, 1) := by decide +kernel
theorem dX12_hold_14 : decode cX12_hold 14 = .ok (.aload_n 0, 1) := by decide +kernel
theorem dX12_hold_15 : decode cX12_hold 15 = .ok (.getfield 156, 3) := by decide +kernel
theorem dX12_hold_18 : decode cX12_hold 18 = .ok (.iload_n 1, 1) := by decide +kernel
theorem dX12_hold_19 : decode cX12_hold 19 = .ok (.iconst 1, 1) := by decide +kernel
theorem dX12_hold_20 : decode cX12_hold 20 = .ok (.bastore, 1) := by decide +kernel
theorem dX12_hold_21 : decode cX12_hold 21 = .ok (.aload_n 0, 1) := by decide +kernel
theorem dX12_hold_22 : decode cX12_hold 22 = .ok (.getfield 159, 3) := by decide +kernel
theorem dX12_hold_25 : decode cX12_hold 25 = .ok (.iload_n 1, 1) := by decide +kernel
theorem dX12_hold_26 : decode cX12_hold 26 = .ok (.aload_n 0, 1) := by decide +kernel
theorem dX12_hold_27 : decode cX12_hold 27 = .ok (.getfield 265, 3) := by decide +kernel
theorem dX12_hold_30 : decode cX12_hold 30 = .ok (.iastore, 1) := by decide +kernel
theorem dX12_hold_31 : decode cX12_hold 31 = .ok (.iconst 0, 1) := by decide +kernel
theorem dX12_hold_32 : decode cX12_hold 32 = .ok (.istore_n 2, 1) := by decide +kernel
theorem dX12_hold_33 : decode cX12_hold 33 = .ok (.iload_n 2, 1) := by decide +kernel
theorem dX12_hold_34 : decode cX12_hold 34 = .ok (.bipush 20, 2) := by decide +kernel
theorem dX12_hold_36 : decode cX12_hold 36 = .ok (.if_icmp .ge 43, 3) := by decide +kernel
theorem dX12_hold_39 : decode cX12_hold 39 = .ok (.aload_n 0, 1) := by decide +kernel
theorem dX12_hold_40 : decode cX12_hold 40 = .ok (.getfield 162, 3) := by decide +kernel
theorem dX12_hold_43 : decode cX12_hold 43 = .ok (.bipush 20, 2) := by decide +kernel
theorem dX12_hold_45 : decode cX12_hold 45 = .ok (.iload_n 1, 1) := by decide +kernel
theorem dX12_hold_46 : decode cX12_hold 46 = .ok (.imul, 1) := by decide +kernel
theorem dX12_hold_47 : decode cX12_hold 47 = .ok (.iload_n 2, 1) := by decide +kernel
theorem dX12_hold_48 : decode cX12_hold 48 = .ok (.iadd, 1) := by decide +kernel
theorem dX12_hold_49 : decode cX12_hold 49 = .ok (.aload_n 0, 1) := by decide +kernel
theorem dX12_hold_50 : decode cX12_hold 50 = .ok (.getfield 132, 3) := by decide +kernel
theorem dX12_hold_53 : decode cX12_hold 53 = .ok (.iload_n 2, 1) := by decide +kernel
theorem dX12_hold_54 : decode cX12_hold 54 = .ok (.iaload, 1) := by decide +kernel
theorem dX12_hold_55 : decode cX12_hold 55 = .ok (.iastore, 1) := by decide +kernel
theorem dX12_hold_56 : decode cX12_hold 56 = .ok (.aload_n 0, 1) := by decide +kernel
theorem dX12_hold_57 : decode cX12_hold 57 = .ok (.getfield 165, 3) := by decide +kernel
theorem dX12_hold_60 : decode cX12_hold 60 = .ok (.bipush 20, 2) := by decide +kernel
theorem dX12_hold_62 : decode cX12_hold 62 = .ok (.iload_n 1, 1) := by decide +kernel
theorem dX12_hold_63 : decode cX12_hold 63 = .ok (.imul, 1) := by decide +kernel
theorem dX12_hold_64 : decode cX12_hold 64 = .ok (.iload_n 2, 1) := by decide +kernel
theorem dX12_hold_65 : decode cX12_hold 65 = .ok (.iadd, 1) := by decide +kernel
theorem dX12_hold_66 : decode cX12_hold 66 = .ok (.aload_n 0, 1) := by decide +kernel
theorem dX12_hold_67 : decode cX12_hold 67 = .ok (.getfield 135, 3) := by decide +kernel
theorem dX12_hold_70 : decode cX12_hold 70 = .ok (.iload_n 2, 1) := by decide +kernel
theorem dX12_hold_71 : decode cX12_hold 71 = .ok (.laload, 1) := by decide +kernel
theorem dX12_hold_72 : decode cX12_hold 72 = .ok (.lastore, 1) := by decide +kernel
theorem dX12_hold_73 : decode cX12_hold 73 = .ok (.iinc 2 1, 3) := by decide +kernel
theorem dX12_hold_76 : decode cX12_hold 76 = .ok (.goto (-43), 3) := by decide +kernel
theorem dX12_hold_79 : decode cX12_hold 79 = .ok (.iconst 1, 1) := by decide +kernel
theorem dX12_hold_80 : decode cX12_hold 80 = .ok (.ireturn, 1) := by decide +kernel
theorem dX12_restore_0 : decode cX12_restore 0 = .ok (.iload_n 1, 1) := by decide +kernel
theorem dX12_restore_1 : decode cX12_restore 1 = .ok (.i2l, 1) := by decide +kernel
theorem dX12_restore_2 : decode cX12_restore 2 = .ok (.lconst 0, 1) := by decide +kernel
theorem dX12_restore_3 : decode cX12_restore 3 = .ok (.ldc2_w 372, 3) := by decide +kernel
theorem dX12_restore_6 : decode cX12_restore 6 = .ok (.invokestatic 332, 3) := by decide +kernel
theorem dX12_restore_9 : decode cX12_restore 9 = .ok (.ifCond .eq 12, 3) := by decide +kernel
theorem dX12_restore_12 : decode cX12_restore 12 = .ok (.aload_n 0, 1) := by decide +kernel
theorem dX12_restore_13 : decode cX12_restore 13 = .ok (.getfield 156, 3) := by decide +kernel
theorem dX12_restore_16 : decode cX12_restore 16 = .ok (.iload_n 1, 1) := by decide +kernel
theorem dX12_restore_17 : decode cX12_restore 17 = .ok (.baload, 1) := by decide +kernel
theorem dX12_restore_18 : decode cX12_restore 18 = .ok (.ifCond .ne 5, 3) := by decide +kernel
theorem dX12_restore_21 : decode cX12_restore 21 = .ok (.iconst 0, 1) := by decide +kernel
theorem dX12_restore_22 : decode cX12_restore 22 = .ok (.ireturn, 1) := by decide +kernel
theorem dX12_restore_23 : decode cX12_restore 23 = .ok (.aload_n 0, 1) := by decide +kernel
theorem dX12_restore_24 : decode cX12_restore 24 = .ok (.aload_n 0, 1) := by decide +kernel
theorem dX12_restore_25 : decode cX12_restore 25 = .ok (.getfield 159, 3) := by decide +kernel
theorem dX12_restore_28 : decode cX12_restore 28 = .ok (.iload_n 1, 1) := by decide +kernel
theorem dX12_restore_29 : decode cX12_restore 29 = .ok (.iaload, 1) := by decide +kernel
theorem dX12_restore_30 : decode cX12_restore 30 = .ok (.putfield 265, 3) := by decide +kernel
theorem dX12_restore_33 : decode cX12_restore 33 = .ok (.iconst 0, 1) := by decide +kernel
theorem dX12_restore_34 : decode cX12_restore 34 = .ok (.istore_n 2, 1) := by decide +kernel
theorem dX12_restore_35 : decode cX12_restore 35 = .ok (.iload_n 2, 1) := by decide +kernel
theorem dX12_restore_36 : decode cX12_restore 36 = .ok (.bipush 20, 2) := by decide +kernel
theorem dX12_restore_38 : decode cX12_restore 38 = .ok (.if_icmp .ge 43, 3) := by decide +kernel
theorem dX12_restore_41 : decode cX12_restore 41 = .ok (.aload_n 0, 1) := by decide +kernel
theorem dX12_restore_42 : decode cX12_restore 42 = .ok (.getfield 132, 3) := by decide +kernel
theorem dX12_restore_45 : decode cX12_restore 45 = .ok (.iload_n 2, 1) := by decide +kernel
theorem dX12_restore_46 : decode cX12_restore 46 = .ok (.aload_n 0, 1) := by decide +kernel
theorem dX12_restore_47 : decode cX12_restore 47 = .ok (.getfield 162, 3) := by decide +kernel
theorem dX12_restore_50 : decode cX12_restore 50 = .ok (.bipush 20, 2) := by decide +kernel
theorem dX12_restore_52 : decode cX12_restore 52 = .ok (.iload_n 1, 1) := by decide +kernel
theorem dX12_restore_53 : decode cX12_restore 53 = .ok (.imul, 1) := by decide +kernel
theorem dX12_restore_54 : decode cX12_restore 54 = .ok (.iload_n 2, 1) := by decide +kernel
theorem dX12_restore_55 : decode cX12_restore 55 = .ok (.iadd, 1) := by decide +kernel
theorem dX12_restore_56 : decode cX12_restore 56 = .ok (.iaload, 1) := by decide +kernel
theorem dX12_restore_57 : decode cX12_restore 57 = .ok (.iastore, 1) := by decide +kernel
theorem dX12_restore_58 : decode cX12_restore 58 = .ok (.aload_n 0, 1) := by decide +kernel
theorem dX12_restore_59 : decode cX12_restore 59 = .ok (.getfield 135, 3) := by decide +kernel
theorem dX12_restore_62 : decode cX12_restore 62 = .ok (.iload_n 2, 1) := by decide +kernel
theorem dX12_restore_63 : decode cX12_restore 63 = .ok (.aload_n 0, 1) := by decide +kernel
theorem dX12_restore_64 : decode cX12_restore 64 = .ok (.getfield 165, 3) := by decide +kernel
theorem dX12_restore_67 : decode cX12_restore 67 = .ok (.bipush 20, 2) := by decide +kernel
theorem dX12_restore_69 : decode cX12_restore 69 = .ok (.iload_n 1, 1) := by decide +kernel
theorem dX12_restore_70 : decode cX12_restore 70 = .ok (.imul, 1) := by decide +kernel
theorem dX12_restore_71 : decode cX12_restore 71 = .ok (.iload_n 2, 1) := by decide +kernel
theorem dX12_restore_72 : decode cX12_restore 72 = .ok (.iadd, 1) := by decide +kernel
theorem dX12_restore_73 : decode cX12_restore 73 = .ok (.laload, 1) := by decide +kernel
theorem dX12_restore_74 : decode cX12_restore 74 = .ok (.lastore, 1) := by decide +kernel
theorem dX12_restore_75 : decode cX12_restore 75 = .ok (.iinc 2 1, 3) := by decide +kernel
theorem dX12_restore_78 : decode cX12_restore 78 = .ok (.goto (-43), 3) := by decide +kernel
theorem dX12_restore_81 : decode cX12_restore 81 = .ok (.iconst 1, 1) := by decide +kernel
theorem dX12_restore_82 : decode cX12_restore 82 = .ok (.ireturn, 1) := by decide +kernel
theorem dX12_count_0 : decode cX12_count 0 = .ok (.iload_n 1, 1) := by decide +kernel
theorem dX12_count_1 : decode cX12_count 1 = .ok (.tableswitch 210 0 11 #[63, 73, 83, 93, 103, 113, 123, 128, 133, 178, 188, 205], 63) := by decide +kernel
theorem dX12_count_64 : decode cX12_count 64 = .ok (.aload_n 0, 1) := by decide +kernel
theorem dX12_count_65 : decode cX12_count 65 = .ok (.getfield 43, 3) := by decide +kernel
theorem dX12_count_68 : decode cX12_count 68 = .ok (.aload_n 0, 1) := by decide +kernel
theorem dX12_count_69 : decode cX12_count 69 = .ok (.getfield 243, 3) := by decide +kernel
theorem dX12_count_72 : decode cX12_count 72 = .ok (.iaload, 1) := by decide +kernel
theorem dX12_count_73 : decode cX12_count 73 = .ok (.ireturn, 1) := by decide +kernel
theorem dX12_count_74 : decode cX12_count 74 = .ok (.aload_n 0, 1) := by decide +kernel
theorem dX12_count_75 : decode cX12_count 75 = .ok (.getfield 55, 3) := by decide +kernel
theorem dX12_count_78 : decode cX12_count 78 = .ok (.aload_n 0, 1) := by decide +kernel
theorem dX12_count_79 : decode cX12_count 79 = .ok (.getfield 243, 3) := by decide +kernel
theorem dX12_count_82 : decode cX12_count 82 = .ok (.iaload, 1) := by decide +kernel
theorem dX12_count_83 : decode cX12_count 83 = .ok (.ireturn, 1) := by decide +kernel
theorem dX12_count_84 : decode cX12_count 84 = .ok (.aload_n 0, 1) := by decide +kernel
theorem dX12_count_85 : decode cX12_count 85 = .ok (.getfield 67, 3) := by decide +kernel
theorem dX12_count_88 : decode cX12_count 88 = .ok (.aload_n 0, 1) := by decide +kernel
theorem dX12_count_89 : decode cX12_count 89 = .ok (.getfield 243, 3) := by decide +kernel
theorem dX12_count_92 : decode cX12_count 92 = .ok (.iaload, 1) := by decide +kernel
theorem dX12_count_93 : decode cX12_count 93 = .ok (.ireturn, 1) := by decide +kernel
theorem dX12_count_94 : decode cX12_count 94 = .ok (.aload_n 0, 1) := by decide +kernel
theorem dX12_count_95 : decode cX12_count 95 = .ok (.getfield 52, 3) := by decide +kernel
theorem dX12_count_98 : decode cX12_count 98 = .ok (.aload_n 0, 1) := by decide +kernel
theorem dX12_count_99 : decode cX12_count 99 = .ok (.getfield 243, 3) := by decide +kernel
theorem dX12_count_102 : decode cX12_count 102 = .ok (.iaload, 1) := by decide +kernel
theorem dX12_count_103 : decode cX12_count 103 = .ok (.ireturn, 1) := by decide +kernel
theorem dX12_count_104 : decode cX12_count 104 = .ok (.aload_n 0, 1) := by decide +kernel
theorem dX12_count_105 : decode cX12_count 105 = .ok (.getfield 73, 3) := by decide +kernel
theorem dX12_count_108 : decode cX12_count 108 = .ok (.aload_n 0, 1) := by decide +kernel
theorem dX12_count_109 : decode cX12_count 109 = .ok (.getfield 243, 3) := by decide +kernel
theorem dX12_count_112 : decode cX12_count 112 = .ok (.iaload, 1) := by decide +kernel
theorem dX12_count_113 : decode cX12_count 113 = .ok (.ireturn, 1) := by decide +kernel
theorem dX12_count_114 : decode cX12_count 114 = .ok (.aload_n 0, 1) := by decide +kernel
theorem dX12_count_115 : decode cX12_count 115 = .ok (.getfield 76, 3) := by decide +kernel
theorem dX12_count_118 : decode cX12_count 118 = .ok (.aload_n 0, 1) := by decide +kernel
theorem dX12_count_119 : decode cX12_count 119 = .ok (.getfield 243, 3) := by decide +kernel
theorem dX12_count_122 : decode cX12_count 122 = .ok (.iaload, 1) := by decide +kernel
theorem dX12_count_123 : decode cX12_count 123 = .ok (.ireturn, 1) := by decide +kernel
theorem dX12_count_124 : decode cX12_count 124 = .ok (.aload_n 0, 1) := by decide +kernel
theorem dX12_count_125 : decode cX12_count 125 = .ok (.getfield 176, 3) := by decide +kernel
theorem dX12_count_128 : decode cX12_count 128 = .ok (.ireturn, 1) := by decide +kernel
theorem dX12_count_129 : decode cX12_count 129 = .ok (.aload_n 0, 1) := by decide +kernel
theorem dX12_count_130 : decode cX12_count 130 = .ok (.getfield 265, 3) := by decide +kernel
theorem dX12_count_133 : decode cX12_count 133 = .ok (.ireturn, 1) := by decide +kernel
theorem dX12_count_134 : decode cX12_count 134 = .ok (.aload_n 0, 1) := by decide +kernel
theorem dX12_count_135 : decode cX12_count 135 = .ok (.getfield 156, 3) := by decide +kernel
theorem dX12_count_138 : decode cX12_count 138 = .ok (.iconst 0, 1) := by decide +kernel
theorem dX12_count_139 : decode cX12_count 139 = .ok (.baload, 1) := by decide +kernel
theorem dX12_count_140 : decode cX12_count 140 = .ok (.ifCond .eq 7, 3) := by decide +kernel
theorem dX12_count_143 : decode cX12_count 143 = .ok (.iconst 1, 1) := by decide +kernel
theorem dX12_count_144 : decode cX12_count 144 = .ok (.goto 4, 3) := by decide +kernel
theorem dX12_count_147 : decode cX12_count 147 = .ok (.iconst 0, 1) := by decide +kernel
theorem dX12_count_148 : decode cX12_count 148 = .ok (.aload_n 0, 1) := by decide +kernel
theorem dX12_count_149 : decode cX12_count 149 = .ok (.getfield 156, 3) := by decide +kernel
theorem dX12_count_152 : decode cX12_count 152 = .ok (.iconst 1, 1) := by decide +kernel
theorem dX12_count_153 : decode cX12_count 153 = .ok (.baload, 1) := by decide +kernel
theorem dX12_count_154 : decode cX12_count 154 = .ok (.ifCond .eq 7, 3) := by decide +kernel
theorem dX12_count_157 : decode cX12_count 157 = .ok (.iconst 1, 1) := by decide +kernel
theorem dX12_count_158 : decode cX12_count 158 = .ok (.goto 4, 3) := by decide +kernel
theorem dX12_count_161 : decode cX12_count 161 = .ok (.iconst 0, 1) := by decide +kernel
theorem dX12_count_162 : decode cX12_count 162 = .ok (.iadd, 1) := by decide +kernel
theorem dX12_count_163 : decode cX12_count 163 = .ok (.aload_n 0, 1) := by decide +kernel
theorem dX12_count_164 : decode cX12_count 164 = .ok (.getfield 156, 3) := by decide +kernel
theorem dX12_count_167 : decode cX12_count 167 = .ok (.iconst 2, 1) := by decide +kernel
theorem dX12_count_168 : decode cX12_count 168 = .ok (.baload, 1) := by decide +kernel
theorem dX12_count_169 : decode cX12_count 169 = .ok (.ifCond .eq 7, 3) := by decide +kernel
theorem dX12_count_172 : decode cX12_count 172 = .ok (.iconst 1, 1) := by decide +kernel
theorem dX12_count_173 : decode cX12_count 173 = .ok (.goto 4, 3) := by decide +kernel
theorem dX12_count_176 : decode cX12_count 176 = .ok (.iconst 0, 1) := by decide +kernel
theorem dX12_count_177 : decode cX12_count 177 = .ok (.iadd, 1) := by decide +kernel
theorem dX12_count_178 : decode cX12_count 178 = .ok (.ireturn, 1) := by decide +kernel
theorem dX12_count_179 : decode cX12_count 179 = .ok (.aload_n 0, 1) := by decide +kernel
theorem dX12_count_180 : decode cX12_count 180 = .ok (.getfield 79, 3) := by decide +kernel
theorem dX12_count_183 : decode cX12_count 183 = .ok (.aload_n 0, 1) := by decide +kernel
theorem dX12_count_184 : decode cX12_count 184 = .ok (.getfield 243, 3) := by decide +kernel
theorem dX12_count_187 : decode cX12_count 187 = .ok (.iaload, 1) := by decide +kernel
theorem dX12_count_188 : decode cX12_count 188 = .ok (.ireturn, 1) := by decide +kernel
theorem dX12_count_189 : decode cX12_count 189 = .ok (.aload_n 0, 1) := by decide +kernel
theorem dX12_count_190 : decode cX12_count 190 = .ok (.getfield 141, 3) := by decide +kernel
theorem dX12_count_193 : decode cX12_count 193 = .ok (.ifCond .ge 8, 3) := by decide +kernel
theorem dX12_count_196 : decode cX12_count 196 = .ok (.bipush (-2), 2) := by decide +kernel
theorem dX12_count_198 : decode cX12_count 198 = .ok (.goto 7, 3) := by decide +kernel
theorem dX12_count_201 : decode cX12_count 201 = .ok (.aload_n 0, 1) := by decide +kernel
theorem dX12_count_202 : decode cX12_count 202 = .ok (.getfield 141, 3) := by decide +kernel
theorem dX12_count_205 : decode cX12_count 205 = .ok (.ireturn, 1) := by decide +kernel
theorem dX12_count_206 : decode cX12_count 206 = .ok (.aload_n 0, 1) := by decide +kernel
theorem dX12_count_207 : decode cX12_count 207 = .ok (.getfield 268, 3) := by decide +kernel
theorem dX12_count_210 : decode cX12_count 210 = .ok (.ireturn, 1) := by decide +kernel
theorem dX12_count_211 : decode cX12_count 211 = .ok (.iconst (-1), 1) := by decide +kernel
theorem dX12_count_212 : decode cX12_count 212 = .ok (.ireturn, 1) := by decide +kernel
theorem dJ6_bitCount_0f7a4_0 : decode cJ6_bitCount_0f7a4 0 = .ok (.iload_n 0, 1) := by decide +kernel
theorem dJ6_bitCount_0f7a4_1 : decode cJ6_bitCount_0f7a4 1 = .ok (.iload_n 0, 1) := by decide +kernel
theorem dJ6_bitCount_0f7a4_2 : decode cJ6_bitCount_0f7a4 2 = .ok (.iconst 1, 1) := by decide +kernel
theorem dJ6_bitCount_0f7a4_3 : decode cJ6_bitCount_0f7a4 3 = .ok (.iushr, 1) := by decide +kernel
theorem dJ6_bitCount_0f7a4_4 : decode cJ6_bitCount_0f7a4 4 = .ok (.ldc_w 265, 3) := by decide +kernel
theorem dJ6_bitCount_0f7a4_7 : decode cJ6_bitCount_0f7a4 7 = .ok (.iand, 1) := by decide +kernel
theorem dJ6_bitCount_0f7a4_8 : decode cJ6_bitCount_0f7a4 8 = .ok (.isub, 1) := by decide +kernel
theorem dJ6_bitCount_0f7a4_9 : decode cJ6_bitCount_0f7a4 9 = .ok (.istore_n 0, 1) := by decide +kernel
theorem dJ6_bitCount_0f7a4_10 : decode cJ6_bitCount_0f7a4 10 = .ok (.iload_n 0, 1) := by decide +kernel
theorem dJ6_bitCount_0f7a4_11 : decode cJ6_bitCount_0f7a4 11 = .ok (.ldc_w 266, 3) := by decide +kernel
theorem dJ6_bitCount_0f7a4_14 : decode cJ6_bitCount_0f7a4 14 = .ok (.iand, 1) := by decide +kernel
theorem dJ6_bitCount_0f7a4_15 : decode cJ6_bitCount_0f7a4 15 = .ok (.iload_n 0, 1) := by decide +kernel
theorem dJ6_bitCount_0f7a4_16 : decode cJ6_bitCount_0f7a4 16 = .ok (.iconst 2, 1) := by decide +kernel
theorem dJ6_bitCount_0f7a4_17 : decode cJ6_bitCount_0f7a4 17 = .ok (.iushr, 1) := by decide +kernel
theorem dJ6_bitCount_0f7a4_18 : decode cJ6_bitCount_0f7a4 18 = .ok (.ldc_w 266, 3) := by decide +kernel
theorem dJ6_bitCount_0f7a4_21 : decode cJ6_bitCount_0f7a4 21 = .ok (.iand, 1) := by decide +kernel
theorem dJ6_bitCount_0f7a4_22 : decode cJ6_bitCount_0f7a4 22 = .ok (.iadd, 1) := by decide +kernel
theorem dJ6_bitCount_0f7a4_23 : decode cJ6_bitCount_0f7a4 23 = .ok (.istore_n 0, 1) := by decide +kernel
theorem dJ6_bitCount_0f7a4_24 : decode cJ6_bitCount_0f7a4 24 = .ok (.iload_n 0, 1) := by decide +kernel
theorem dJ6_bitCount_0f7a4_25 : decode cJ6_bitCount_0f7a4 25 = .ok (.iload_n 0, 1) := by decide +kernel
theorem dJ6_bitCount_0f7a4_26 : decode cJ6_bitCount_0f7a4 26 = .ok (.iconst 4, 1) := by decide +kernel
theorem dJ6_bitCount_0f7a4_27 : decode cJ6_bitCount_0f7a4 27 = .ok (.iushr, 1) := by decide +kernel
theorem dJ6_bitCount_0f7a4_28 : decode cJ6_bitCount_0f7a4 28 = .ok (.iadd, 1) := by decide +kernel
theorem dJ6_bitCount_0f7a4_29 : decode cJ6_bitCount_0f7a4 29 = .ok (.ldc_w 267, 3) := by decide +kernel
theorem dJ6_bitCount_0f7a4_32 : decode cJ6_bitCount_0f7a4 32 = .ok (.iand, 1) := by decide +kernel
theorem dJ6_bitCount_0f7a4_33 : decode cJ6_bitCount_0f7a4 33 = .ok (.istore_n 0, 1) := by decide +kernel
theorem dJ6_bitCount_0f7a4_34 : decode cJ6_bitCount_0f7a4 34 = .ok (.iload_n 0, 1) := by decide +kernel
theorem dJ6_bitCount_0f7a4_35 : decode cJ6_bitCount_0f7a4 35 = .ok (.iload_n 0, 1) := by decide +kernel
theorem dJ6_bitCount_0f7a4_36 : decode cJ6_bitCount_0f7a4 36 = .ok (.bipush 8, 2) := by decide +kernel
theorem dJ6_bitCount_0f7a4_38 : decode cJ6_bitCount_0f7a4 38 = .ok (.iushr, 1) := by decide +kernel
theorem dJ6_bitCount_0f7a4_39 : decode cJ6_bitCount_0f7a4 39 = .ok (.iadd, 1) := by decide +kernel
theorem dJ6_bitCount_0f7a4_40 : decode cJ6_bitCount_0f7a4 40 = .ok (.istore_n 0, 1) := by decide +kernel
theorem dJ6_bitCount_0f7a4_41 : decode cJ6_bitCount_0f7a4 41 = .ok (.iload_n 0, 1) := by decide +kernel
theorem dJ6_bitCount_0f7a4_42 : decode cJ6_bitCount_0f7a4 42 = .ok (.iload_n 0, 1) := by decide +kernel
theorem dJ6_bitCount_0f7a4_43 : decode cJ6_bitCount_0f7a4 43 = .ok (.bipush 16, 2) := by decide +kernel
theorem dJ6_bitCount_0f7a4_45 : decode cJ6_bitCount_0f7a4 45 = .ok (.iushr, 1) := by decide +kernel
theorem dJ6_bitCount_0f7a4_46 : decode cJ6_bitCount_0f7a4 46 = .ok (.iadd, 1) := by decide +kernel
theorem dJ6_bitCount_0f7a4_47 : decode cJ6_bitCount_0f7a4 47 = .ok (.istore_n 0, 1) := by decide +kernel
theorem dJ6_bitCount_0f7a4_48 : decode cJ6_bitCount_0f7a4 48 = .ok (.iload_n 0, 1) := by decide +kernel
theorem dJ6_bitCount_0f7a4_49 : decode cJ6_bitCount_0f7a4 49 = .ok (.bipush 63, 2) := by decide +kernel
theorem dJ6_bitCount_0f7a4_51 : decode cJ6_bitCount_0f7a4 51 = .ok (.iand, 1) := by decide +kernel
theorem dJ6_bitCount_0f7a4_52 : decode cJ6_bitCount_0f7a4 52 = .ok (.ireturn, 1) := by decide +kernel
theorem dJ9_floorMod_f86c9_0 : decode cJ9_floorMod_f86c9 0 = .ok (.lload_n 0, 1) := by decide +kernel
theorem dJ9_floorMod_f86c9_1 : decode cJ9_floorMod_f86c9 1 = .ok (.lload_n 2, 1) := by decide +kernel
theorem dJ9_floorMod_f86c9_2 : decode cJ9_floorMod_f86c9 2 = .ok (.lrem, 1) := by decide +kernel
theorem dJ9_floorMod_f86c9_3 : decode cJ9_floorMod_f86c9 3 = .ok (.lstore 4, 2) := by decide +kernel
theorem dJ9_floorMod_f86c9_5 : decode cJ9_floorMod_f86c9 5 = .ok (.lload_n 0, 1) := by decide +kernel
theorem dJ9_floorMod_f86c9_6 : decode cJ9_floorMod_f86c9 6 = .ok (.lload_n 2, 1) := by decide +kernel
theorem dJ9_floorMod_f86c9_7 : decode cJ9_floorMod_f86c9 7 = .ok (.lxor, 1) := by decide +kernel
theorem dJ9_floorMod_f86c9_8 : decode cJ9_floorMod_f86c9 8 = .ok (.lconst 0, 1) := by decide +kernel
theorem dJ9_floorMod_f86c9_9 : decode cJ9_floorMod_f86c9 9 = .ok (.lcmp, 1) := by decide +kernel
theorem dJ9_floorMod_f86c9_10 : decode cJ9_floorMod_f86c9 10 = .ok (.ifCond .ge 15, 3) := by decide +kernel
theorem dJ9_floorMod_f86c9_13 : decode cJ9_floorMod_f86c9 13 = .ok (.lload 4, 2) := by decide +kernel
theorem dJ9_floorMod_f86c9_15 : decode cJ9_floorMod_f86c9 15 = .ok (.lconst 0, 1) := by decide +kernel
theorem dJ9_floorMod_f86c9_16 : decode cJ9_floorMod_f86c9 16 = .ok (.lcmp, 1) := by decide +kernel
theorem dJ9_floorMod_f86c9_17 : decode cJ9_floorMod_f86c9 17 = .ok (.ifCond .eq 8, 3) := by decide +kernel
theorem dJ9_floorMod_f86c9_20 : decode cJ9_floorMod_f86c9 20 = .ok (.lload 4, 2) := by decide +kernel
theorem dJ9_floorMod_f86c9_22 : decode cJ9_floorMod_f86c9 22 = .ok (.lload_n 2, 1) := by decide +kernel
theorem dJ9_floorMod_f86c9_23 : decode cJ9_floorMod_f86c9 23 = .ok (.ladd, 1) := by decide +kernel
theorem dJ9_floorMod_f86c9_24 : decode cJ9_floorMod_f86c9 24 = .ok (.lreturn, 1) := by decide +kernel
theorem dJ9_floorMod_f86c9_25 : decode cJ9_floorMod_f86c9 25 = .ok (.lload 4, 2) := by decide +kernel
theorem dJ9_floorMod_f86c9_27 : decode cJ9_floorMod_f86c9 27 = .ok (.lreturn, 1) := by decide +kernel
theorem dJ9_abs_067f4_0 : decode cJ9_abs_067f4 0 = .ok (.lload_n 0, 1) := by decide +kernel
theorem dJ9_abs_067f4_1 : decode cJ9_abs_067f4 1 = .ok (.lconst 0, 1) := by decide +kernel
theorem dJ9_abs_067f4_2 : decode cJ9_abs_067f4 2 = .ok (.lcmp, 1) := by decide +kernel
theorem dJ9_abs_067f4_3 : decode cJ9_abs_067f4 3 = .ok (.ifCond .ge 8, 3) := by decide +kernel
theorem dJ9_abs_067f4_6 : decode cJ9_abs_067f4 6 = .ok (.lload_n 0, 1) := by decide +kernel
theorem dJ9_abs_067f4_7 : decode cJ9_abs_067f4 7 = .ok (.lneg, 1) := by decide +kernel
theorem dJ9_abs_067f4_8 : decode cJ9_abs_067f4 8 = .ok (.goto 4, 3) := by decide +kernel
theorem dJ9_abs_067f4_11 : decode cJ9_abs_067f4 11 = .ok (.lload_n 0, 1) := by decide +kernel
theorem dJ9_abs_067f4_12 : decode cJ9_abs_067f4 12 = .ok (.lreturn, 1) := by decide +kernel
theorem dJ9_max_7cf53_0 : decode cJ9_max_7cf53 0 = .ok (.iload_n 0, 1) := by decide +kernel
theorem dJ9_max_7cf53_1 : decode cJ9_max_7cf53 1 = .ok (.iload_n 1, 1) := by decide +kernel
theorem dJ9_max_7cf53_2 : decode cJ9_max_7cf53 2 = .ok (.if_icmp .lt 7, 3) := by decide +kernel
theorem dJ9_max_7cf53_5 : decode cJ9_max_7cf53 5 = .ok (.iload_n 0, 1) := by decide +kernel
theorem dJ9_max_7cf53_6 : decode cJ9_max_7cf53 6 = .ok (.goto 4, 3) := by decide +kernel
theorem dJ9_max_7cf53_9 : decode cJ9_max_7cf53 9 = .ok (.iload_n 1, 1) := by decide +kernel
theorem dJ9_max_7cf53_10 : decode cJ9_max_7cf53 10 = .ok (.ireturn, 1) := by decide +kernel
theorem dJ9_min_7cf53_0 : decode cJ9_min_7cf53 0 = .ok (.iload_n 0, 1) := by decide +kernel
theorem dJ9_min_7cf53_1 : decode cJ9_min_7cf53 1 = .ok (.iload_n 1, 1) := by decide +kernel
theorem dJ9_min_7cf53_2 : decode cJ9_min_7cf53 2 = .ok (.if_icmp .gt 7, 3) := by decide +kernel
theorem dJ9_min_7cf53_5 : decode cJ9_min_7cf53 5 = .ok (.iload_n 0, 1) := by decide +kernel
theorem dJ9_min_7cf53_6 : decode cJ9_min_7cf53 6 = .ok (.goto 4, 3) := by decide +kernel
theorem dJ9_min_7cf53_9 : decode cJ9_min_7cf53 9 = .ok (.iload_n 1, 1) := by decide +kernel
theorem dJ9_min_7cf53_10 : decode cJ9_min_7cf53 10 = .ok (.ireturn, 1) := by decide +kernel
theorem dJ0_length_8abf5_0 : decode cJ0_length_8abf5 0 = .ok (.aload_n 0, 1) := by decide +kernel
theorem dJ0_length_8abf5_1 : decode cJ0_length_8abf5 1 = .ok (.getfield 9, 3) := by decide +kernel
theorem dJ0_length_8abf5_4 : decode cJ0_length_8abf5 4 = .ok (.arraylength, 1) := by decide +kernel
theorem dJ0_length_8abf5_5 : decode cJ0_length_8abf5 5 = .ok (.aload_n 0, 1) := by decide +kernel
theorem dJ0_length_8abf5_6 : decode cJ0_length_8abf5 6 = .ok (.invokevirtual 335, 3) := by decide +kernel
theorem dJ0_length_8abf5_9 : decode cJ0_length_8abf5 9 = .ok (.ishr, 1) := by decide +kernel
theorem dJ0_length_8abf5_10 : decode cJ0_length_8abf5 10 = .ok (.ireturn, 1) := by decide +kernel
theorem dJ0_charAt_5068e_0 : decode cJ0_charAt_5068e 0 = .ok (.aload_n 0, 1) := by decide +kernel
theorem dJ0_charAt_5068e_1 : decode cJ0_charAt_5068e 1 = .ok (.invokevirtual 492, 3) := by decide +kernel
theorem dJ0_charAt_5068e_4 : decode cJ0_charAt_5068e 4 = .ok (.ifCond .eq 12, 3) := by decide +kernel
theorem dJ0_charAt_5068e_7 : decode cJ0_charAt_5068e 7 = .ok (.aload_n 0, 1) := by decide +kernel
theorem dJ0_charAt_5068e_8 : decode cJ0_charAt_5068e 8 = .ok (.getfield 9, 3) := by decide +kernel
theorem dJ0_charAt_5068e_11 : decode cJ0_charAt_5068e 11 = .ok (.iload_n 1, 1) := by decide +kernel
theorem dJ0_charAt_5068e_12 : decode cJ0_charAt_5068e 12 = .ok (.invokestatic 495, 3) := by decide +kernel
theorem dJ0_charAt_5068e_15 : decode cJ0_charAt_5068e 15 = .ok (.ireturn, 1) := by decide +kernel
theorem dJ0_charAt_5068e_16 : decode cJ0_charAt_5068e 16 = .ok (.aload_n 0, 1) := by decide +kernel
theorem dJ0_charAt_5068e_17 : decode cJ0_charAt_5068e 17 = .ok (.getfield 9, 3) := by decide +kernel
theorem dJ0_charAt_5068e_20 : decode cJ0_charAt_5068e 20 = .ok (.iload_n 1, 1) := by decide +kernel
theorem dJ0_charAt_5068e_21 : decode cJ0_charAt_5068e 21 = .ok (.invokestatic 498, 3) := by decide +kernel
theorem dJ0_charAt_5068e_24 : decode cJ0_charAt_5068e 24 = .ok (.ireturn, 1) := by decide +kernel
theorem dJ0_coder_7d493_0 : decode cJ0_coder_7d493 0 = .ok (.getstatic 38, 3) := by decide +kernel
theorem dJ0_coder_7d493_3 : decode cJ0_coder_7d493 3 = .ok (.ifCond .eq 10, 3) := by decide +kernel
theorem dJ0_coder_7d493_6 : decode cJ0_coder_7d493 6 = .ok (.aload_n 0, 1) := by decide +kernel
theorem dJ0_coder_7d493_7 : decode cJ0_coder_7d493 7 = .ok (.getfield 15, 3) := by decide +kernel
theorem dJ0_coder_7d493_10 : decode cJ0_coder_7d493 10 = .ok (.goto 4, 3) := by decide +kernel
theorem dJ0_coder_7d493_13 : decode cJ0_coder_7d493 13 = .ok (.iconst 1, 1) := by decide +kernel
theorem dJ0_coder_7d493_14 : decode cJ0_coder_7d493 14 = .ok (.ireturn, 1) := by decide +kernel
theorem dJ0_isLatin1_aae02_0 : decode cJ0_isLatin1_aae02 0 = .ok (.getstatic 38, 3) := by decide +kernel
theorem dJ0_isLatin1_aae02_3 : decode cJ0_isLatin1_aae02 3 = .ok (.ifCond .eq 14, 3) := by decide +kernel
theorem dJ0_isLatin1_aae02_6 : decode cJ0_isLatin1_aae02 6 = .ok (.aload_n 0, 1) := by decide +kernel
theorem dJ0_isLatin1_aae02_7 : decode cJ0_isLatin1_aae02 7 = .ok (.getfield 15, 3) := by decide +kernel
theorem dJ0_isLatin1_aae02_10 : decode cJ0_isLatin1_aae02 10 = .ok (.ifCond .ne 7, 3) := by decide +kernel
theorem dJ0_isLatin1_aae02_13 : decode cJ0_isLatin1_aae02 13 = .ok (.iconst 1, 1) := by decide +kernel
theorem dJ0_isLatin1_aae02_14 : decode cJ0_isLatin1_aae02 14 = .ok (.goto 4, 3) := by decide +kernel
theorem dJ0_isLatin1_aae02_17 : decode cJ0_isLatin1_aae02 17 = .ok (.iconst 0, 1) := by decide +kernel
theorem dJ0_isLatin1_aae02_18 : decode cJ0_isLatin1_aae02 18 = .ok (.ireturn, 1) := by decide +kernel
theorem dJ0_checkIndex_df160_0 : decode cJ0_checkIndex_df160 0 = .ok (.iload_n 0, 1) := by decide +kernel
theorem dJ0_checkIndex_df160_1 : decode cJ0_checkIndex_df160 1 = .ok (.iload_n 1, 1) := by decide +kernel
theorem dJ0_checkIndex_df160_2 : decode cJ0_checkIndex_df160 2 = .ok (.getstatic 1053, 3) := by decide +kernel
theorem dJ0_checkIndex_df160_5 : decode cJ0_checkIndex_df160 5 = .ok (.invokestatic 1059, 3) := by decide +kernel
theorem dJ0_checkIndex_df160_8 : decode cJ0_checkIndex_df160 8 = .ok (.pop, 1) := by decide +kernel
theorem dJ0_checkIndex_df160_9 : decode cJ0_checkIndex_df160 9 = .ok (.return_, 1) := by decide +kernel
theorem dJ1_charAt_3b067_0 : decode cJ1_charAt_3b067 0 = .ok (.iload_n 1, 1) := by decide +kernel
theorem dJ1_charAt_3b067_1 : decode cJ1_charAt_3b067 1 = .ok (.aload_n 0, 1) := by decide +kernel
theorem dJ1_charAt_3b067_2 : decode cJ1_charAt_3b067 2 = .ok (.arraylength, 1) := by decide +kernel
theorem dJ1_charAt_3b067_3 : decode cJ1_charAt_3b067 3 = .ok (.invokestatic 9, 3) := by decide +kernel
theorem dJ1_charAt_3b067_6 : decode cJ1_charAt_3b067 6 = .ok (.aload_n 0, 1) := by decide +kernel
theorem dJ1_charAt_3b067_7 : decode cJ1_charAt_3b067 7 = .ok (.iload_n 1, 1) := by decide +kernel
theorem dJ1_charAt_3b067_8 : decode cJ1_charAt_3b067 8 = .ok (.baload, 1) := by decide +kernel
theorem dJ1_charAt_3b067_9 : decode cJ1_charAt_3b067 9 = .ok (.sipush 255, 3) := by decide +kernel
theorem dJ1_charAt_3b067_12 : decode cJ1_charAt_3b067 12 = .ok (.iand, 1) := by decide +kernel
theorem dJ1_charAt_3b067_13 : decode cJ1_charAt_3b067 13 = .ok (.i2c, 1) := by decide +kernel
theorem dJ1_charAt_3b067_14 : decode cJ1_charAt_3b067 14 = .ok (.ireturn, 1) := by decide +kernel
theorem dJ2_getChar_3b067_0 : decode cJ2_getChar_3b067 0 = .ok (.getstatic 44, 3) := by decide +kernel
theorem dJ2_getChar_3b067_3 : decode cJ2_getChar_3b067 3 = .ok (.ifCond .ne 25, 3) := by decide +kernel
theorem dJ2_getChar_3b067_6 : decode cJ2_getChar_3b067 6 = .ok (.iload_n 1, 1) := by decide +kernel
theorem dJ2_getChar_3b067_7 : decode cJ2_getChar_3b067 7 = .ok (.ifCond .lt 11, 3) := by decide +kernel
theorem dJ2_getChar_3b067_10 : decode cJ2_getChar_3b067 10 = .ok (.iload_n 1, 1) := by decide +kernel
theorem dJ2_getChar_3b067_11 : decode cJ2_getChar_3b067 11 = .ok (.aload_n 0, 1) := by decide +kernel
theorem dJ2_getChar_3b067_12 : decode cJ2_getChar_3b067 12 = .ok (.invokestatic 48, 3) := by decide +kernel
theorem dJ2_getChar_3b067_15 : decode cJ2_getChar_3b067 15 = .ok (.if_icmp .lt 13, 3) := by decide +kernel
theorem dJ2_getChar_3b067_18 : decode cJ2_getChar_3b067 18 = .ok (.new 52, 3) := by decide +kernel
theorem dJ2_getChar_3b067_21 : decode cJ2_getChar_3b067 21 = .ok (.dup, 1) := by decide +kernel
theorem dJ2_getChar_3b067_22 : decode cJ2_getChar_3b067 22 = .ok (.ldc 54, 2) := by decide +kernel
theorem dJ2_getChar_3b067_24 : decode cJ2_getChar_3b067 24 = .ok (.invokespecial 56, 3) := by decide +kernel
theorem dJ2_getChar_3b067_27 : decode cJ2_getChar_3b067 27 = .ok (.athrow, 1) := by decide +kernel
theorem dJ2_getChar_3b067_28 : decode cJ2_getChar_3b067 28 = .ok (.iload_n 1, 1) := by decide +kernel
theorem dJ2_getChar_3b067_29 : decode cJ2_getChar_3b067 29 = .ok (.iconst 1, 1) := by decide +kernel
theorem dJ2_getChar_3b067_30 : decode cJ2_getChar_3b067 30 = .ok (.ishl, 1) := by decide +kernel
theorem dJ2_getChar_3b067_31 : decode cJ2_getChar_3b067 31 = .ok (.istore_n 1, 1) := by decide +kernel
theorem dJ2_getChar_3b067_32 : decode cJ2_getChar_3b067 32 = .ok (.aload_n 0, 1) := by decide +kernel
theorem dJ2_getChar_3b067_33 : decode cJ2_getChar_3b067 33 = .ok (.iload_n 1, 1) := by decide +kernel
theorem dJ2_getChar_3b067_34 : decode cJ2_getChar_3b067 34 = .ok (.iinc 1 1, 3) := by decide +kernel
theorem dJ2_getChar_3b067_37 : decode cJ2_getChar_3b067 37 = .ok (.baload, 1) := by decide +kernel
theorem dJ2_getChar_3b067_38 : decode cJ2_getChar_3b067 38 = .ok (.sipush 255, 3) := by decide +kernel
theorem dJ2_getChar_3b067_41 : decode cJ2_getChar_3b067 41 = .ok (.iand, 1) := by decide +kernel
theorem dJ2_getChar_3b067_42 : decode cJ2_getChar_3b067 42 = .ok (.getstatic 59, 3) := by decide +kernel
theorem dJ2_getChar_3b067_45 : decode cJ2_getChar_3b067 45 = .ok (.ishl, 1) := by decide +kernel
theorem dJ2_getChar_3b067_46 : decode cJ2_getChar_3b067 46 = .ok (.aload_n 0, 1) := by decide +kernel
theorem dJ2_getChar_3b067_47 : decode cJ2_getChar_3b067 47 = .ok (.iload_n 1, 1) := by decide +kernel
theorem dJ2_getChar_3b067_48 : decode cJ2_getChar_3b067 48 = .ok (.baload, 1) := by decide +kernel
theorem dJ2_getChar_3b067_49 : decode cJ2_getChar_3b067 49 = .ok (.sipush 255, 3) := by decide +kernel
theorem dJ2_getChar_3b067_52 : decode cJ2_getChar_3b067 52 = .ok (.iand, 1) := by decide +kernel
theorem dJ2_getChar_3b067_53 : decode cJ2_getChar_3b067 53 = .ok (.getstatic 63, 3) := by decide +kernel
theorem dJ2_getChar_3b067_56 : decode cJ2_getChar_3b067 56 = .ok (.ishl, 1) := by decide +kernel
theorem dJ2_getChar_3b067_57 : decode cJ2_getChar_3b067 57 = .ok (.ior, 1) := by decide +kernel
theorem dJ2_getChar_3b067_58 : decode cJ2_getChar_3b067 58 = .ok (.i2c, 1) := by decide +kernel
theorem dJ2_getChar_3b067_59 : decode cJ2_getChar_3b067 59 = .ok (.ireturn, 1) := by decide +kernel
theorem dJ2_length_9d52b_0 : decode cJ2_length_9d52b 0 = .ok (.aload_n 0, 1) := by decide +kernel
theorem dJ2_length_9d52b_1 : decode cJ2_length_9d52b 1 = .ok (.arraylength, 1) := by decide +kernel
theorem dJ2_length_9d52b_2 : decode cJ2_length_9d52b 2 = .ok (.iconst 1, 1) := by decide +kernel
theorem dJ2_length_9d52b_3 : decode cJ2_length_9d52b 3 = .ok (.ishr, 1) := by decide +kernel
theorem dJ2_length_9d52b_4 : decode cJ2_length_9d52b 4 = .ok (.ireturn, 1) := by decide +kernel
theorem dJ2_charAt_3b067_0 : decode cJ2_charAt_3b067 0 = .ok (.iload_n 1, 1) := by decide +kernel
theorem dJ2_charAt_3b067_1 : decode cJ2_charAt_3b067 1 = .ok (.aload_n 0, 1) := by decide +kernel
theorem dJ2_charAt_3b067_2 : decode cJ2_charAt_3b067 2 = .ok (.invokestatic 67, 3) := by decide +kernel
theorem dJ2_charAt_3b067_5 : decode cJ2_charAt_3b067 5 = .ok (.aload_n 0, 1) := by decide +kernel
theorem dJ2_charAt_3b067_6 : decode cJ2_charAt_3b067 6 = .ok (.iload_n 1, 1) := by decide +kernel
theorem dJ2_charAt_3b067_7 : decode cJ2_charAt_3b067 7 = .ok (.invokestatic 71, 3) := by decide +kernel
theorem dJ2_charAt_3b067_10 : decode cJ2_charAt_3b067 10 = .ok (.ireturn, 1) := by decide +kernel
theorem dJ2_checkIndex_2214a_0 : decode cJ2_checkIndex_2214a 0 = .ok (.iload_n 0, 1) := by decide +kernel
theorem dJ2_checkIndex_2214a_1 : decode cJ2_checkIndex_2214a 1 = .ok (.aload_n 1, 1) := by decide +kernel
theorem dJ2_checkIndex_2214a_2 : decode cJ2_checkIndex_2214a 2 = .ok (.invokestatic 48, 3) := by decide +kernel
theorem dJ2_checkIndex_2214a_5 : decode cJ2_checkIndex_2214a 5 = .ok (.invokestatic 414, 3) := by decide +kernel
theorem dJ2_checkIndex_2214a_8 : decode cJ2_checkIndex_2214a 8 = .ok (.return_, 1) := by decide +kernel
theorem dJ7_rangeCheck_23922_0 : decode cJ7_rangeCheck_23922 0 = .ok (.iload_n 1, 1) := by decide +kernel
theorem dJ7_rangeCheck_23922_1 : decode cJ7_rangeCheck_23922 1 = .ok (.iload_n 2, 1) := by decide +kernel
theorem dJ7_rangeCheck_23922_2 : decode cJ7_rangeCheck_23922 2 = .ok (.if_icmp .le 44, 3) := by decide +kernel
theorem dJ7_rangeCheck_23922_5 : decode cJ7_rangeCheck_23922 5 = .ok (.new 43, 3) := by decide +kernel
theorem dJ7_rangeCheck_23922_8 : decode cJ7_rangeCheck_23922 8 = .ok (.dup, 1) := by decide +kernel
theorem dJ7_rangeCheck_23922_9 : decode cJ7_rangeCheck_23922 9 = .ok (.new 45, 3) := by decide +kernel
theorem dJ7_rangeCheck_23922_12 : decode cJ7_rangeCheck_23922 12 = .ok (.dup, 1) := by decide +kernel
theorem dJ7_rangeCheck_23922_13 : decode cJ7_rangeCheck_23922 13 = .ok (.invokespecial 47, 3) := by decide +kernel
theorem dJ7_rangeCheck_23922_16 : decode cJ7_rangeCheck_23922 16 = .ok (.ldc 48, 2) := by decide +kernel
theorem dJ7_rangeCheck_23922_18 : decode cJ7_rangeCheck_23922 18 = .ok (.invokevirtual 50, 3) := by decide +kernel
theorem dJ7_rangeCheck_23922_21 : decode cJ7_rangeCheck_23922 21 = .ok (.iload_n 1, 1) := by decide +kernel
theorem dJ7_rangeCheck_23922_22 : decode cJ7_rangeCheck_23922 22 = .ok (.invokevirtual 54, 3) := by decide +kernel
theorem dJ7_rangeCheck_23922_25 : decode cJ7_rangeCheck_23922 25 = .ok (.ldc 57, 2) := by decide +kernel
theorem dJ7_rangeCheck_23922_27 : decode cJ7_rangeCheck_23922 27 = .ok (.invokevirtual 50, 3) := by decide +kernel
theorem dJ7_rangeCheck_23922_30 : decode cJ7_rangeCheck_23922 30 = .ok (.iload_n 2, 1) := by decide +kernel
theorem dJ7_rangeCheck_23922_31 : decode cJ7_rangeCheck_23922 31 = .ok (.invokevirtual 54, 3) := by decide +kernel
theorem dJ7_rangeCheck_23922_34 : decode cJ7_rangeCheck_23922 34 = .ok (.ldc 59, 2) := by decide +kernel
theorem dJ7_rangeCheck_23922_36 : decode cJ7_rangeCheck_23922 36 = .ok (.invokevirtual 50, 3) := by decide +kernel
theorem dJ7_rangeCheck_23922_39 : decode cJ7_rangeCheck_23922 39 = .ok (.invokevirtual 61, 3) := by decide +kernel
theorem dJ7_rangeCheck_23922_42 : decode cJ7_rangeCheck_23922 42 = .ok (.invokespecial 65, 3) := by decide +kernel
theorem dJ7_rangeCheck_23922_45 : decode cJ7_rangeCheck_23922 45 = .ok (.athrow, 1) := by decide +kernel
theorem dJ7_rangeCheck_23922_46 : decode cJ7_rangeCheck_23922 46 = .ok (.iload_n 1, 1) := by decide +kernel
theorem dJ7_rangeCheck_23922_47 : decode cJ7_rangeCheck_23922 47 = .ok (.ifCond .ge 12, 3) := by decide +kernel
theorem dJ7_rangeCheck_23922_50 : decode cJ7_rangeCheck_23922 50 = .ok (.new 68, 3) := by decide +kernel
theorem dJ7_rangeCheck_23922_53 : decode cJ7_rangeCheck_23922 53 = .ok (.dup, 1) := by decide +kernel
theorem dJ7_rangeCheck_23922_54 : decode cJ7_rangeCheck_23922 54 = .ok (.iload_n 1, 1) := by decide +kernel
theorem dJ7_rangeCheck_23922_55 : decode cJ7_rangeCheck_23922 55 = .ok (.invokespecial 70, 3) := by decide +kernel
theorem dJ7_rangeCheck_23922_58 : decode cJ7_rangeCheck_23922 58 = .ok (.athrow, 1) := by decide +kernel
theorem dJ7_rangeCheck_23922_59 : decode cJ7_rangeCheck_23922 59 = .ok (.iload_n 2, 1) := by decide +kernel
theorem dJ7_rangeCheck_23922_60 : decode cJ7_rangeCheck_23922 60 = .ok (.iload_n 0, 1) := by decide +kernel
theorem dJ7_rangeCheck_23922_61 : decode cJ7_rangeCheck_23922 61 = .ok (.if_icmp .le 12, 3) := by decide +kernel
theorem dJ7_rangeCheck_23922_64 : decode cJ7_rangeCheck_23922 64 = .ok (.new 68, 3) := by decide +kernel
theorem dJ7_rangeCheck_23922_67 : decode cJ7_rangeCheck_23922 67 = .ok (.dup, 1) := by decide +kernel
theorem dJ7_rangeCheck_23922_68 : decode cJ7_rangeCheck_23922 68 = .ok (.iload_n 2, 1) := by decide +kernel
theorem dJ7_rangeCheck_23922_69 : decode cJ7_rangeCheck_23922 69 = .ok (.invokespecial 70, 3) := by decide +kernel
theorem dJ7_rangeCheck_23922_72 : decode cJ7_rangeCheck_23922 72 = .ok (.athrow, 1) := by decide +kernel
theorem dJ7_rangeCheck_23922_73 : decode cJ7_rangeCheck_23922 73 = .ok (.return_, 1) := by decide +kernel
theorem dJ7_fill_53178_0 : decode cJ7_fill_53178 0 = .ok (.iconst 0, 1) := by decide +kernel
theorem dJ7_fill_53178_1 : decode cJ7_fill_53178 1 = .ok (.istore_n 2, 1) := by decide +kernel
theorem dJ7_fill_53178_2 : decode cJ7_fill_53178 2 = .ok (.aload_n 0, 1) := by decide +kernel
theorem dJ7_fill_53178_3 : decode cJ7_fill_53178 3 = .ok (.arraylength, 1) := by decide +kernel
theorem dJ7_fill_53178_4 : decode cJ7_fill_53178 4 = .ok (.istore_n 3, 1) := by decide +kernel
theorem dJ7_fill_53178_5 : decode cJ7_fill_53178 5 = .ok (.iload_n 2, 1) := by decide +kernel
theorem dJ7_fill_53178_6 : decode cJ7_fill_53178 6 = .ok (.iload_n 3, 1) := by decide +kernel
theorem dJ7_fill_53178_7 : decode cJ7_fill_53178 7 = .ok (.if_icmp .ge 13, 3) := by decide +kernel
theorem dJ7_fill_53178_10 : decode cJ7_fill_53178 10 = .ok (.aload_n 0, 1) := by decide +kernel
theorem dJ7_fill_53178_11 : decode cJ7_fill_53178 11 = .ok (.iload_n 2, 1) := by decide +kernel
theorem dJ7_fill_53178_12 : decode cJ7_fill_53178 12 = .ok (.iload_n 1, 1) := by decide +kernel
theorem dJ7_fill_53178_13 : decode cJ7_fill_53178 13 = .ok (.iastore, 1) := by decide +kernel
theorem dJ7_fill_53178_14 : decode cJ7_fill_53178 14 = .ok (.iinc 2 1, 3) := by decide +kernel
theorem dJ7_fill_53178_17 : decode cJ7_fill_53178 17 = .ok (.goto (-12), 3) := by decide +kernel
theorem dJ7_fill_53178_20 : decode cJ7_fill_53178 20 = .ok (.return_, 1) := by decide +kernel
theorem dJ7_fill_fda19_0 : decode cJ7_fill_fda19 0 = .ok (.aload_n 0, 1) := by decide +kernel
theorem dJ7_fill_fda19_1 : decode cJ7_fill_fda19 1 = .ok (.arraylength, 1) := by decide +kernel
theorem dJ7_fill_fda19_2 : decode cJ7_fill_fda19 2 = .ok (.iload_n 1, 1) := by decide +kernel
theorem dJ7_fill_fda19_3 : decode cJ7_fill_fda19 3 = .ok (.iload_n 2, 1) := by decide +kernel
theorem dJ7_fill_fda19_4 : decode cJ7_fill_fda19 4 = .ok (.invokestatic 13, 3) := by decide +kernel
theorem dJ7_fill_fda19_7 : decode cJ7_fill_fda19 7 = .ok (.iload_n 1, 1) := by decide +kernel
theorem dJ7_fill_fda19_8 : decode cJ7_fill_fda19 8 = .ok (.istore 4, 2) := by decide +kernel
theorem dJ7_fill_fda19_10 : decode cJ7_fill_fda19 10 = .ok (.iload 4, 2) := by decide +kernel
theorem dJ7_fill_fda19_12 : decode cJ7_fill_fda19 12 = .ok (.iload_n 2, 1) := by decide +kernel
theorem dJ7_fill_fda19_13 : decode cJ7_fill_fda19 13 = .ok (.if_icmp .ge 14, 3) := by decide +kernel
theorem dJ7_fill_fda19_16 : decode cJ7_fill_fda19 16 = .ok (.aload_n 0, 1) := by decide +kernel
theorem dJ7_fill_fda19_17 : decode cJ7_fill_fda19 17 = .ok (.iload 4, 2) := by decide +kernel
theorem dJ7_fill_fda19_19 : decode cJ7_fill_fda19 19 = .ok (.iload_n 3, 1) := by decide +kernel
theorem dJ7_fill_fda19_20 : decode cJ7_fill_fda19 20 = .ok (.iastore, 1) := by decide +kernel
theorem dJ7_fill_fda19_21 : decode cJ7_fill_fda19 21 = .ok (.iinc 4 1, 3) := by decide +kernel
theorem dJ7_fill_fda19_24 : decode cJ7_fill_fda19 24 = .ok (.goto (-14), 3) := by decide +kernel
theorem dJ7_fill_fda19_27 : decode cJ7_fill_fda19 27 = .ok (.return_, 1) := by decide +kernel
theorem dJ7_fill_031fb_0 : decode cJ7_fill_031fb 0 = .ok (.iconst 0, 1) := by decide +kernel
theorem dJ7_fill_031fb_1 : decode cJ7_fill_031fb 1 = .ok (.istore_n 2, 1) := by decide +kernel
theorem dJ7_fill_031fb_2 : decode cJ7_fill_031fb 2 = .ok (.aload_n 0, 1) := by decide +kernel
theorem dJ7_fill_031fb_3 : decode cJ7_fill_031fb 3 = .ok (.arraylength, 1) := by decide +kernel
theorem dJ7_fill_031fb_4 : decode cJ7_fill_031fb 4 = .ok (.istore_n 3, 1) := by decide +kernel
theorem dJ7_fill_031fb_5 : decode cJ7_fill_031fb 5 = .ok (.iload_n 2, 1) := by decide +kernel
theorem dJ7_fill_031fb_6 : decode cJ7_fill_031fb 6 = .ok (.iload_n 3, 1) := by decide +kernel
theorem dJ7_fill_031fb_7 : decode cJ7_fill_031fb 7 = .ok (.if_icmp .ge 13, 3) := by decide +kernel
theorem dJ7_fill_031fb_10 : decode cJ7_fill_031fb 10 = .ok (.aload_n 0, 1) := by decide +kernel
theorem dJ7_fill_031fb_11 : decode cJ7_fill_031fb 11 = .ok (.iload_n 2, 1) := by decide +kernel
theorem dJ7_fill_031fb_12 : decode cJ7_fill_031fb 12 = .ok (.iload_n 1, 1) := by decide +kernel
theorem dJ7_fill_031fb_13 : decode cJ7_fill_031fb 13 = .ok (.bastore, 1) := by decide +kernel
theorem dJ7_fill_031fb_14 : decode cJ7_fill_031fb 14 = .ok (.iinc 2 1, 3) := by decide +kernel
theorem dJ7_fill_031fb_17 : decode cJ7_fill_031fb 17 = .ok (.goto (-12), 3) := by decide +kernel
theorem dJ7_fill_031fb_20 : decode cJ7_fill_031fb 20 = .ok (.return_, 1) := by decide +kernel
theorem dJ3_checkIndex_8e157_0 : decode cJ3_checkIndex_8e157 0 = .ok (.iload_n 0, 1) := by decide +kernel
theorem dJ3_checkIndex_8e157_1 : decode cJ3_checkIndex_8e157 1 = .ok (.ifCond .lt 8, 3) := by decide +kernel
theorem dJ3_checkIndex_8e157_4 : decode cJ3_checkIndex_8e157 4 = .ok (.iload_n 0, 1) := by decide +kernel
theorem dJ3_checkIndex_8e157_5 : decode cJ3_checkIndex_8e157 5 = .ok (.iload_n 1, 1) := by decide +kernel
theorem dJ3_checkIndex_8e157_6 : decode cJ3_checkIndex_8e157 6 = .ok (.if_icmp .lt 10, 3) := by decide +kernel
theorem dJ3_checkIndex_8e157_9 : decode cJ3_checkIndex_8e157 9 = .ok (.aload_n 2, 1) := by decide +kernel
theorem dJ3_checkIndex_8e157_10 : decode cJ3_checkIndex_8e157 10 = .ok (.iload_n 0, 1) := by decide +kernel
theorem dJ3_checkIndex_8e157_11 : decode cJ3_checkIndex_8e157 11 = .ok (.iload_n 1, 1) := by decide +kernel
theorem dJ3_checkIndex_8e157_12 : decode cJ3_checkIndex_8e157 12 = .ok (.invokestatic 95, 3) := by decide +kernel
theorem dJ3_checkIndex_8e157_15 : decode cJ3_checkIndex_8e157 15 = .ok (.athrow, 1) := by decide +kernel
theorem dJ3_checkIndex_8e157_16 : decode cJ3_checkIndex_8e157 16 = .ok (.iload_n 0, 1) := by decide +kernel
theorem dJ3_checkIndex_8e157_17 : decode cJ3_checkIndex_8e157 17 = .ok (.ireturn, 1) := by decide +kernel
theorem dL_law_0 : decode cL_law 0 = .ok (.new 7, 3) := by decide +kernel
theorem dL_law_3 : decode cL_law 3 = .ok (.dup, 1) := by decide +kernel
theorem dL_law_4 : decode cL_law 4 = .ok (.invokespecial 9, 3) := by decide +kernel
theorem dL_law_7 : decode cL_law 7 = .ok (.astore_n 1, 1) := by decide +kernel
theorem dL_law_8 : decode cL_law 8 = .ok (.new 10, 3) := by decide +kernel
theorem dL_law_11 : decode cL_law 11 = .ok (.dup, 1) := by decide +kernel
theorem dL_law_12 : decode cL_law 12 = .ok (.invokespecial 12, 3) := by decide +kernel
theorem dL_law_15 : decode cL_law 15 = .ok (.astore_n 2, 1) := by decide +kernel
theorem dL_law_16 : decode cL_law 16 = .ok (.iconst 0, 1) := by decide +kernel
theorem dL_law_17 : decode cL_law 17 = .ok (.istore_n 3, 1) := by decide +kernel
theorem dL_law_18 : decode cL_law 18 = .ok (.iload_n 3, 1) := by decide +kernel
theorem dL_law_19 : decode cL_law 19 = .ok (.aload_n 0, 1) := by decide +kernel
theorem dL_law_20 : decode cL_law 20 = .ok (.arraylength, 1) := by decide +kernel
theorem dL_law_21 : decode cL_law 21 = .ok (.bipush 6, 2) := by decide +kernel
theorem dL_law_23 : decode cL_law 23 = .ok (.isub, 1) := by decide +kernel
theorem dL_law_24 : decode cL_law 24 = .ok (.if_icmp .gt 1780, 3) := by decide +kernel
theorem dL_law_27 : decode cL_law 27 = .ok (.aload_n 0, 1) := by decide +kernel
theorem dL_law_28 : decode cL_law 28 = .ok (.iload_n 3, 1) := by decide +kernel
theorem dL_law_29 : decode cL_law 29 = .ok (.iaload, 1) := by decide +kernel
theorem dL_law_30 : decode cL_law 30 = .ok (.bipush 63, 2) := by decide +kernel
theorem dL_law_32 : decode cL_law 32 = .ok (.iand, 1) := by decide +kernel
theorem dL_law_33 : decode cL_law 33 = .ok (.tableswitch 1765 0 45 #[199, 262, 285, 298, 311, 344, 378, 412, 485, 534, 567, 630, 643, 696, 739, 792, 835, 888, 901, 924, 957, 990, 1023, 1056, 1069, 1092, 1125, 1148, 1171, 1195, 1208, 1251, 1284, 1307, 1330, 1393, 1426, 1459, 1502, 1545, 1558, 1592, 1672, 1696, 1719, 1742], 199) := by decide +kernel
theorem dL_law_232 : decode cL_law 232 = .ok (.aload_n 1, 1) := by decide +kernel
theorem dL_law_233 : decode cL_law 233 = .ok (.aload_n 0, 1) := by decide +kernel
theorem dL_law_234 : decode cL_law 234 = .ok (.iload_n 3, 1) := by decide +kernel
theorem dL_law_235 : decode cL_law 235 = .ok (.iconst 1, 1) := by decide +kernel
theorem dL_law_236 : decode cL_law 236 = .ok (.iadd, 1) := by decide +kernel
theorem dL_law_237 : decode cL_law 237 = .ok (.iaload, 1) := by decide +kernel
theorem dL_law_238 : decode cL_law 238 = .ok (.aload_n 0, 1) := by decide +kernel
theorem dL_law_239 : decode cL_law 239 = .ok (.iload_n 3, 1) := by decide +kernel
theorem dL_law_240 : decode cL_law 240 = .ok (.iconst 2, 1) := by decide +kernel
theorem dL_law_241 : decode cL_law 241 = .ok (.iadd, 1) := by decide +kernel
theorem dL_law_242 : decode cL_law 242 = .ok (.iaload, 1) := by decide +kernel
theorem dL_law_243 : decode cL_law 243 = .ok (.aload_n 0, 1) := by decide +kernel
theorem dL_law_244 : decode cL_law 244 = .ok (.iload_n 3, 1) := by decide +kernel
theorem dL_law_245 : decode cL_law 245 = .ok (.iconst 3, 1) := by decide +kernel
theorem dL_law_246 : decode cL_law 246 = .ok (.iadd, 1) := by decide +kernel
theorem dL_law_247 : decode cL_law 247 = .ok (.iaload, 1) := by decide +kernel
theorem dL_law_248 : decode cL_law 248 = .ok (.aload_n 0, 1) := by decide +kernel
theorem dL_law_249 : decode cL_law 249 = .ok (.iload_n 3, 1) := by decide +kernel
theorem dL_law_250 : decode cL_law 250 = .ok (.iconst 4, 1) := by decide +kernel
theorem dL_law_251 : decode cL_law 251 = .ok (.iadd, 1) := by decide +kernel
theorem dL_law_252 : decode cL_law 252 = .ok (.iaload, 1) := by decide +kernel
theorem dL_law_253 : decode cL_law 253 = .ok (.aload_n 0, 1) := by decide +kernel
theorem dL_law_254 : decode cL_law 254 = .ok (.iload_n 3, 1) := by decide +kernel
theorem dL_law_255 : decode cL_law 255 = .ok (.iconst 5, 1) := by decide +kernel
theorem dL_law_256 : decode cL_law 256 = .ok (.iadd, 1) := by decide +kernel
theorem dL_law_257 : decode cL_law 257 = .ok (.iaload, 1) := by decide +kernel
theorem dL_law_258 : decode cL_law 258 = .ok (.invokevirtual 13, 3) := by decide +kernel
theorem dL_law_261 : decode cL_law 261 = .ok (.aload_n 2, 1) := by decide +kernel
theorem dL_law_262 : decode cL_law 262 = .ok (.aload_n 0, 1) := by decide +kernel
theorem dL_law_263 : decode cL_law 263 = .ok (.iload_n 3, 1) := by decide +kernel
theorem dL_law_264 : decode cL_law 264 = .ok (.iconst 1, 1) := by decide +kernel
theorem dL_law_265 : decode cL_law 265 = .ok (.iadd, 1) := by decide +kernel
theorem dL_law_266 : decode cL_law 266 = .ok (.iaload, 1) := by decide +kernel
theorem dL_law_267 : decode cL_law 267 = .ok (.aload_n 0, 1) := by decide +kernel
theorem dL_law_268 : decode cL_law 268 = .ok (.iload_n 3, 1) := by decide +kernel
theorem dL_law_269 : decode cL_law 269 = .ok (.iconst 2, 1) := by decide +kernel
theorem dL_law_270 : decode cL_law 270 = .ok (.iadd, 1) := by decide +kernel
theorem dL_law_271 : decode cL_law 271 = .ok (.iaload, 1) := by decide +kernel
theorem dL_law_272 : decode cL_law 272 = .ok (.aload_n 0, 1) := by decide +kernel
theorem dL_law_273 : decode cL_law 273 = .ok (.iload_n 3, 1) := by decide +kernel
theorem dL_law_274 : decode cL_law 274 = .ok (.iconst 3, 1) := by decide +kernel
theorem dL_law_275 : decode cL_law 275 = .ok (.iadd, 1) := by decide +kernel
theorem dL_law_276 : decode cL_law 276 = .ok (.iaload, 1) := by decide +kernel
theorem dL_law_277 : decode cL_law 277 = .ok (.aload_n 0, 1) := by decide +kernel
theorem dL_law_278 : decode cL_law 278 = .ok (.iload_n 3, 1) := by decide +kernel
theorem dL_law_279 : decode cL_law 279 = .ok (.iconst 4, 1) := by decide +kernel
theorem dL_law_280 : decode cL_law 280 = .ok (.iadd, 1) := by decide +kernel
theorem dL_law_281 : decode cL_law 281 = .ok (.iaload, 1) := by decide +kernel
theorem dL_law_282 : decode cL_law 282 = .ok (.aload_n 0, 1) := by decide +kernel
theorem dL_law_283 : decode cL_law 283 = .ok (.iload_n 3, 1) := by decide +kernel
theorem dL_law_284 : decode cL_law 284 = .ok (.iconst 5, 1) := by decide +kernel
theorem dL_law_285 : decode cL_law 285 = .ok (.iadd, 1) := by decide +kernel
theorem dL_law_286 : decode cL_law 286 = .ok (.iaload, 1) := by decide +kernel
theorem dL_law_287 : decode cL_law 287 = .ok (.invokevirtual 17, 3) := by decide +kernel
theorem dL_law_290 : decode cL_law 290 = .ok (.if_icmp .eq 1508, 3) := by decide +kernel
theorem dL_law_293 : decode cL_law 293 = .ok (.iconst 0, 1) := by decide +kernel
theorem dL_law_294 : decode cL_law 294 = .ok (.ireturn, 1) := by decide +kernel
theorem dL_law_295 : decode cL_law 295 = .ok (.aload_n 1, 1) := by decide +kernel
theorem dL_law_296 : decode cL_law 296 = .ok (.aload_n 0, 1) := by decide +kernel
theorem dL_law_297 : decode cL_law 297 = .ok (.iload_n 3, 1) := by decide +kernel
theorem dL_law_298 : decode cL_law 298 = .ok (.iconst 1, 1) := by decide +kernel
theorem dL_law_299 : decode cL_law 299 = .ok (.iadd, 1) := by decide +kernel
theorem dL_law_300 : decode cL_law 300 = .ok (.iaload, 1) := by decide +kernel
theorem dL_law_301 : decode cL_law 301 = .ok (.invokevirtual 18, 3) := by decide +kernel
theorem dL_law_304 : decode cL_law 304 = .ok (.aload_n 2, 1) := by decide +kernel
theorem dL_law_305 : decode cL_law 305 = .ok (.aload_n 0, 1) := by decide +kernel
theorem dL_law_306 : decode cL_law 306 = .ok (.iload_n 3, 1) := by decide +kernel
theorem dL_law_307 : decode cL_law 307 = .ok (.iconst 1, 1) := by decide +kernel
theorem dL_law_308 : decode cL_law 308 = .ok (.iadd, 1) := by decide +kernel
theorem dL_law_309 : decode cL_law 309 = .ok (.iaload, 1) := by decide +kernel
theorem dL_law_310 : decode cL_law 310 = .ok (.invokevirtual 22, 3) := by decide +kernel
theorem dL_law_313 : decode cL_law 313 = .ok (.if_icmp .eq 1485, 3) := by decide +kernel
theorem dL_law_316 : decode cL_law 316 = .ok (.iconst 0, 1) := by decide +kernel
theorem dL_law_317 : decode cL_law 317 = .ok (.ireturn, 1) := by decide +kernel
theorem dL_law_318 : decode cL_law 318 = .ok (.aload_n 1, 1) := by decide +kernel
theorem dL_law_319 : decode cL_law 319 = .ok (.invokevirtual 23, 3) := by decide +kernel
theorem dL_law_322 : decode cL_law 322 = .ok (.aload_n 2, 1) := by decide +kernel
theorem dL_law_323 : decode cL_law 323 = .ok (.invokevirtual 27, 3) := by decide +kernel
theorem dL_law_326 : decode cL_law 326 = .ok (.if_icmp .eq 1472, 3) := by decide +kernel
theorem dL_law_329 : decode cL_law 329 = .ok (.iconst 0, 1) := by decide +kernel
theorem dL_law_330 : decode cL_law 330 = .ok (.ireturn, 1) := by decide +kernel
theorem dL_law_331 : decode cL_law 331 = .ok (.aload_n 1, 1) := by decide +kernel
theorem dL_law_332 : decode cL_law 332 = .ok (.invokevirtual 28, 3) := by decide +kernel
theorem dL_law_335 : decode cL_law 335 = .ok (.aload_n 2, 1) := by decide +kernel
theorem dL_law_336 : decode cL_law 336 = .ok (.invokevirtual 31, 3) := by decide +kernel
theorem dL_law_339 : decode cL_law 339 = .ok (.if_icmp .eq 1459, 3) := by decide +kernel
theorem dL_law_342 : decode cL_law 342 = .ok (.iconst 0, 1) := by decide +kernel
theorem dL_law_343 : decode cL_law 343 = .ok (.ireturn, 1) := by decide +kernel
theorem dL_law_344 : decode cL_law 344 = .ok (.aload_n 1, 1) := by decide +kernel
theorem dL_law_345 : decode cL_law 345 = .ok (.aload_n 0, 1) := by decide +kernel
theorem dL_law_346 : decode cL_law 346 = .ok (.iload_n 3, 1) := by decide +kernel
theorem dL_law_347 : decode cL_law 347 = .ok (.iconst 1, 1) := by decide +kernel
theorem dL_law_348 : decode cL_law 348 = .ok (.iadd, 1) := by decide +kernel
theorem dL_law_349 : decode cL_law 349 = .ok (.iaload, 1) := by decide +kernel
theorem dL_law_350 : decode cL_law 350 = .ok (.aload_n 0, 1) := by decide +kernel
theorem dL_law_351 : decode cL_law 351 = .ok (.iload_n 3, 1) := by decide +kernel
theorem dL_law_352 : decode cL_law 352 = .ok (.iconst 2, 1) := by decide +kernel
theorem dL_law_353 : decode cL_law 353 = .ok (.iadd, 1) := by decide +kernel
theorem dL_law_354 : decode cL_law 354 = .ok (.iaload, 1) := by decide +kernel
theorem dL_law_355 : decode cL_law 355 = .ok (.invokevirtual 32, 3) := by decide +kernel
theorem dL_law_358 : decode cL_law 358 = .ok (.aload_n 2, 1) := by decide +kernel
theorem dL_law_359 : decode cL_law 359 = .ok (.aload_n 0, 1) := by decide +kernel
theorem dL_law_360 : decode cL_law 360 = .ok (.iload_n 3, 1) := by decide +kernel
theorem dL_law_361 : decode cL_law 361 = .ok (.iconst 1, 1) := by decide +kernel
theorem dL_law_362 : decode cL_law 362 = .ok (.iadd, 1) := by decide +kernel
theorem dL_law_363 : decode cL_law 363 = .ok (.iaload, 1) := by decide +kernel
theorem dL_law_364 : decode cL_law 364 = .ok (.aload_n 0, 1) := by decide +kernel
theorem dL_law_365 : decode cL_law 365 = .ok (.iload_n 3, 1) := by decide +kernel
theorem dL_law_366 : decode cL_law 366 = .ok (.iconst 2, 1) := by decide +kernel
theorem dL_law_367 : decode cL_law 367 = .ok (.iadd, 1) := by decide +kernel
theorem dL_law_368 : decode cL_law 368 = .ok (.iaload, 1) := by decide +kernel
theorem dL_law_369 : decode cL_law 369 = .ok (.invokevirtual 36, 3) := by decide +kernel
theorem dL_law_372 : decode cL_law 372 = .ok (.if_icmp .eq 1426, 3) := by decide +kernel
theorem dL_law_375 : decode cL_law 375 = .ok (.iconst 0, 1) := by decide +kernel
theorem dL_law_376 : decode cL_law 376 = .ok (.ireturn, 1) := by decide +kernel
theorem dL_law_377 : decode cL_law 377 = .ok (.aload_n 1, 1) := by decide +kernel
theorem dL_law_378 : decode cL_law 378 = .ok (.aload_n 0, 1) := by decide +kernel
theorem dL_law_379 : decode cL_law 379 = .ok (.iload_n 3, 1) := by decide +kernel
theorem dL_law_380 : decode cL_law 380 = .ok (.iconst 1, 1) := by decide +kernel
theorem dL_law_381 : decode cL_law 381 = .ok (.iadd, 1) := by decide +kernel
theorem dL_law_382 : decode cL_law 382 = .ok (.iaload, 1) := by decide +kernel
theorem dL_law_383 : decode cL_law 383 = .ok (.aload_n 0, 1) := by decide +kernel
theorem dL_law_384 : decode cL_law 384 = .ok (.iload_n 3, 1) := by decide +kernel
theorem dL_law_385 : decode cL_law 385 = .ok (.iconst 2, 1) := by decide +kernel
theorem dL_law_386 : decode cL_law 386 = .ok (.iadd, 1) := by decide +kernel
theorem dL_law_387 : decode cL_law 387 = .ok (.iaload, 1) := by decide +kernel
theorem dL_law_388 : decode cL_law 388 = .ok (.invokevirtual 37, 3) := by decide +kernel
theorem dL_law_391 : decode cL_law 391 = .ok (.aload_n 2, 1) := by decide +kernel
theorem dL_law_392 : decode cL_law 392 = .ok (.aload_n 0, 1) := by decide +kernel
theorem dL_law_393 : decode cL_law 393 = .ok (.iload_n 3, 1) := by decide +kernel
theorem dL_law_394 : decode cL_law 394 = .ok (.iconst 1, 1) := by decide +kernel
theorem dL_law_395 : decode cL_law 395 = .ok (.iadd, 1) := by decide +kernel
theorem dL_law_396 : decode cL_law 396 = .ok (.iaload, 1) := by decide +kernel
theorem dL_law_397 : decode cL_law 397 = .ok (.aload_n 0, 1) := by decide +kernel
theorem dL_law_398 : decode cL_law 398 = .ok (.iload_n 3, 1) := by decide +kernel
theorem dL_law_399 : decode cL_law 399 = .ok (.iconst 2, 1) := by decide +kernel
theorem dL_law_400 : decode cL_law 400 = .ok (.iadd, 1) := by decide +kernel
theorem dL_law_401 : decode cL_law 401 = .ok (.iaload, 1) := by decide +kernel
theorem dL_law_402 : decode cL_law 402 = .ok (.invokevirtual 41, 3) := by decide +kernel
theorem dL_law_405 : decode cL_law 405 = .ok (.lcmp, 1) := by decide +kernel
theorem dL_law_406 : decode cL_law 406 = .ok (.ifCond .eq 1392, 3) := by decide +kernel
theorem dL_law_409 : decode cL_law 409 = .ok (.iconst 0, 1) := by decide +kernel
theorem dL_law_410 : decode cL_law 410 = .ok (.ireturn, 1) := by decide +kernel
theorem dL_law_411 : decode cL_law 411 = .ok (.aload_n 1, 1) := by decide +kernel
theorem dL_law_412 : decode cL_law 412 = .ok (.aload_n 0, 1) := by decide +kernel
theorem dL_law_413 : decode cL_law 413 = .ok (.iload_n 3, 1) := by decide +kernel
theorem dL_law_414 : decode cL_law 414 = .ok (.iconst 1, 1) := by decide +kernel
theorem dL_law_415 : decode cL_law 415 = .ok (.iadd, 1) := by decide +kernel
theorem dL_law_416 : decode cL_law 416 = .ok (.iaload, 1) := by decide +kernel
theorem dL_law_417 : decode cL_law 417 = .ok (.aload_n 0, 1) := by decide +kernel
theorem dL_law_418 : decode cL_law 418 = .ok (.iload_n 3, 1) := by decide +kernel
theorem dL_law_419 : decode cL_law 419 = .ok (.iconst 2, 1) := by decide +kernel
theorem dL_law_420 : decode cL_law 420 = .ok (.iadd, 1) := by decide +kernel
theorem dL_law_421 : decode cL_law 421 = .ok (.iaload, 1) := by decide +kernel
theorem dL_law_422 : decode cL_law 422 = .ok (.invokevirtual 42, 3) := by decide +kernel
theorem dL_law_425 : decode cL_law 425 = .ok (.aload_n 2, 1) := by decide +kernel
theorem dL_law_426 : decode cL_law 426 = .ok (.aload_n 0, 1) := by decide +kernel
theorem dL_law_427 : decode cL_law 427 = .ok (.iload_n 3, 1) := by decide +kernel
theorem dL_law_428 : decode cL_law 428 = .ok (.iconst 1, 1) := by decide +kernel
theorem dL_law_429 : decode cL_law 429 = .ok (.iadd, 1) := by decide +kernel
theorem dL_law_430 : decode cL_law 430 = .ok (.iaload, 1) := by decide +kernel
theorem dL_law_431 : decode cL_law 431 = .ok (.aload_n 0, 1) := by decide +kernel
theorem dL_law_432 : decode cL_law 432 = .ok (.iload_n 3, 1) := by decide +kernel
theorem dL_law_433 : decode cL_law 433 = .ok (.iconst 2, 1) := by decide +kernel
theorem dL_law_434 : decode cL_law 434 = .ok (.iadd, 1) := by decide +kernel
theorem dL_law_435 : decode cL_law 435 = .ok (.iaload, 1) := by decide +kernel
theorem dL_law_436 : decode cL_law 436 = .ok (.invokevirtual 45, 3) := by decide +kernel
theorem dL_law_439 : decode cL_law 439 = .ok (.lcmp, 1) := by decide +kernel
theorem dL_law_440 : decode cL_law 440 = .ok (.ifCond .eq 1358, 3) := by decide +kernel
theorem dL_law_443 : decode cL_law 443 = .ok (.iconst 0, 1) := by decide +kernel
theorem dL_law_444 : decode cL_law 444 = .ok (.ireturn, 1) := by decide +kernel
theorem dL_law_445 : decode cL_law 445 = .ok (.aload_n 1, 1) := by decide +kernel
theorem dL_law_446 : decode cL_law 446 = .ok (.aload_n 0, 1) := by decide +kernel
theorem dL_law_447 : decode cL_law 447 = .ok (.iload_n 3, 1) := by decide +kernel
theorem dL_law_448 : decode cL_law 448 = .ok (.iconst 1, 1) := by decide +kernel
theorem dL_law_449 : decode cL_law 449 = .ok (.iadd, 1) := by decide +kernel
theorem dL_law_450 : decode cL_law 450 = .ok (.iaload, 1) := by decide +kernel
theorem dL_law_451 : decode cL_law 451 = .ok (.i2l, 1) := by decide +kernel
theorem dL_law_452 : decode cL_law 452 = .ok (.bipush 32, 2) := by decide +kernel
theorem dL_law_454 : decode cL_law 454 = .ok (.lshl, 1) := by decide +kernel
theorem dL_law_455 : decode cL_law 455 = .ok (.aload_n 0, 1) := by decide +kernel
theorem dL_law_456 : decode cL_law 456 = .ok (.iload_n 3, 1) := by decide +kernel
theorem dL_law_457 : decode cL_law 457 = .ok (.iconst 2, 1) := by decide +kernel
theorem dL_law_458 : decode cL_law 458 = .ok (.iadd, 1) := by decide +kernel
theorem dL_law_459 : decode cL_law 459 = .ok (.iaload, 1) := by decide +kernel
theorem dL_law_460 : decode cL_law 460 = .ok (.i2l, 1) := by decide +kernel
theorem dL_law_461 : decode cL_law 461 = .ok (.ldc2_w 46, 3) := by decide +kernel
theorem dL_law_464 : decode cL_law 464 = .ok (.land, 1) := by decide +kernel
theorem dL_law_465 : decode cL_law 465 = .ok (.lor, 1) := by decide +kernel
theorem dL_law_466 : decode cL_law 466 = .ok (.aload_n 0, 1) := by decide +kernel
theorem dL_law_467 : decode cL_law 467 = .ok (.iload_n 3, 1) := by decide +kernel
theorem dL_law_468 : decode cL_law 468 = .ok (.iconst 3, 1) := by decide +kernel
theorem dL_law_469 : decode cL_law 469 = .ok (.iadd, 1) := by decide +kernel
theorem dL_law_470 : decode cL_law 470 = .ok (.iaload, 1) := by decide +kernel
theorem dL_law_471 : decode cL_law 471 = .ok (.aload_n 0, 1) := by decide +kernel
theorem dL_law_472 : decode cL_law 472 = .ok (.iload_n 3, 1) := by decide +kernel
theorem dL_law_473 : decode cL_law 473 = .ok (.iconst 4, 1) := by decide +kernel
theorem dL_law_474 : decode cL_law 474 = .ok (.iadd, 1) := by decide +kernel
theorem dL_law_475 : decode cL_law 475 = .ok (.iaload, 1) := by decide +kernel
theorem dL_law_476 : decode cL_law 476 = .ok (.invokevirtual 48, 3) := by decide +kernel
theorem dL_law_479 : decode cL_law 479 = .ok (.aload_n 2, 1) := by decide +kernel
theorem dL_law_480 : decode cL_law 480 = .ok (.aload_n 0, 1) := by decide +kernel
theorem dL_law_481 : decode cL_law 481 = .ok (.iload_n 3, 1) := by decide +kernel
theorem dL_law_482 : decode cL_law 482 = .ok (.iconst 1, 1) := by decide +kernel
theorem dL_law_483 : decode cL_law 483 = .ok (.iadd, 1) := by decide +kernel
theorem dL_law_484 : decode cL_law 484 = .ok (.iaload, 1) := by decide +kernel
theorem dL_law_485 : decode cL_law 485 = .ok (.i2l, 1) := by decide +kernel
theorem dL_law_486 : decode cL_law 486 = .ok (.bipush 32, 2) := by decide +kernel
theorem dL_law_488 : decode cL_law 488 = .ok (.lshl, 1) := by decide +kernel
theorem dL_law_489 : decode cL_law 489 = .ok (.aload_n 0, 1) := by decide +kernel
theorem dL_law_490 : decode cL_law 490 = .ok (.iload_n 3, 1) := by decide +kernel
theorem dL_law_491 : decode cL_law 491 = .ok (.iconst 2, 1) := by decide +kernel
theorem dL_law_492 : decode cL_law 492 = .ok (.iadd, 1) := by decide +kernel
theorem dL_law_493 : decode cL_law 493 = .ok (.iaload, 1) := by decide +kernel
theorem dL_law_494 : decode cL_law 494 = .ok (.i2l, 1) := by decide +kernel
theorem dL_law_495 : decode cL_law 495 = .ok (.ldc2_w 46, 3) := by decide +kernel
theorem dL_law_498 : decode cL_law 498 = .ok (.land, 1) := by decide +kernel
theorem dL_law_499 : decode cL_law 499 = .ok (.lor, 1) := by decide +kernel
theorem dL_law_500 : decode cL_law 500 = .ok (.aload_n 0, 1) := by decide +kernel
theorem dL_law_501 : decode cL_law 501 = .ok (.iload_n 3, 1) := by decide +kernel
theorem dL_law_502 : decode cL_law 502 = .ok (.iconst 3, 1) := by decide +kernel
theorem dL_law_503 : decode cL_law 503 = .ok (.iadd, 1) := by decide +kernel
theorem dL_law_504 : decode cL_law 504 = .ok (.iaload, 1) := by decide +kernel
theorem dL_law_505 : decode cL_law 505 = .ok (.aload_n 0, 1) := by decide +kernel
theorem dL_law_506 : decode cL_law 506 = .ok (.iload_n 3, 1) := by decide +kernel
theorem dL_law_507 : decode cL_law 507 = .ok (.iconst 4, 1) := by decide +kernel
theorem dL_law_508 : decode cL_law 508 = .ok (.iadd, 1) := by decide +kernel
theorem dL_law_509 : decode cL_law 509 = .ok (.iaload, 1) := by decide +kernel
theorem dL_law_510 : decode cL_law 510 = .ok (.invokevirtual 52, 3) := by decide +kernel
theorem dL_law_513 : decode cL_law 513 = .ok (.if_icmp .eq 1285, 3) := by decide +kernel
theorem dL_law_516 : decode cL_law 516 = .ok (.iconst 0, 1) := by decide +kernel
theorem dL_law_517 : decode cL_law 517 = .ok (.ireturn, 1) := by decide +kernel
theorem dL_law_518 : decode cL_law 518 = .ok (.aload_n 1, 1) := by decide +kernel
theorem dL_law_519 : decode cL_law 519 = .ok (.aload_n 0, 1) := by decide +kernel
theorem dL_law_520 : decode cL_law 520 = .ok (.iload_n 3, 1) := by decide +kernel
theorem dL_law_521 : decode cL_law 521 = .ok (.iconst 1, 1) := by decide +kernel
theorem dL_law_522 : decode cL_law 522 = .ok (.iadd, 1) := by decide +kernel
theorem dL_law_523 : decode cL_law 523 = .ok (.iaload, 1) := by decide +kernel
theorem dL_law_524 : decode cL_law 524 = .ok (.aload_n 0, 1) := by decide +kernel
theorem dL_law_525 : decode cL_law 525 = .ok (.iload_n 3, 1) := by decide +kernel
theorem dL_law_526 : decode cL_law 526 = .ok (.iconst 2, 1) := by decide +kernel
theorem dL_law_527 : decode cL_law 527 = .ok (.iadd, 1) := by decide +kernel
theorem dL_law_528 : decode cL_law 528 = .ok (.iaload, 1) := by decide +kernel
theorem dL_law_529 : decode cL_law 529 = .ok (.ifCond .eq 7, 3) := by decide +kernel
theorem dL_law_532 : decode cL_law 532 = .ok (.iconst 1, 1) := by decide +kernel
theorem dL_law_533 : decode cL_law 533 = .ok (.goto 4, 3) := by decide +kernel
theorem dL_law_536 : decode cL_law 536 = .ok (.iconst 0, 1) := by decide +kernel
theorem dL_law_537 : decode cL_law 537 = .ok (.invokevirtual 53, 3) := by decide +kernel
theorem dL_law_540 : decode cL_law 540 = .ok (.aload_n 2, 1) := by decide +kernel
theorem dL_law_541 : decode cL_law 541 = .ok (.aload_n 0, 1) := by decide +kernel
theorem dL_law_542 : decode cL_law 542 = .ok (.iload_n 3, 1) := by decide +kernel
theorem dL_law_543 : decode cL_law 543 = .ok (.iconst 1, 1) := by decide +kernel
theorem dL_law_544 : decode cL_law 544 = .ok (.iadd, 1) := by decide +kernel
theorem dL_law_545 : decode cL_law 545 = .ok (.iaload, 1) := by decide +kernel
theorem dL_law_546 : decode cL_law 546 = .ok (.aload_n 0, 1) := by decide +kernel
theorem dL_law_547 : decode cL_law 547 = .ok (.iload_n 3, 1) := by decide +kernel
theorem dL_law_548 : decode cL_law 548 = .ok (.iconst 2, 1) := by decide +kernel
theorem dL_law_549 : decode cL_law 549 = .ok (.iadd, 1) := by decide +kernel
theorem dL_law_550 : decode cL_law 550 = .ok (.iaload, 1) := by decide +kernel
theorem dL_law_551 : decode cL_law 551 = .ok (.ifCond .eq 7, 3) := by decide +kernel
theorem dL_law_554 : decode cL_law 554 = .ok (.iconst 1, 1) := by decide +kernel
theorem dL_law_555 : decode cL_law 555 = .ok (.goto 4, 3) := by decide +kernel
theorem dL_law_558 : decode cL_law 558 = .ok (.iconst 0, 1) := by decide +kernel
theorem dL_law_559 : decode cL_law 559 = .ok (.invokevirtual 57, 3) := by decide +kernel
theorem dL_law_562 : decode cL_law 562 = .ok (.if_icmp .eq 1236, 3) := by decide +kernel
theorem dL_law_565 : decode cL_law 565 = .ok (.iconst 0, 1) := by decide +kernel
theorem dL_law_566 : decode cL_law 566 = .ok (.ireturn, 1) := by decide +kernel
theorem dL_law_567 : decode cL_law 567 = .ok (.aload_n 1, 1) := by decide +kernel
theorem dL_law_568 : decode cL_law 568 = .ok (.aload_n 0, 1) := by decide +kernel
theorem dL_law_569 : decode cL_law 569 = .ok (.iload_n 3, 1) := by decide +kernel
theorem dL_law_570 : decode cL_law 570 = .ok (.iconst 1, 1) := by decide +kernel
theorem dL_law_571 : decode cL_law 571 = .ok (.iadd, 1) := by decide +kernel
theorem dL_law_572 : decode cL_law 572 = .ok (.iaload, 1) := by decide +kernel
theorem dL_law_573 : decode cL_law 573 = .ok (.aload_n 0, 1) := by decide +kernel
theorem dL_law_574 : decode cL_law 574 = .ok (.iload_n 3, 1) := by decide +kernel
theorem dL_law_575 : decode cL_law 575 = .ok (.iconst 2, 1) := by decide +kernel
theorem dL_law_576 : decode cL_law 576 = .ok (.iadd, 1) := by decide +kernel
theorem dL_law_577 : decode cL_law 577 = .ok (.iaload, 1) := by decide +kernel
theorem dL_law_578 : decode cL_law 578 = .ok (.invokevirtual 58, 3) := by decide +kernel
theorem dL_law_581 : decode cL_law 581 = .ok (.aload_n 2, 1) := by decide +kernel
theorem dL_law_582 : decode cL_law 582 = .ok (.aload_n 0, 1) := by decide +kernel
theorem dL_law_583 : decode cL_law 583 = .ok (.iload_n 3, 1) := by decide +kernel
theorem dL_law_584 : decode cL_law 584 = .ok (.iconst 1, 1) := by decide +kernel
theorem dL_law_585 : decode cL_law 585 = .ok (.iadd, 1) := by decide +kernel
theorem dL_law_586 : decode cL_law 586 = .ok (.iaload, 1) := by decide +kernel
theorem dL_law_587 : decode cL_law 587 = .ok (.aload_n 0, 1) := by decide +kernel
theorem dL_law_588 : decode cL_law 588 = .ok (.iload_n 3, 1) := by decide +kernel
theorem dL_law_589 : decode cL_law 589 = .ok (.iconst 2, 1) := by decide +kernel
theorem dL_law_590 : decode cL_law 590 = .ok (.iadd, 1) := by decide +kernel
theorem dL_law_591 : decode cL_law 591 = .ok (.iaload, 1) := by decide +kernel
theorem dL_law_592 : decode cL_law 592 = .ok (.invokevirtual 61, 3) := by decide +kernel
theorem dL_law_595 : decode cL_law 595 = .ok (.if_icmp .eq 1203, 3) := by decide +kernel
theorem dL_law_598 : decode cL_law 598 = .ok (.iconst 0, 1) := by decide +kernel
theorem dL_law_599 : decode cL_law 599 = .ok (.ireturn, 1) := by decide +kernel
theorem dL_law_600 : decode cL_law 600 = .ok (.aload_n 1, 1) := by decide +kernel
theorem dL_law_601 : decode cL_law 601 = .ok (.aload_n 0, 1) := by decide +kernel
theorem dL_law_602 : decode cL_law 602 = .ok (.iload_n 3, 1) := by decide +kernel
theorem dL_law_603 : decode cL_law 603 = .ok (.iconst 1, 1) := by decide +kernel
theorem dL_law_604 : decode cL_law 604 = .ok (.iadd, 1) := by decide +kernel
theorem dL_law_605 : decode cL_law 605 = .ok (.iaload, 1) := by decide +kernel
theorem dL_law_606 : decode cL_law 606 = .ok (.aload_n 0, 1) := by decide +kernel
theorem dL_law_607 : decode cL_law 607 = .ok (.iload_n 3, 1) := by decide +kernel
theorem dL_law_608 : decode cL_law 608 = .ok (.iconst 2, 1) := by decide +kernel
theorem dL_law_609 : decode cL_law 609 = .ok (.iadd, 1) := by decide +kernel
theorem dL_law_610 : decode cL_law 610 = .ok (.iaload, 1) := by decide +kernel
theorem dL_law_611 : decode cL_law 611 = .ok (.i2l, 1) := by decide +kernel
theorem dL_law_612 : decode cL_law 612 = .ok (.bipush 32, 2) := by decide +kernel
theorem dL_law_614 : decode cL_law 614 = .ok (.lshl, 1) := by decide +kernel
theorem dL_law_615 : decode cL_law 615 = .ok (.aload_n 0, 1) := by decide +kernel
theorem dL_law_616 : decode cL_law 616 = .ok (.iload_n 3, 1) := by decide +kernel
theorem dL_law_617 : decode cL_law 617 = .ok (.iconst 3, 1) := by decide +kernel
theorem dL_law_618 : decode cL_law 618 = .ok (.iadd, 1) := by decide +kernel
theorem dL_law_619 : decode cL_law 619 = .ok (.iaload, 1) := by decide +kernel
theorem dL_law_620 : decode cL_law 620 = .ok (.i2l, 1) := by decide +kernel
theorem dL_law_621 : decode cL_law 621 = .ok (.ldc2_w 46, 3) := by decide +kernel
theorem dL_law_624 : decode cL_law 624 = .ok (.land, 1) := by decide +kernel
theorem dL_law_625 : decode cL_law 625 = .ok (.lor, 1) := by decide +kernel
theorem dL_law_626 : decode cL_law 626 = .ok (.invokevirtual 62, 3) := by decide +kernel
theorem dL_law_629 : decode cL_law 629 = .ok (.aload_n 2, 1) := by decide +kernel
theorem dL_law_630 : decode cL_law 630 = .ok (.aload_n 0, 1) := by decide +kernel
theorem dL_law_631 : decode cL_law 631 = .ok (.iload_n 3, 1) := by decide +kernel
theorem dL_law_632 : decode cL_law 632 = .ok (.iconst 1, 1) := by decide +kernel
theorem dL_law_633 : decode cL_law 633 = .ok (.iadd, 1) := by decide +kernel
theorem dL_law_634 : decode cL_law 634 = .ok (.iaload, 1) := by decide +kernel
theorem dL_law_635 : decode cL_law 635 = .ok (.aload_n 0, 1) := by decide +kernel
theorem dL_law_636 : decode cL_law 636 = .ok (.iload_n 3, 1) := by decide +kernel
theorem dL_law_637 : decode cL_law 637 = .ok (.iconst 2, 1) := by decide +kernel
theorem dL_law_638 : decode cL_law 638 = .ok (.iadd, 1) := by decide +kernel
theorem dL_law_639 : decode cL_law 639 = .ok (.iaload, 1) := by decide +kernel
theorem dL_law_640 : decode cL_law 640 = .ok (.i2l, 1) := by decide +kernel
theorem dL_law_641 : decode cL_law 641 = .ok (.bipush 32, 2) := by decide +kernel
theorem dL_law_643 : decode cL_law 643 = .ok (.lshl, 1) := by decide +kernel
theorem dL_law_644 : decode cL_law 644 = .ok (.aload_n 0, 1) := by decide +kernel
theorem dL_law_645 : decode cL_law 645 = .ok (.iload_n 3, 1) := by decide +kernel
theorem dL_law_646 : decode cL_law 646 = .ok (.iconst 3, 1) := by decide +kernel
theorem dL_law_647 : decode cL_law 647 = .ok (.iadd, 1) := by decide +kernel
theorem dL_law_648 : decode cL_law 648 = .ok (.iaload, 1) := by decide +kernel
theorem dL_law_649 : decode cL_law 649 = .ok (.i2l, 1) := by decide +kernel
theorem dL_law_650 : decode cL_law 650 = .ok (.ldc2_w 46, 3) := by decide +kernel
theorem dL_law_653 : decode cL_law 653 = .ok (.land, 1) := by decide +kernel
theorem dL_law_654 : decode cL_law 654 = .ok (.lor, 1) := by decide +kernel
theorem dL_law_655 : decode cL_law 655 = .ok (.invokevirtual 66, 3) := by decide +kernel
theorem dL_law_658 : decode cL_law 658 = .ok (.if_icmp .eq 1140, 3) := by decide +kernel
theorem dL_law_661 : decode cL_law 661 = .ok (.iconst 0, 1) := by decide +kernel
theorem dL_law_662 : decode cL_law 662 = .ok (.ireturn, 1) := by decide +kernel
theorem dL_law_663 : decode cL_law 663 = .ok (.aload_n 1, 1) := by decide +kernel
theorem dL_law_664 : decode cL_law 664 = .ok (.invokevirtual 67, 3) := by decide +kernel
theorem dL_law_667 : decode cL_law 667 = .ok (.aload_n 2, 1) := by decide +kernel
theorem dL_law_668 : decode cL_law 668 = .ok (.invokevirtual 70, 3) := by decide +kernel
theorem dL_law_671 : decode cL_law 671 = .ok (.if_icmp .eq 1127, 3) := by decide +kernel
theorem dL_law_674 : decode cL_law 674 = .ok (.iconst 0, 1) := by decide +kernel
theorem dL_law_675 : decode cL_law 675 = .ok (.ireturn, 1) := by decide +kernel
theorem dL_law_676 : decode cL_law 676 = .ok (.aload_n 1, 1) := by decide +kernel
theorem dL_law_677 : decode cL_law 677 = .ok (.aload_n 0, 1) := by decide +kernel
theorem dL_law_678 : decode cL_law 678 = .ok (.iload_n 3, 1) := by decide +kernel
theorem dL_law_679 : decode cL_law 679 = .ok (.iconst 1, 1) := by decide +kernel
theorem dL_law_680 : decode cL_law 680 = .ok (.iadd, 1) := by decide +kernel
theorem dL_law_681 : decode cL_law 681 = .ok (.iaload, 1) := by decide +kernel
theorem dL_law_682 : decode cL_law 682 = .ok (.aload_n 0, 1) := by decide +kernel
theorem dL_law_683 : decode cL_law 683 = .ok (.iload_n 3, 1) := by decide +kernel
theorem dL_law_684 : decode cL_law 684 = .ok (.iconst 2, 1) := by decide +kernel
theorem dL_law_685 : decode cL_law 685 = .ok (.iadd, 1) := by decide +kernel
theorem dL_law_686 : decode cL_law 686 = .ok (.iaload, 1) := by decide +kernel
theorem dL_law_687 : decode cL_law 687 = .ok (.aload_n 0, 1) := by decide +kernel
theorem dL_law_688 : decode cL_law 688 = .ok (.iload_n 3, 1) := by decide +kernel
theorem dL_law_689 : decode cL_law 689 = .ok (.iconst 3, 1) := by decide +kernel
theorem dL_law_690 : decode cL_law 690 = .ok (.iadd, 1) := by decide +kernel
theorem dL_law_691 : decode cL_law 691 = .ok (.iaload, 1) := by decide +kernel
theorem dL_law_692 : decode cL_law 692 = .ok (.aload_n 0, 1) := by decide +kernel
theorem dL_law_693 : decode cL_law 693 = .ok (.iload_n 3, 1) := by decide +kernel
theorem dL_law_694 : decode cL_law 694 = .ok (.iconst 4, 1) := by decide +kernel
theorem dL_law_695 : decode cL_law 695 = .ok (.iadd, 1) := by decide +kernel
theorem dL_law_696 : decode cL_law 696 = .ok (.iaload, 1) := by decide +kernel
theorem dL_law_697 : decode cL_law 697 = .ok (.invokevirtual 71, 3) := by decide +kernel
theorem dL_law_700 : decode cL_law 700 = .ok (.aload_n 2, 1) := by decide +kernel
theorem dL_law_701 : decode cL_law 701 = .ok (.aload_n 0, 1) := by decide +kernel
theorem dL_law_702 : decode cL_law 702 = .ok (.iload_n 3, 1) := by decide +kernel
theorem dL_law_703 : decode cL_law 703 = .ok (.iconst 1, 1) := by decide +kernel
theorem dL_law_704 : decode cL_law 704 = .ok (.iadd, 1) := by decide +kernel
theorem dL_law_705 : decode cL_law 705 = .ok (.iaload, 1) := by decide +kernel
theorem dL_law_706 : decode cL_law 706 = .ok (.aload_n 0, 1) := by decide +kernel
theorem dL_law_707 : decode cL_law 707 = .ok (.iload_n 3, 1) := by decide +kernel
theorem dL_law_708 : decode cL_law 708 = .ok (.iconst 2, 1) := by decide +kernel
theorem dL_law_709 : decode cL_law 709 = .ok (.iadd, 1) := by decide +kernel
theorem dL_law_710 : decode cL_law 710 = .ok (.iaload, 1) := by decide +kernel
theorem dL_law_711 : decode cL_law 711 = .ok (.aload_n 0, 1) := by decide +kernel
theorem dL_law_712 : decode cL_law 712 = .ok (.iload_n 3, 1) := by decide +kernel
theorem dL_law_713 : decode cL_law 713 = .ok (.iconst 3, 1) := by decide +kernel
theorem dL_law_714 : decode cL_law 714 = .ok (.iadd, 1) := by decide +kernel
theorem dL_law_715 : decode cL_law 715 = .ok (.iaload, 1) := by decide +kernel
theorem dL_law_716 : decode cL_law 716 = .ok (.aload_n 0, 1) := by decide +kernel
theorem dL_law_717 : decode cL_law 717 = .ok (.iload_n 3, 1) := by decide +kernel
theorem dL_law_718 : decode cL_law 718 = .ok (.iconst 4, 1) := by decide +kernel
theorem dL_law_719 : decode cL_law 719 = .ok (.iadd, 1) := by decide +kernel
theorem dL_law_720 : decode cL_law 720 = .ok (.iaload, 1) := by decide +kernel
theorem dL_law_721 : decode cL_law 721 = .ok (.invokevirtual 75, 3) := by decide +kernel
theorem dL_law_724 : decode cL_law 724 = .ok (.if_icmp .eq 1074, 3) := by decide +kernel
theorem dL_law_727 : decode cL_law 727 = .ok (.iconst 0, 1) := by decide +kernel
theorem dL_law_728 : decode cL_law 728 = .ok (.ireturn, 1) := by decide +kernel
theorem dL_law_729 : decode cL_law 729 = .ok (.aload_n 1, 1) := by decide +kernel
theorem dL_law_730 : decode cL_law 730 = .ok (.aload_n 0, 1) := by decide +kernel
theorem dL_law_731 : decode cL_law 731 = .ok (.iload_n 3, 1) := by decide +kernel
theorem dL_law_732 : decode cL_law 732 = .ok (.iconst 1, 1) := by decide +kernel
theorem dL_law_733 : decode cL_law 733 = .ok (.iadd, 1) := by decide +kernel
theorem dL_law_734 : decode cL_law 734 = .ok (.iaload, 1) := by decide +kernel
theorem dL_law_735 : decode cL_law 735 = .ok (.aload_n 0, 1) := by decide +kernel
theorem dL_law_736 : decode cL_law 736 = .ok (.iload_n 3, 1) := by decide +kernel
theorem dL_law_737 : decode cL_law 737 = .ok (.iconst 2, 1) := by decide +kernel
theorem dL_law_738 : decode cL_law 738 = .ok (.iadd, 1) := by decide +kernel
theorem dL_law_739 : decode cL_law 739 = .ok (.iaload, 1) := by decide +kernel
theorem dL_law_740 : decode cL_law 740 = .ok (.aload_n 0, 1) := by decide +kernel
theorem dL_law_741 : decode cL_law 741 = .ok (.iload_n 3, 1) := by decide +kernel
theorem dL_law_742 : decode cL_law 742 = .ok (.iconst 3, 1) := by decide +kernel
theorem dL_law_743 : decode cL_law 743 = .ok (.iadd, 1) := by decide +kernel
theorem dL_law_744 : decode cL_law 744 = .ok (.iaload, 1) := by decide +kernel
theorem dL_law_745 : decode cL_law 745 = .ok (.invokevirtual 76, 3) := by decide +kernel
theorem dL_law_748 : decode cL_law 748 = .ok (.aload_n 2, 1) := by decide +kernel
theorem dL_law_749 : decode cL_law 749 = .ok (.aload_n 0, 1) := by decide +kernel
theorem dL_law_750 : decode cL_law 750 = .ok (.iload_n 3, 1) := by decide +kernel
theorem dL_law_751 : decode cL_law 751 = .ok (.iconst 1, 1) := by decide +kernel
theorem dL_law_752 : decode cL_law 752 = .ok (.iadd, 1) := by decide +kernel
theorem dL_law_753 : decode cL_law 753 = .ok (.iaload, 1) := by decide +kernel
theorem dL_law_754 : decode cL_law 754 = .ok (.aload_n 0, 1) := by decide +kernel
theorem dL_law_755 : decode cL_law 755 = .ok (.iload_n 3, 1) := by decide +kernel
theorem dL_law_756 : decode cL_law 756 = .ok (.iconst 2, 1) := by decide +kernel
theorem dL_law_757 : decode cL_law 757 = .ok (.iadd, 1) := by decide +kernel
theorem dL_law_758 : decode cL_law 758 = .ok (.iaload, 1) := by decide +kernel
theorem dL_law_759 : decode cL_law 759 = .ok (.aload_n 0, 1) := by decide +kernel
theorem dL_law_760 : decode cL_law 760 = .ok (.iload_n 3, 1) := by decide +kernel
theorem dL_law_761 : decode cL_law 761 = .ok (.iconst 3, 1) := by decide +kernel
