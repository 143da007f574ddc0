theorem dX0_init_0 : decode cX0_init 0 = .ok (.aload_n 0, 1) := by decide +kernel
theorem dX0_init_1 : decode cX0_init 1 = .ok (.invokespecial 3, 3) := by decide +kernel
theorem dX0_init_4 : decode cX0_init 4 = .ok (.aload_n 0, 1) := by decide +kernel
theorem dX0_init_5 : decode cX0_init 5 = .ok (.iconst 0, 1) := by decide +kernel
theorem dX0_init_6 : decode cX0_init 6 = .ok (.putfield 9, 3) := by decide +kernel
theorem dX0_init_9 : decode cX0_init 9 = .ok (.aload_n 0, 1) := by decide +kernel
theorem dX0_init_10 : decode cX0_init 10 = .ok (.sipush 512, 3) := by decide +kernel
theorem dX0_init_13 : decode cX0_init 13 = .ok (.newarray .int, 2) := by decide +kernel
theorem dX0_init_15 : decode cX0_init 15 = .ok (.putfield 15, 3) := by decide +kernel
theorem dX0_init_18 : decode cX0_init 18 = .ok (.aload_n 0, 1) := by decide +kernel
theorem dX0_init_19 : decode cX0_init 19 = .ok (.sipush 8992, 3) := by decide +kernel
theorem dX0_init_22 : decode cX0_init 22 = .ok (.newarray .byte, 2) := by decide +kernel
theorem dX0_init_24 : decode cX0_init 24 = .ok (.putfield 19, 3) := by decide +kernel
theorem dX0_init_27 : decode cX0_init 27 = .ok (.return_, 1) := by decide +kernel
theorem dX0_clear_0 : decode cX0_clear 0 = .ok (.aload_n 0, 1) := by decide +kernel
theorem dX0_clear_1 : decode cX0_clear 1 = .ok (.iconst 0, 1) := by decide +kernel
theorem dX0_clear_2 : decode cX0_clear 2 = .ok (.putfield 9, 3) := by decide +kernel
theorem dX0_clear_5 : decode cX0_clear 5 = .ok (.aload_n 0, 1) := by decide +kernel
theorem dX0_clear_6 : decode cX0_clear 6 = .ok (.getfield 15, 3) := by decide +kernel
theorem dX0_clear_9 : decode cX0_clear 9 = .ok (.iconst 0, 1) := by decide +kernel
theorem dX0_clear_10 : decode cX0_clear 10 = .ok (.iconst 0, 1) := by decide +kernel
theorem dX0_clear_11 : decode cX0_clear 11 = .ok (.iastore, 1) := by decide +kernel
theorem dX0_clear_12 : decode cX0_clear 12 = .ok (.return_, 1) := by decide +kernel
theorem dX0_add_0 : decode cX0_add 0 = .ok (.aload_n 0, 1) := by decide +kernel
theorem dX0_add_1 : decode cX0_add 1 = .ok (.getfield 9, 3) := by decide +kernel
theorem dX0_add_4 : decode cX0_add 4 = .ok (.bipush 9, 2) := by decide +kernel
theorem dX0_add_6 : decode cX0_add 6 = .ok (.if_icmp .lt 4, 3) := by decide +kernel
theorem dX0_add_9 : decode cX0_add 9 = .ok (.return_, 1) := by decide +kernel
theorem dX0_add_10 : decode cX0_add 10 = .ok (.aload_n 0, 1) := by decide +kernel
theorem dX0_add_11 : decode cX0_add 11 = .ok (.invokevirtual 23, 3) := by decide +kernel
theorem dX0_add_14 : decode cX0_add 14 = .ok (.istore_n 2, 1) := by decide +kernel
theorem dX0_add_15 : decode cX0_add 15 = .ok (.iconst 0, 1) := by decide +kernel
theorem dX0_add_16 : decode cX0_add 16 = .ok (.istore_n 3, 1) := by decide +kernel
theorem dX0_add_17 : decode cX0_add 17 = .ok (.iload_n 3, 1) := by decide +kernel
theorem dX0_add_18 : decode cX0_add 18 = .ok (.iload_n 2, 1) := by decide +kernel
theorem dX0_add_19 : decode cX0_add 19 = .ok (.if_icmp .ge 25, 3) := by decide +kernel
theorem dX0_add_22 : decode cX0_add 22 = .ok (.aload_n 0, 1) := by decide +kernel
theorem dX0_add_23 : decode cX0_add 23 = .ok (.getfield 15, 3) := by decide +kernel
theorem dX0_add_26 : decode cX0_add 26 = .ok (.iload_n 2, 1) := by decide +kernel
theorem dX0_add_27 : decode cX0_add 27 = .ok (.iload_n 3, 1) := by decide +kernel
theorem dX0_add_28 : decode cX0_add 28 = .ok (.iadd, 1) := by decide +kernel
theorem dX0_add_29 : decode cX0_add 29 = .ok (.aload_n 0, 1) := by decide +kernel
theorem dX0_add_30 : decode cX0_add 30 = .ok (.getfield 15, 3) := by decide +kernel
theorem dX0_add_33 : decode cX0_add 33 = .ok (.iload_n 3, 1) := by decide +kernel
theorem dX0_add_34 : decode cX0_add 34 = .ok (.iaload, 1) := by decide +kernel
theorem dX0_add_35 : decode cX0_add 35 = .ok (.iload_n 1, 1) := by decide +kernel
theorem dX0_add_36 : decode cX0_add 36 = .ok (.iadd, 1) := by decide +kernel
theorem dX0_add_37 : decode cX0_add 37 = .ok (.iastore, 1) := by decide +kernel
theorem dX0_add_38 : decode cX0_add 38 = .ok (.iinc 3 1, 3) := by decide +kernel
theorem dX0_add_41 : decode cX0_add 41 = .ok (.goto (-24), 3) := by decide +kernel
theorem dX0_add_44 : decode cX0_add 44 = .ok (.aload_n 0, 1) := by decide +kernel
theorem dX0_add_45 : decode cX0_add 45 = .ok (.dup, 1) := by decide +kernel
theorem dX0_add_46 : decode cX0_add 46 = .ok (.getfield 9, 3) := by decide +kernel
theorem dX0_add_49 : decode cX0_add 49 = .ok (.iconst 1, 1) := by decide +kernel
theorem dX0_add_50 : decode cX0_add 50 = .ok (.iadd, 1) := by decide +kernel
theorem dX0_add_51 : decode cX0_add 51 = .ok (.putfield 9, 3) := by decide +kernel
theorem dX0_add_54 : decode cX0_add 54 = .ok (.return_, 1) := by decide +kernel
theorem dX0_sets_0 : decode cX0_sets 0 = .ok (.iconst 1, 1) := by decide +kernel
theorem dX0_sets_1 : decode cX0_sets 1 = .ok (.aload_n 0, 1) := by decide +kernel
theorem dX0_sets_2 : decode cX0_sets 2 = .ok (.getfield 9, 3) := by decide +kernel
theorem dX0_sets_5 : decode cX0_sets 5 = .ok (.ishl, 1) := by decide +kernel
theorem dX0_sets_6 : decode cX0_sets 6 = .ok (.ireturn, 1) := by decide +kernel
theorem dX0_setsOff_0 : decode cX0_setsOff 0 = .ok (.iconst 0, 1) := by decide +kernel
theorem dX0_setsOff_1 : decode cX0_setsOff 1 = .ok (.istore_n 3, 1) := by decide +kernel
theorem dX0_setsOff_2 : decode cX0_setsOff 2 = .ok (.iconst 0, 1) := by decide +kernel
theorem dX0_setsOff_3 : decode cX0_setsOff 3 = .ok (.istore 4, 2) := by decide +kernel
theorem dX0_setsOff_5 : decode cX0_setsOff 5 = .ok (.iload 4, 2) := by decide +kernel
theorem dX0_setsOff_7 : decode cX0_setsOff 7 = .ok (.aload_n 0, 1) := by decide +kernel
theorem dX0_setsOff_8 : decode cX0_setsOff 8 = .ok (.invokevirtual 23, 3) := by decide +kernel
theorem dX0_setsOff_11 : decode cX0_setsOff 11 = .ok (.if_icmp .ge 25, 3) := by decide +kernel
theorem dX0_setsOff_14 : decode cX0_setsOff 14 = .ok (.aload_n 0, 1) := by decide +kernel
theorem dX0_setsOff_15 : decode cX0_setsOff 15 = .ok (.getfield 15, 3) := by decide +kernel
theorem dX0_setsOff_18 : decode cX0_setsOff 18 = .ok (.iload 4, 2) := by decide +kernel
theorem dX0_setsOff_20 : decode cX0_setsOff 20 = .ok (.iaload, 1) := by decide +kernel
theorem dX0_setsOff_21 : decode cX0_setsOff 21 = .ok (.iload_n 2, 1) := by decide +kernel
theorem dX0_setsOff_22 : decode cX0_setsOff 22 = .ok (.imul, 1) := by decide +kernel
theorem dX0_setsOff_23 : decode cX0_setsOff 23 = .ok (.iload_n 1, 1) := by decide +kernel
theorem dX0_setsOff_24 : decode cX0_setsOff 24 = .ok (.if_icmp .ne 6, 3) := by decide +kernel
theorem dX0_setsOff_27 : decode cX0_setsOff 27 = .ok (.iinc 3 1, 3) := by decide +kernel
theorem dX0_setsOff_30 : decode cX0_setsOff 30 = .ok (.iinc 4 1, 3) := by decide +kernel
theorem dX0_setsOff_33 : decode cX0_setsOff 33 = .ok (.goto (-28), 3) := by decide +kernel
theorem dX0_setsOff_36 : decode cX0_setsOff 36 = .ok (.iload_n 3, 1) := by decide +kernel
theorem dX0_setsOff_37 : decode cX0_setsOff 37 = .ok (.ireturn, 1) := by decide +kernel
theorem dX0_leastSetOff_0 : decode cX0_leastSetOff 0 = .ok (.iconst 0, 1) := by decide +kernel
theorem dX0_leastSetOff_1 : decode cX0_leastSetOff 1 = .ok (.istore_n 3, 1) := by decide +kernel
theorem dX0_leastSetOff_2 : decode cX0_leastSetOff 2 = .ok (.iload_n 3, 1) := by decide +kernel
theorem dX0_leastSetOff_3 : decode cX0_leastSetOff 3 = .ok (.aload_n 0, 1) := by decide +kernel
theorem dX0_leastSetOff_4 : decode cX0_leastSetOff 4 = .ok (.invokevirtual 23, 3) := by decide +kernel
theorem dX0_leastSetOff_7 : decode cX0_leastSetOff 7 = .ok (.if_icmp .ge 23, 3) := by decide +kernel
theorem dX0_leastSetOff_10 : decode cX0_leastSetOff 10 = .ok (.aload_n 0, 1) := by decide +kernel
theorem dX0_leastSetOff_11 : decode cX0_leastSetOff 11 = .ok (.getfield 15, 3) := by decide +kernel
theorem dX0_leastSetOff_14 : decode cX0_leastSetOff 14 = .ok (.iload_n 3, 1) := by decide +kernel
theorem dX0_leastSetOff_15 : decode cX0_leastSetOff 15 = .ok (.iaload, 1) := by decide +kernel
theorem dX0_leastSetOff_16 : decode cX0_leastSetOff 16 = .ok (.iload_n 2, 1) := by decide +kernel
theorem dX0_leastSetOff_17 : decode cX0_leastSetOff 17 = .ok (.imul, 1) := by decide +kernel
theorem dX0_leastSetOff_18 : decode cX0_leastSetOff 18 = .ok (.iload_n 1, 1) := by decide +kernel
theorem dX0_leastSetOff_19 : decode cX0_leastSetOff 19 = .ok (.if_icmp .ne 5, 3) := by decide +kernel
theorem dX0_leastSetOff_22 : decode cX0_leastSetOff 22 = .ok (.iload_n 3, 1) := by decide +kernel
theorem dX0_leastSetOff_23 : decode cX0_leastSetOff 23 = .ok (.ireturn, 1) := by decide +kernel
theorem dX0_leastSetOff_24 : decode cX0_leastSetOff 24 = .ok (.iinc 3 1, 3) := by decide +kernel
theorem dX0_leastSetOff_27 : decode cX0_leastSetOff 27 = .ok (.goto (-25), 3) := by decide +kernel
theorem dX0_leastSetOff_30 : decode cX0_leastSetOff 30 = .ok (.bipush (-2), 2) := by decide +kernel
theorem dX0_leastSetOff_32 : decode cX0_leastSetOff 32 = .ok (.ireturn, 1) := by decide +kernel
theorem dX0_leastGap_0 : decode cX0_leastGap 0 = .ok (.aload_n 0, 1) := by decide +kernel
theorem dX0_leastGap_1 : decode cX0_leastGap 1 = .ok (.getfield 9, 3) := by decide +kernel
theorem dX0_leastGap_4 : decode cX0_leastGap 4 = .ok (.ifCond .ne 6, 3) := by decide +kernel
theorem dX0_leastGap_7 : decode cX0_leastGap 7 = .ok (.bipush (-2), 2) := by decide +kernel
theorem dX0_leastGap_9 : decode cX0_leastGap 9 = .ok (.ireturn, 1) := by decide +kernel
theorem dX0_leastGap_10 : decode cX0_leastGap 10 = .ok (.aload_n 0, 1) := by decide +kernel
theorem dX0_leastGap_11 : decode cX0_leastGap 11 = .ok (.getfield 19, 3) := by decide +kernel
theorem dX0_leastGap_14 : decode cX0_leastGap 14 = .ok (.iconst 0, 1) := by decide +kernel
theorem dX0_leastGap_15 : decode cX0_leastGap 15 = .ok (.invokestatic 27, 3) := by decide +kernel
theorem dX0_leastGap_18 : decode cX0_leastGap 18 = .ok (.iconst 0, 1) := by decide +kernel
theorem dX0_leastGap_19 : decode cX0_leastGap 19 = .ok (.istore_n 1, 1) := by decide +kernel
theorem dX0_leastGap_20 : decode cX0_leastGap 20 = .ok (.iload_n 1, 1) := by decide +kernel
theorem dX0_leastGap_21 : decode cX0_leastGap 21 = .ok (.aload_n 0, 1) := by decide +kernel
theorem dX0_leastGap_22 : decode cX0_leastGap 22 = .ok (.invokevirtual 23, 3) := by decide +kernel
theorem dX0_leastGap_25 : decode cX0_leastGap 25 = .ok (.if_icmp .ge 43, 3) := by decide +kernel
theorem dX0_leastGap_28 : decode cX0_leastGap 28 = .ok (.aload_n 0, 1) := by decide +kernel
theorem dX0_leastGap_29 : decode cX0_leastGap 29 = .ok (.getfield 15, 3) := by decide +kernel
theorem dX0_leastGap_32 : decode cX0_leastGap 32 = .ok (.iload_n 1, 1) := by decide +kernel
theorem dX0_leastGap_33 : decode cX0_leastGap 33 = .ok (.iaload, 1) := by decide +kernel
theorem dX0_leastGap_34 : decode cX0_leastGap 34 = .ok (.istore_n 2, 1) := by decide +kernel
theorem dX0_leastGap_35 : decode cX0_leastGap 35 = .ok (.iload_n 2, 1) := by decide +kernel
theorem dX0_leastGap_36 : decode cX0_leastGap 36 = .ok (.aload_n 0, 1) := by decide +kernel
theorem dX0_leastGap_37 : decode cX0_leastGap 37 = .ok (.getfield 19, 3) := by decide +kernel
theorem dX0_leastGap_40 : decode cX0_leastGap 40 = .ok (.arraylength, 1) := by decide +kernel
theorem dX0_leastGap_41 : decode cX0_leastGap 41 = .ok (.if_icmp .ge 12, 3) := by decide +kernel
theorem dX0_leastGap_44 : decode cX0_leastGap 44 = .ok (.aload_n 0, 1) := by decide +kernel
theorem dX0_leastGap_45 : decode cX0_leastGap 45 = .ok (.getfield 19, 3) := by decide +kernel
theorem dX0_leastGap_48 : decode cX0_leastGap 48 = .ok (.iload_n 2, 1) := by decide +kernel
theorem dX0_leastGap_49 : decode cX0_leastGap 49 = .ok (.baload, 1) := by decide +kernel
theorem dX0_leastGap_50 : decode cX0_leastGap 50 = .ok (.ifCond .eq 5, 3) := by decide +kernel
theorem dX0_leastGap_53 : decode cX0_leastGap 53 = .ok (.iconst 0, 1) := by decide +kernel
theorem dX0_leastGap_54 : decode cX0_leastGap 54 = .ok (.ireturn, 1) := by decide +kernel
theorem dX0_leastGap_55 : decode cX0_leastGap 55 = .ok (.aload_n 0, 1) := by decide +kernel
theorem dX0_leastGap_56 : decode cX0_leastGap 56 = .ok (.getfield 19, 3) := by decide +kernel
theorem dX0_leastGap_59 : decode cX0_leastGap 59 = .ok (.iload_n 2, 1) := by decide +kernel
theorem dX0_leastGap_60 : decode cX0_leastGap 60 = .ok (.iconst 1, 1) := by decide +kernel
theorem dX0_leastGap_61 : decode cX0_leastGap 61 = .ok (.bastore, 1) := by decide +kernel
theorem dX0_leastGap_62 : decode cX0_leastGap 62 = .ok (.iinc 1 1, 3) := by decide +kernel
theorem dX0_leastGap_65 : decode cX0_leastGap 65 = .ok (.goto (-45), 3) := by decide +kernel
theorem dX0_leastGap_68 : decode cX0_leastGap 68 = .ok (.aload_n 0, 1) := by decide +kernel
theorem dX0_leastGap_69 : decode cX0_leastGap 69 = .ok (.invokevirtual 33, 3) := by decide +kernel
theorem dX0_leastGap_72 : decode cX0_leastGap 72 = .ok (.ireturn, 1) := by decide +kernel
theorem dX0_leastBetweenMarks_0 : decode cX0_leastBetweenMarks 0 = .ok (.aload_n 0, 1) := by decide +kernel
theorem dX0_leastBetweenMarks_1 : decode cX0_leastBetweenMarks 1 = .ok (.getfield 19, 3) := by decide +kernel
theorem dX0_leastBetweenMarks_4 : decode cX0_leastBetweenMarks 4 = .ok (.arraylength, 1) := by decide +kernel
theorem dX0_leastBetweenMarks_5 : decode cX0_leastBetweenMarks 5 = .ok (.istore_n 1, 1) := by decide +kernel
theorem dX0_leastBetweenMarks_6 : decode cX0_leastBetweenMarks 6 = .ok (.iconst 0, 1) := by decide +kernel
theorem dX0_leastBetweenMarks_7 : decode cX0_leastBetweenMarks 7 = .ok (.istore_n 2, 1) := by decide +kernel
theorem dX0_leastBetweenMarks_8 : decode cX0_leastBetweenMarks 8 = .ok (.iconst 1, 1) := by decide +kernel
theorem dX0_leastBetweenMarks_9 : decode cX0_leastBetweenMarks 9 = .ok (.istore_n 3, 1) := by decide +kernel
theorem dX0_leastBetweenMarks_10 : decode cX0_leastBetweenMarks 10 = .ok (.iload_n 3, 1) := by decide +kernel
theorem dX0_leastBetweenMarks_11 : decode cX0_leastBetweenMarks 11 = .ok (.aload_n 0, 1) := by decide +kernel
theorem dX0_leastBetweenMarks_12 : decode cX0_leastBetweenMarks 12 = .ok (.getfield 19, 3) := by decide +kernel
theorem dX0_leastBetweenMarks_15 : decode cX0_leastBetweenMarks 15 = .ok (.arraylength, 1) := by decide +kernel
theorem dX0_leastBetweenMarks_16 : decode cX0_leastBetweenMarks 16 = .ok (.if_icmp .ge 28, 3) := by decide +kernel
theorem dX0_leastBetweenMarks_19 : decode cX0_leastBetweenMarks 19 = .ok (.aload_n 0, 1) := by decide +kernel
theorem dX0_leastBetweenMarks_20 : decode cX0_leastBetweenMarks 20 = .ok (.getfield 19, 3) := by decide +kernel
theorem dX0_leastBetweenMarks_23 : decode cX0_leastBetweenMarks 23 = .ok (.iload_n 3, 1) := by decide +kernel
theorem dX0_leastBetweenMarks_24 : decode cX0_leastBetweenMarks 24 = .ok (.baload, 1) := by decide +kernel
theorem dX0_leastBetweenMarks_25 : decode cX0_leastBetweenMarks 25 = .ok (.ifCond .eq 13, 3) := by decide +kernel
theorem dX0_leastBetweenMarks_28 : decode cX0_leastBetweenMarks 28 = .ok (.iload_n 1, 1) := by decide +kernel
theorem dX0_leastBetweenMarks_29 : decode cX0_leastBetweenMarks 29 = .ok (.iload_n 3, 1) := by decide +kernel
theorem dX0_leastBetweenMarks_30 : decode cX0_leastBetweenMarks 30 = .ok (.iload_n 2, 1) := by decide +kernel
theorem dX0_leastBetweenMarks_31 : decode cX0_leastBetweenMarks 31 = .ok (.isub, 1) := by decide +kernel
theorem dX0_leastBetweenMarks_32 : decode cX0_leastBetweenMarks 32 = .ok (.invokestatic 36, 3) := by decide +kernel
theorem dX0_leastBetweenMarks_35 : decode cX0_leastBetweenMarks 35 = .ok (.istore_n 1, 1) := by decide +kernel
theorem dX0_leastBetweenMarks_36 : decode cX0_leastBetweenMarks 36 = .ok (.iload_n 3, 1) := by decide +kernel
theorem dX0_leastBetweenMarks_37 : decode cX0_leastBetweenMarks 37 = .ok (.istore_n 2, 1) := by decide +kernel
theorem dX0_leastBetweenMarks_38 : decode cX0_leastBetweenMarks 38 = .ok (.iinc 3 1, 3) := by decide +kernel
theorem dX0_leastBetweenMarks_41 : decode cX0_leastBetweenMarks 41 = .ok (.goto (-31), 3) := by decide +kernel
theorem dX0_leastBetweenMarks_44 : decode cX0_leastBetweenMarks 44 = .ok (.iload_n 1, 1) := by decide +kernel
theorem dX0_leastBetweenMarks_45 : decode cX0_leastBetweenMarks 45 = .ok (.ireturn, 1) := by decide +kernel
theorem dX1_init_0 : decode cX1_init 0 = .ok (.aload_n 0, 1) := by decide +kernel
theorem dX1_init_1 : decode cX1_init 1 = .ok (.invokespecial 5, 3) := by decide +kernel
theorem dX1_init_4 : decode cX1_init 4 = .ok (.aload_n 0, 1) := by decide +kernel
theorem dX1_init_5 : decode cX1_init 5 = .ok (.sipush 10000, 3) := by decide +kernel
theorem dX1_init_8 : decode cX1_init 8 = .ok (.newarray .int, 2) := by decide +kernel
theorem dX1_init_10 : decode cX1_init 10 = .ok (.putfield 13, 3) := by decide +kernel
theorem dX1_init_13 : decode cX1_init 13 = .ok (.aload_n 0, 1) := by decide +kernel
theorem dX1_init_14 : decode cX1_init 14 = .ok (.iconst 0, 1) := by decide +kernel
theorem dX1_init_15 : decode cX1_init 15 = .ok (.putfield 17, 3) := by decide +kernel
theorem dX1_init_18 : decode cX1_init 18 = .ok (.aload_n 0, 1) := by decide +kernel
theorem dX1_init_19 : decode cX1_init 19 = .ok (.iconst 0, 1) := by decide +kernel
theorem dX1_init_20 : decode cX1_init 20 = .ok (.putfield 21, 3) := by decide +kernel
theorem dX1_init_23 : decode cX1_init 23 = .ok (.aload_n 0, 1) := by decide +kernel
theorem dX1_init_24 : decode cX1_init 24 = .ok (.iconst 0, 1) := by decide +kernel
theorem dX1_init_25 : decode cX1_init 25 = .ok (.putfield 24, 3) := by decide +kernel
theorem dX1_init_28 : decode cX1_init 28 = .ok (.aload_n 0, 1) := by decide +kernel
theorem dX1_init_29 : decode cX1_init 29 = .ok (.sipush 10000, 3) := by decide +kernel
theorem dX1_init_32 : decode cX1_init 32 = .ok (.newarray .int, 2) := by decide +kernel
theorem dX1_init_34 : decode cX1_init 34 = .ok (.putfield 27, 3) := by decide +kernel
theorem dX1_init_37 : decode cX1_init 37 = .ok (.aload_n 0, 1) := by decide +kernel
theorem dX1_init_38 : decode cX1_init 38 = .ok (.bipush 19, 2) := by decide +kernel
theorem dX1_init_40 : decode cX1_init 40 = .ok (.bipush 24, 2) := by decide +kernel
theorem dX1_init_42 : decode cX1_init 42 = .ok (.multianewarray 30 2, 4) := by decide +kernel
theorem dX1_init_46 : decode cX1_init 46 = .ok (.putfield 32, 3) := by decide +kernel
theorem dX1_init_49 : decode cX1_init 49 = .ok (.aload_n 0, 1) := by decide +kernel
theorem dX1_init_50 : decode cX1_init 50 = .ok (.aload_n 1, 1) := by decide +kernel
theorem dX1_init_51 : decode cX1_init 51 = .ok (.putfield 35, 3) := by decide +kernel
theorem dX1_init_54 : decode cX1_init 54 = .ok (.return_, 1) := by decide +kernel
theorem dX1_takeAll_0 : decode cX1_takeAll 0 = .ok (.aload_n 0, 1) := by decide +kernel
theorem dX1_takeAll_1 : decode cX1_takeAll 1 = .ok (.aload_n 0, 1) := by decide +kernel
theorem dX1_takeAll_2 : decode cX1_takeAll 2 = .ok (.getfield 35, 3) := by decide +kernel
theorem dX1_takeAll_5 : decode cX1_takeAll 5 = .ok (.getfield 39, 3) := by decide +kernel
theorem dX1_takeAll_8 : decode cX1_takeAll 8 = .ok (.putfield 17, 3) := by decide +kernel
theorem dX1_takeAll_11 : decode cX1_takeAll 11 = .ok (.iconst 0, 1) := by decide +kernel
theorem dX1_takeAll_12 : decode cX1_takeAll 12 = .ok (.istore_n 1, 1) := by decide +kernel
theorem dX1_takeAll_13 : decode cX1_takeAll 13 = .ok (.iload_n 1, 1) := by decide +kernel
theorem dX1_takeAll_14 : decode cX1_takeAll 14 = .ok (.aload_n 0, 1) := by decide +kernel
theorem dX1_takeAll_15 : decode cX1_takeAll 15 = .ok (.getfield 17, 3) := by decide +kernel
theorem dX1_takeAll_18 : decode cX1_takeAll 18 = .ok (.if_icmp .ge 16, 3) := by decide +kernel
theorem dX1_takeAll_21 : decode cX1_takeAll 21 = .ok (.aload_n 0, 1) := by decide +kernel
theorem dX1_takeAll_22 : decode cX1_takeAll 22 = .ok (.getfield 13, 3) := by decide +kernel
theorem dX1_takeAll_25 : decode cX1_takeAll 25 = .ok (.iload_n 1, 1) := by decide +kernel
theorem dX1_takeAll_26 : decode cX1_takeAll 26 = .ok (.iload_n 1, 1) := by decide +kernel
theorem dX1_takeAll_27 : decode cX1_takeAll 27 = .ok (.iastore, 1) := by decide +kernel
theorem dX1_takeAll_28 : decode cX1_takeAll 28 = .ok (.iinc 1 1, 3) := by decide +kernel
theorem dX1_takeAll_31 : decode cX1_takeAll 31 = .ok (.goto (-18), 3) := by decide +kernel
theorem dX1_takeAll_34 : decode cX1_takeAll 34 = .ok (.return_, 1) := by decide +kernel
theorem dX1_keep_0 : decode cX1_keep 0 = .ok (.iconst 0, 1) := by decide +kernel
theorem dX1_keep_1 : decode cX1_keep 1 = .ok (.istore_n 3, 1) := by decide +kernel
theorem dX1_keep_2 : decode cX1_keep 2 = .ok (.iconst 0, 1) := by decide +kernel
theorem dX1_keep_3 : decode cX1_keep 3 = .ok (.istore 4, 2) := by decide +kernel
theorem dX1_keep_5 : decode cX1_keep 5 = .ok (.iload 4, 2) := by decide +kernel
theorem dX1_keep_7 : decode cX1_keep 7 = .ok (.aload_n 0, 1) := by decide +kernel
theorem dX1_keep_8 : decode cX1_keep 8 = .ok (.getfield 17, 3) := by decide +kernel
theorem dX1_keep_11 : decode cX1_keep 11 = .ok (.if_icmp .ge 45, 3) := by decide +kernel
theorem dX1_keep_14 : decode cX1_keep 14 = .ok (.aload_n 0, 1) := by decide +kernel
theorem dX1_keep_15 : decode cX1_keep 15 = .ok (.getfield 35, 3) := by decide +kernel
theorem dX1_keep_18 : decode cX1_keep 18 = .ok (.getfield 40, 3) := by decide +kernel
theorem dX1_keep_21 : decode cX1_keep 21 = .ok (.aload_n 0, 1) := by decide +kernel
theorem dX1_keep_22 : decode cX1_keep 22 = .ok (.getfield 13, 3) := by decide +kernel
theorem dX1_keep_25 : decode cX1_keep 25 = .ok (.iload 4, 2) := by decide +kernel
theorem dX1_keep_27 : decode cX1_keep 27 = .ok (.iaload, 1) := by decide +kernel
theorem dX1_keep_28 : decode cX1_keep 28 = .ok (.laload, 1) := by decide +kernel
theorem dX1_keep_29 : decode cX1_keep 29 = .ok (.lload_n 1, 1) := by decide +kernel
theorem dX1_keep_30 : decode cX1_keep 30 = .ok (.lcmp, 1) := by decide +kernel
theorem dX1_keep_31 : decode cX1_keep 31 = .ok (.ifCond .ne 19, 3) := by decide +kernel
theorem dX1_keep_34 : decode cX1_keep 34 = .ok (.aload_n 0, 1) := by decide +kernel
theorem dX1_keep_35 : decode cX1_keep 35 = .ok (.getfield 13, 3) := by decide +kernel
theorem dX1_keep_38 : decode cX1_keep 38 = .ok (.iload_n 3, 1) := by decide +kernel
theorem dX1_keep_39 : decode cX1_keep 39 = .ok (.aload_n 0, 1) := by decide +kernel
theorem dX1_keep_40 : decode cX1_keep 40 = .ok (.getfield 13, 3) := by decide +kernel
theorem dX1_keep_43 : decode cX1_keep 43 = .ok (.iload 4, 2) := by decide +kernel
theorem dX1_keep_45 : decode cX1_keep 45 = .ok (.iaload, 1) := by decide +kernel
theorem dX1_keep_46 : decode cX1_keep 46 = .ok (.iastore, 1) := by decide +kernel
theorem dX1_keep_47 : decode cX1_keep 47 = .ok (.iinc 3 1, 3) := by decide +kernel
theorem dX1_keep_50 : decode cX1_keep 50 = .ok (.iinc 4 1, 3) := by decide +kernel
theorem dX1_keep_53 : decode cX1_keep 53 = .ok (.goto (-48), 3) := by decide +kernel
theorem dX1_keep_56 : decode cX1_keep 56 = .ok (.aload_n 0, 1) := by decide +kernel
theorem dX1_keep_57 : decode cX1_keep 57 = .ok (.iload_n 3, 1) := by decide +kernel
theorem dX1_keep_58 : decode cX1_keep 58 = .ok (.putfield 17, 3) := by decide +kernel
theorem dX1_keep_61 : decode cX1_keep 61 = .ok (.return_, 1) := by decide +kernel
theorem dX1_select_0 : decode cX1_select 0 = .ok (.aload_n 0, 1) := by decide +kernel
theorem dX1_select_1 : decode cX1_select 1 = .ok (.iconst 0, 1) := by decide +kernel
theorem dX1_select_2 : decode cX1_select 2 = .ok (.putfield 17, 3) := by decide +kernel
theorem dX1_select_5 : decode cX1_select 5 = .ok (.iconst 0, 1) := by decide +kernel
theorem dX1_select_6 : decode cX1_select 6 = .ok (.istore 5, 2) := by decide +kernel
theorem dX1_select_8 : decode cX1_select 8 = .ok (.iload 5, 2) := by decide +kernel
theorem dX1_select_10 : decode cX1_select 10 = .ok (.aload_n 0, 1) := by decide +kernel
theorem dX1_select_11 : decode cX1_select 11 = .ok (.getfield 35, 3) := by decide +kernel
theorem dX1_select_14 : decode cX1_select 14 = .ok (.getfield 39, 3) := by decide +kernel
theorem dX1_select_17 : decode cX1_select 17 = .ok (.if_icmp .ge 53, 3) := by decide +kernel
theorem dX1_select_20 : decode cX1_select 20 = .ok (.aload_n 0, 1) := by decide +kernel
theorem dX1_select_21 : decode cX1_select 21 = .ok (.getfield 35, 3) := by decide +kernel
theorem dX1_select_24 : decode cX1_select 24 = .ok (.getfield 44, 3) := by decide +kernel
theorem dX1_select_27 : decode cX1_select 27 = .ok (.iload 5, 2) := by decide +kernel
theorem dX1_select_29 : decode cX1_select 29 = .ok (.iaload, 1) := by decide +kernel
theorem dX1_select_30 : decode cX1_select 30 = .ok (.iload 4, 2) := by decide +kernel
theorem dX1_select_32 : decode cX1_select 32 = .ok (.if_icmp .gt 32, 3) := by decide +kernel
theorem dX1_select_35 : decode cX1_select 35 = .ok (.aload_n 0, 1) := by decide +kernel
theorem dX1_select_36 : decode cX1_select 36 = .ok (.getfield 13, 3) := by decide +kernel
theorem dX1_select_39 : decode cX1_select 39 = .ok (.aload_n 0, 1) := by decide +kernel
theorem dX1_select_40 : decode cX1_select 40 = .ok (.getfield 17, 3) := by decide +kernel
theorem dX1_select_43 : decode cX1_select 43 = .ok (.iload 5, 2) := by decide +kernel
theorem dX1_select_45 : decode cX1_select 45 = .ok (.iastore, 1) := by decide +kernel
theorem dX1_select_46 : decode cX1_select 46 = .ok (.aload_n 0, 1) := by decide +kernel
theorem dX1_select_47 : decode cX1_select 47 = .ok (.getfield 27, 3) := by decide +kernel
theorem dX1_select_50 : decode cX1_select 50 = .ok (.iload 5, 2) := by decide +kernel
theorem dX1_select_52 : decode cX1_select 52 = .ok (.iconst 0, 1) := by decide +kernel
theorem dX1_select_53 : decode cX1_select 53 = .ok (.iastore, 1) := by decide +kernel
theorem dX1_select_54 : decode cX1_select 54 = .ok (.aload_n 0, 1) := by decide +kernel
theorem dX1_select_55 : decode cX1_select 55 = .ok (.dup, 1) := by decide +kernel
theorem dX1_select_56 : decode cX1_select 56 = .ok (.getfield 17, 3) := by decide +kernel
theorem dX1_select_59 : decode cX1_select 59 = .ok (.iconst 1, 1) := by decide +kernel
theorem dX1_select_60 : decode cX1_select 60 = .ok (.iadd, 1) := by decide +kernel
theorem dX1_select_61 : decode cX1_select 61 = .ok (.putfield 17, 3) := by decide +kernel
theorem dX1_select_64 : decode cX1_select 64 = .ok (.iinc 5 1, 3) := by decide +kernel
theorem dX1_select_67 : decode cX1_select 67 = .ok (.goto (-59), 3) := by decide +kernel
theorem dX1_select_70 : decode cX1_select 70 = .ok (.iconst 0, 1) := by decide +kernel
theorem dX1_select_71 : decode cX1_select 71 = .ok (.istore 5, 2) := by decide +kernel
theorem dX1_select_73 : decode cX1_select 73 = .ok (.iload 5, 2) := by decide +kernel
theorem dX1_select_75 : decode cX1_select 75 = .ok (.iload_n 2, 1) := by decide +kernel
theorem dX1_select_76 : decode cX1_select 76 = .ok (.if_icmp .ge 36, 3) := by decide +kernel
theorem dX1_select_79 : decode cX1_select 79 = .ok (.aload_n 0, 1) := by decide +kernel
theorem dX1_select_80 : decode cX1_select 80 = .ok (.getfield 35, 3) := by decide +kernel
theorem dX1_select_83 : decode cX1_select 83 = .ok (.aload_n 1, 1) := by decide +kernel
theorem dX1_select_84 : decode cX1_select 84 = .ok (.getfield 47, 3) := by decide +kernel
theorem dX1_select_87 : decode cX1_select 87 = .ok (.iload 5, 2) := by decide +kernel
theorem dX1_select_89 : decode cX1_select 89 = .ok (.iaload, 1) := by decide +kernel
theorem dX1_select_90 : decode cX1_select 90 = .ok (.i2l, 1) := by decide +kernel
theorem dX1_select_91 : decode cX1_select 91 = .ok (.invokevirtual 52, 3) := by decide +kernel
theorem dX1_select_94 : decode cX1_select 94 = .ok (.aload_n 0, 1) := by decide +kernel
theorem dX1_select_95 : decode cX1_select 95 = .ok (.aload_n 1, 1) := by decide +kernel
theorem dX1_select_96 : decode cX1_select 96 = .ok (.getfield 56, 3) := by decide +kernel
theorem dX1_select_99 : decode cX1_select 99 = .ok (.iload 5, 2) := by decide +kernel
theorem dX1_select_101 : decode cX1_select 101 = .ok (.laload, 1) := by decide +kernel
theorem dX1_select_102 : decode cX1_select 102 = .ok (.iload_n 3, 1) := by decide +kernel
theorem dX1_select_103 : decode cX1_select 103 = .ok (.invokevirtual 58, 3) := by decide +kernel
theorem dX1_select_106 : decode cX1_select 106 = .ok (.iinc 5 1, 3) := by decide +kernel
theorem dX1_select_109 : decode cX1_select 109 = .ok (.goto (-36), 3) := by decide +kernel
theorem dX1_select_112 : decode cX1_select 112 = .ok (.return_, 1) := by decide +kernel
theorem dX1_dropWrong_0 : decode cX1_dropWrong 0 = .ok (.iconst 0, 1) := by decide +kernel
theorem dX1_dropWrong_1 : decode cX1_dropWrong 1 = .ok (.istore 4, 2) := by decide +kernel
theorem dX1_dropWrong_3 : decode cX1_dropWrong 3 = .ok (.iconst 0, 1) := by decide +kernel
theorem dX1_dropWrong_4 : decode cX1_dropWrong 4 = .ok (.istore 5, 2) := by decide +kernel
theorem dX1_dropWrong_6 : decode cX1_dropWrong 6 = .ok (.iload 5, 2) := by decide +kernel
theorem dX1_dropWrong_8 : decode cX1_dropWrong 8 = .ok (.aload_n 0, 1) := by decide +kernel
theorem dX1_dropWrong_9 : decode cX1_dropWrong 9 = .ok (.getfield 17, 3) := by decide +kernel
theorem dX1_dropWrong_12 : decode cX1_dropWrong 12 = .ok (.if_icmp .ge 67, 3) := by decide +kernel
theorem dX1_dropWrong_15 : decode cX1_dropWrong 15 = .ok (.aload_n 0, 1) := by decide +kernel
theorem dX1_dropWrong_16 : decode cX1_dropWrong 16 = .ok (.getfield 13, 3) := by decide +kernel
theorem dX1_dropWrong_19 : decode cX1_dropWrong 19 = .ok (.iload 5, 2) := by decide +kernel
theorem dX1_dropWrong_21 : decode cX1_dropWrong 21 = .ok (.iaload, 1) := by decide +kernel
theorem dX1_dropWrong_22 : decode cX1_dropWrong 22 = .ok (.istore 6, 2) := by decide +kernel
theorem dX1_dropWrong_24 : decode cX1_dropWrong 24 = .ok (.aload_n 0, 1) := by decide +kernel
theorem dX1_dropWrong_25 : decode cX1_dropWrong 25 = .ok (.getfield 35, 3) := by decide +kernel
theorem dX1_dropWrong_28 : decode cX1_dropWrong 28 = .ok (.getfield 40, 3) := by decide +kernel
theorem dX1_dropWrong_31 : decode cX1_dropWrong 31 = .ok (.iload 6, 2) := by decide +kernel
theorem dX1_dropWrong_33 : decode cX1_dropWrong 33 = .ok (.laload, 1) := by decide +kernel
theorem dX1_dropWrong_34 : decode cX1_dropWrong 34 = .ok (.lload_n 1, 1) := by decide +kernel
theorem dX1_dropWrong_35 : decode cX1_dropWrong 35 = .ok (.lcmp, 1) := by decide +kernel
theorem dX1_dropWrong_36 : decode cX1_dropWrong 36 = .ok (.ifCond .eq 14, 3) := by decide +kernel
theorem dX1_dropWrong_39 : decode cX1_dropWrong 39 = .ok (.aload_n 0, 1) := by decide +kernel
theorem dX1_dropWrong_40 : decode cX1_dropWrong 40 = .ok (.getfield 27, 3) := by decide +kernel
theorem dX1_dropWrong_43 : decode cX1_dropWrong 43 = .ok (.iload 6, 2) := by decide +kernel
theorem dX1_dropWrong_45 : decode cX1_dropWrong 45 = .ok (.dup2, 1) := by decide +kernel
theorem dX1_dropWrong_46 : decode cX1_dropWrong 46 = .ok (.iaload, 1) := by decide +kernel
theorem dX1_dropWrong_47 : decode cX1_dropWrong 47 = .ok (.iconst 1, 1) := by decide +kernel
theorem dX1_dropWrong_48 : decode cX1_dropWrong 48 = .ok (.iadd, 1) := by decide +kernel
theorem dX1_dropWrong_49 : decode cX1_dropWrong 49 = .ok (.iastore, 1) := by decide +kernel
theorem dX1_dropWrong_50 : decode cX1_dropWrong 50 = .ok (.aload_n 0, 1) := by decide +kernel
theorem dX1_dropWrong_51 : decode cX1_dropWrong 51 = .ok (.getfield 27, 3) := by decide +kernel
theorem dX1_dropWrong_54 : decode cX1_dropWrong 54 = .ok (.iload 6, 2) := by decide +kernel
theorem dX1_dropWrong_56 : decode cX1_dropWrong 56 = .ok (.iaload, 1) := by decide +kernel
theorem dX1_dropWrong_57 : decode cX1_dropWrong 57 = .ok (.iload_n 3, 1) := by decide +kernel
theorem dX1_dropWrong_58 : decode cX1_dropWrong 58 = .ok (.if_icmp .gt 15, 3) := by decide +kernel
theorem dX1_dropWrong_61 : decode cX1_dropWrong 61 = .ok (.aload_n 0, 1) := by decide +kernel
theorem dX1_dropWrong_62 : decode cX1_dropWrong 62 = .ok (.getfield 13, 3) := by decide +kernel
theorem dX1_dropWrong_65 : decode cX1_dropWrong 65 = .ok (.iload 4, 2) := by decide +kernel
theorem dX1_dropWrong_67 : decode cX1_dropWrong 67 = .ok (.iload 6, 2) := by decide +kernel
theorem dX1_dropWrong_69 : decode cX1_dropWrong 69 = .ok (.iastore, 1) := by decide +kernel
theorem dX1_dropWrong_70 : decode cX1_dropWrong 70 = .ok (.iinc 4 1, 3) := by decide +kernel
theorem dX1_dropWrong_73 : decode cX1_dropWrong 73 = .ok (.iinc 5 1, 3) := by decide +kernel
theorem dX1_dropWrong_76 : decode cX1_dropWrong 76 = .ok (.goto (-70), 3) := by decide +kernel
theorem dX1_dropWrong_79 : decode cX1_dropWrong 79 = .ok (.aload_n 0, 1) := by decide +kernel
theorem dX1_dropWrong_80 : decode cX1_dropWrong 80 = .ok (.iload 4, 2) := by decide +kernel
theorem dX1_dropWrong_82 : decode cX1_dropWrong 82 = .ok (.putfield 17, 3) := by decide +kernel
theorem dX1_dropWrong_85 : decode cX1_dropWrong 85 = .ok (.return_, 1) := by decide +kernel
theorem dX1_leastAt_0 : decode cX1_leastAt 0 = .ok (.bipush 9, 2) := by decide +kernel
theorem dX1_leastAt_2 : decode cX1_leastAt 2 = .ok (.istore_n 2, 1) := by decide +kernel
theorem dX1_leastAt_3 : decode cX1_leastAt 3 = .ok (.iconst 0, 1) := by decide +kernel
theorem dX1_leastAt_4 : decode cX1_leastAt 4 = .ok (.istore_n 3, 1) := by decide +kernel
theorem dX1_leastAt_5 : decode cX1_leastAt 5 = .ok (.iload_n 3, 1) := by decide +kernel
theorem dX1_leastAt_6 : decode cX1_leastAt 6 = .ok (.aload_n 0, 1) := by decide +kernel
theorem dX1_leastAt_7 : decode cX1_leastAt 7 = .ok (.getfield 17, 3) := by decide +kernel
theorem dX1_leastAt_10 : decode cX1_leastAt 10 = .ok (.if_icmp .ge 28, 3) := by decide +kernel
theorem dX1_leastAt_13 : decode cX1_leastAt 13 = .ok (.iload_n 2, 1) := by decide +kernel
theorem dX1_leastAt_14 : decode cX1_leastAt 14 = .ok (.aload_n 0, 1) := by decide +kernel
theorem dX1_leastAt_15 : decode cX1_leastAt 15 = .ok (.getfield 35, 3) := by decide +kernel
theorem dX1_leastAt_18 : decode cX1_leastAt 18 = .ok (.aload_n 0, 1) := by decide +kernel
theorem dX1_leastAt_19 : decode cX1_leastAt 19 = .ok (.getfield 13, 3) := by decide +kernel
theorem dX1_leastAt_22 : decode cX1_leastAt 22 = .ok (.iload_n 3, 1) := by decide +kernel
theorem dX1_leastAt_23 : decode cX1_leastAt 23 = .ok (.iaload, 1) := by decide +kernel
theorem dX1_leastAt_24 : decode cX1_leastAt 24 = .ok (.iload_n 1, 1) := by decide +kernel
theorem dX1_leastAt_25 : decode cX1_leastAt 25 = .ok (.invokevirtual 62, 3) := by decide +kernel
theorem dX1_leastAt_28 : decode cX1_leastAt 28 = .ok (.invokestatic 66, 3) := by decide +kernel
theorem dX1_leastAt_31 : decode cX1_leastAt 31 = .ok (.istore_n 2, 1) := by decide +kernel
theorem dX1_leastAt_32 : decode cX1_leastAt 32 = .ok (.iinc 3 1, 3) := by decide +kernel
theorem dX1_leastAt_35 : decode cX1_leastAt 35 = .ok (.goto (-30), 3) := by decide +kernel
theorem dX1_leastAt_38 : decode cX1_leastAt 38 = .ok (.iload_n 2, 1) := by decide +kernel
theorem dX1_leastAt_39 : decode cX1_leastAt 39 = .ok (.ireturn, 1) := by decide +kernel
theorem dX1_greatestAt_0 : decode cX1_greatestAt 0 = .ok (.iconst 0, 1) := by decide +kernel
theorem dX1_greatestAt_1 : decode cX1_greatestAt 1 = .ok (.istore_n 2, 1) := by decide +kernel
theorem dX1_greatestAt_2 : decode cX1_greatestAt 2 = .ok (.iconst 0, 1) := by decide +kernel
theorem dX1_greatestAt_3 : decode cX1_greatestAt 3 = .ok (.istore_n 3, 1) := by decide +kernel
theorem dX1_greatestAt_4 : decode cX1_greatestAt 4 = .ok (.iload_n 3, 1) := by decide +kernel
theorem dX1_greatestAt_5 : decode cX1_greatestAt 5 = .ok (.aload_n 0, 1) := by decide +kernel
theorem dX1_greatestAt_6 : decode cX1_greatestAt 6 = .ok (.getfield 17, 3) := by decide +kernel
theorem dX1_greatestAt_9 : decode cX1_greatestAt 9 = .ok (.if_icmp .ge 28, 3) := by decide +kernel
theorem dX1_greatestAt_12 : decode cX1_greatestAt 12 = .ok (.iload_n 2, 1) := by decide +kernel
theorem dX1_greatestAt_13 : decode cX1_greatestAt 13 = .ok (.aload_n 0, 1) := by decide +kernel
theorem dX1_greatestAt_14 : decode cX1_greatestAt 14 = .ok (.getfield 35, 3) := by decide +kernel
theorem dX1_greatestAt_17 : decode cX1_greatestAt 17 = .ok (.aload_n 0, 1) := by decide +kernel
theorem dX1_greatestAt_18 : decode cX1_greatestAt 18 = .ok (.getfield 13, 3) := by decide +kernel
theorem dX1_greatestAt_21 : decode cX1_greatestAt 21 = .ok (.iload_n 3, 1) := by decide +kernel
theorem dX1_greatestAt_22 : decode cX1_greatestAt 22 = .ok (.iaload, 1) := by decide +kernel
theorem dX1_greatestAt_23 : decode cX1_greatestAt 23 = .ok (.iload_n 1, 1) := by decide +kernel
theorem dX1_greatestAt_24 : decode cX1_greatestAt 24 = .ok (.invokevirtual 62, 3) := by decide +kernel
theorem dX1_greatestAt_27 : decode cX1_greatestAt 27 = .ok (.invokestatic 71, 3) := by decide +kernel
theorem dX1_greatestAt_30 : decode cX1_greatestAt 30 = .ok (.istore_n 2, 1) := by decide +kernel
theorem dX1_greatestAt_31 : decode cX1_greatestAt 31 = .ok (.iinc 3 1, 3) := by decide +kernel
theorem dX1_greatestAt_34 : decode cX1_greatestAt 34 = .ok (.goto (-30), 3) := by decide +kernel
theorem dX1_greatestAt_37 : decode cX1_greatestAt 37 = .ok (.iload_n 2, 1) := by decide +kernel
theorem dX1_greatestAt_38 : decode cX1_greatestAt 38 = .ok (.ireturn, 1) := by decide +kernel
theorem dX1_surePlaces_0 : decode cX1_surePlaces 0 = .ok (.iconst 0, 1) := by decide +kernel
theorem dX1_surePlaces_1 : decode cX1_surePlaces 1 = .ok (.istore_n 1, 1) := by decide +kernel
theorem dX1_surePlaces_2 : decode cX1_surePlaces 2 = .ok (.iconst 0, 1) := by decide +kernel
theorem dX1_surePlaces_3 : decode cX1_surePlaces 3 = .ok (.istore_n 2, 1) := by decide +kernel
theorem dX1_surePlaces_4 : decode cX1_surePlaces 4 = .ok (.iload_n 2, 1) := by decide +kernel
theorem dX1_surePlaces_5 : decode cX1_surePlaces 5 = .ok (.aload_n 0, 1) := by decide +kernel
theorem dX1_surePlaces_6 : decode cX1_surePlaces 6 = .ok (.getfield 35, 3) := by decide +kernel
theorem dX1_surePlaces_9 : decode cX1_surePlaces 9 = .ok (.getfield 74, 3) := by decide +kernel
theorem dX1_surePlaces_12 : decode cX1_surePlaces 12 = .ok (.if_icmp .ge 35, 3) := by decide +kernel
theorem dX1_surePlaces_15 : decode cX1_surePlaces 15 = .ok (.aload_n 0, 1) := by decide +kernel
theorem dX1_surePlaces_16 : decode cX1_surePlaces 16 = .ok (.getfield 17, 3) := by decide +kernel
theorem dX1_surePlaces_19 : decode cX1_surePlaces 19 = .ok (.ifCond .le 28, 3) := by decide +kernel
theorem dX1_surePlaces_22 : decode cX1_surePlaces 22 = .ok (.aload_n 0, 1) := by decide +kernel
theorem dX1_surePlaces_23 : decode cX1_surePlaces 23 = .ok (.iload_n 2, 1) := by decide +kernel
theorem dX1_surePlaces_24 : decode cX1_surePlaces 24 = .ok (.invokevirtual 77, 3) := by decide +kernel
theorem dX1_surePlaces_27 : decode cX1_surePlaces 27 = .ok (.aload_n 0, 1) := by decide +kernel
theorem dX1_surePlaces_28 : decode cX1_surePlaces 28 = .ok (.iload_n 2, 1) := by decide +kernel
theorem dX1_surePlaces_29 : decode cX1_surePlaces 29 = .ok (.invokevirtual 81, 3) := by decide +kernel
theorem dX1_surePlaces_32 : decode cX1_surePlaces 32 = .ok (.if_icmp .ne 9, 3) := by decide +kernel
theorem dX1_surePlaces_35 : decode cX1_surePlaces 35 = .ok (.iload_n 1, 1) := by decide +kernel
theorem dX1_surePlaces_36 : decode cX1_surePlaces 36 = .ok (.iconst 1, 1) := by decide +kernel
theorem dX1_surePlaces_37 : decode cX1_surePlaces 37 = .ok (.iload_n 2, 1) := by decide +kernel
theorem dX1_surePlaces_38 : decode cX1_surePlaces 38 = .ok (.ishl, 1) := by decide +kernel
theorem dX1_surePlaces_39 : decode cX1_surePlaces 39 = .ok (.ior, 1) := by decide +kernel
theorem dX1_surePlaces_40 : decode cX1_surePlaces 40 = .ok (.istore_n 1, 1) := by decide +kernel
theorem dX1_surePlaces_41 : decode cX1_surePlaces 41 = .ok (.iinc 2 1, 3) := by decide +kernel
theorem dX1_surePlaces_44 : decode cX1_surePlaces 44 = .ok (.goto (-40), 3) := by decide +kernel
theorem dX1_surePlaces_47 : decode cX1_surePlaces 47 = .ok (.iload_n 1, 1) := by decide +kernel
theorem dX1_surePlaces_48 : decode cX1_surePlaces 48 = .ok (.ireturn, 1) := by decide +kernel
theorem dX1_sureLiars_0 : decode cX1_sureLiars 0 = .ok (.iconst 0, 1) := by decide +kernel
theorem dX1_sureLiars_1 : decode cX1_sureLiars 1 = .ok (.istore_n 3, 1) := by decide +kernel
theorem dX1_sureLiars_2 : decode cX1_sureLiars 2 = .ok (.iconst 0, 1) := by decide +kernel
theorem dX1_sureLiars_3 : decode cX1_sureLiars 3 = .ok (.istore 4, 2) := by decide +kernel
theorem dX1_sureLiars_5 : decode cX1_sureLiars 5 = .ok (.iload 4, 2) := by decide +kernel
theorem dX1_sureLiars_7 : decode cX1_sureLiars 7 = .ok (.iload_n 2, 1) := by decide +kernel
theorem dX1_sureLiars_8 : decode cX1_sureLiars 8 = .ok (.if_icmp .ge 52, 3) := by decide +kernel
theorem dX1_sureLiars_11 : decode cX1_sureLiars 11 = .ok (.aload_n 0, 1) := by decide +kernel
theorem dX1_sureLiars_12 : decode cX1_sureLiars 12 = .ok (.getfield 17, 3) := by decide +kernel
theorem dX1_sureLiars_15 : decode cX1_sureLiars 15 = .ok (.ifCond .le 45, 3) := by decide +kernel
theorem dX1_sureLiars_18 : decode cX1_sureLiars 18 = .ok (.aload_n 0, 1) := by decide +kernel
theorem dX1_sureLiars_19 : decode cX1_sureLiars 19 = .ok (.getfield 35, 3) := by decide +kernel
theorem dX1_sureLiars_22 : decode cX1_sureLiars 22 = .ok (.aload_n 1, 1) := by decide +kernel
theorem dX1_sureLiars_23 : decode cX1_sureLiars 23 = .ok (.getfield 47, 3) := by decide +kernel
theorem dX1_sureLiars_26 : decode cX1_sureLiars 26 = .ok (.iload 4, 2) := by decide +kernel
theorem dX1_sureLiars_28 : decode cX1_sureLiars 28 = .ok (.iaload, 1) := by decide +kernel
theorem dX1_sureLiars_29 : decode cX1_sureLiars 29 = .ok (.i2l, 1) := by decide +kernel
theorem dX1_sureLiars_30 : decode cX1_sureLiars 30 = .ok (.invokevirtual 52, 3) := by decide +kernel
theorem dX1_sureLiars_33 : decode cX1_sureLiars 33 = .ok (.aload_n 0, 1) := by decide +kernel
theorem dX1_sureLiars_34 : decode cX1_sureLiars 34 = .ok (.aload_n 1, 1) := by decide +kernel
theorem dX1_sureLiars_35 : decode cX1_sureLiars 35 = .ok (.getfield 56, 3) := by decide +kernel
theorem dX1_sureLiars_38 : decode cX1_sureLiars 38 = .ok (.iload 4, 2) := by decide +kernel
theorem dX1_sureLiars_40 : decode cX1_sureLiars 40 = .ok (.laload, 1) := by decide +kernel
theorem dX1_sureLiars_41 : decode cX1_sureLiars 41 = .ok (.invokevirtual 84, 3) := by decide +kernel
theorem dX1_sureLiars_44 : decode cX1_sureLiars 44 = .ok (.ifCond .ne 10, 3) := by decide +kernel
theorem dX1_sureLiars_47 : decode cX1_sureLiars 47 = .ok (.iload_n 3, 1) := by decide +kernel
theorem dX1_sureLiars_48 : decode cX1_sureLiars 48 = .ok (.iconst 1, 1) := by decide +kernel
theorem dX1_sureLiars_49 : decode cX1_sureLiars 49 = .ok (.iload 4, 2) := by decide +kernel
theorem dX1_sureLiars_51 : decode cX1_sureLiars 51 = .ok (.ishl, 1) := by decide +kernel
theorem dX1_sureLiars_52 : decode cX1_sureLiars 52 = .ok (.ior, 1) := by decide +kernel
theorem dX1_sureLiars_53 : decode cX1_sureLiars 53 = .ok (.istore_n 3, 1) := by decide +kernel
theorem dX1_sureLiars_54 : decode cX1_sureLiars 54 = .ok (.iinc 4 1, 3) := by decide +kernel
theorem dX1_sureLiars_57 : decode cX1_sureLiars 57 = .ok (.goto (-52), 3) := by decide +kernel
theorem dX1_sureLiars_60 : decode cX1_sureLiars 60 = .ok (.iload_n 3, 1) := by decide +kernel
theorem dX1_sureLiars_61 : decode cX1_sureLiars 61 = .ok (.ireturn, 1) := by decide +kernel
theorem dX1_isSoForSome_0 : decode cX1_isSoForSome 0 = .ok (.iconst 0, 1) := by decide +kernel
theorem dX1_isSoForSome_1 : decode cX1_isSoForSome 1 = .ok (.istore_n 3, 1) := by decide +kernel
theorem dX1_isSoForSome_2 : decode cX1_isSoForSome 2 = .ok (.iload_n 3, 1) := by decide +kernel
theorem dX1_isSoForSome_3 : decode cX1_isSoForSome 3 = .ok (.aload_n 0, 1) := by decide +kernel
theorem dX1_isSoForSome_4 : decode cX1_isSoForSome 4 = .ok (.getfield 17, 3) := by decide +kernel
theorem dX1_isSoForSome_7 : decode cX1_isSoForSome 7 = .ok (.if_icmp .ge 30, 3) := by decide +kernel
theorem dX1_isSoForSome_10 : decode cX1_isSoForSome 10 = .ok (.aload_n 0, 1) := by decide +kernel
theorem dX1_isSoForSome_11 : decode cX1_isSoForSome 11 = .ok (.getfield 35, 3) := by decide +kernel
theorem dX1_isSoForSome_14 : decode cX1_isSoForSome 14 = .ok (.getfield 40, 3) := by decide +kernel
theorem dX1_isSoForSome_17 : decode cX1_isSoForSome 17 = .ok (.aload_n 0, 1) := by decide +kernel
theorem dX1_isSoForSome_18 : decode cX1_isSoForSome 18 = .ok (.getfield 13, 3) := by decide +kernel
theorem dX1_isSoForSome_21 : decode cX1_isSoForSome 21 = .ok (.iload_n 3, 1) := by decide +kernel
theorem dX1_isSoForSome_22 : decode cX1_isSoForSome 22 = .ok (.iaload, 1) := by decide +kernel
theorem dX1_isSoForSome_23 : decode cX1_isSoForSome 23 = .ok (.laload, 1) := by decide +kernel
theorem dX1_isSoForSome_24 : decode cX1_isSoForSome 24 = .ok (.lload_n 1, 1) := by decide +kernel
theorem dX1_isSoForSome_25 : decode cX1_isSoForSome 25 = .ok (.lcmp, 1) := by decide +kernel
theorem dX1_isSoForSome_26 : decode cX1_isSoForSome 26 = .ok (.ifCond .ne 5, 3) := by decide +kernel
theorem dX1_isSoForSome_29 : decode cX1_isSoForSome 29 = .ok (.iconst 1, 1) := by decide +kernel
theorem dX1_isSoForSome_30 : decode cX1_isSoForSome 30 = .ok (.ireturn, 1) := by decide +kernel
theorem dX1_isSoForSome_31 : decode cX1_isSoForSome 31 = .ok (.iinc 3 1, 3) := by decide +kernel
theorem dX1_isSoForSome_34 : decode cX1_isSoForSome 34 = .ok (.goto (-32), 3) := by decide +kernel
theorem dX1_isSoForSome_37 : decode cX1_isSoForSome 37 = .ok (.iconst 0, 1) := by decide +kernel
theorem dX1_isSoForSome_38 : decode cX1_isSoForSome 38 = .ok (.ireturn, 1) := by decide +kernel
theorem dX1_findQuestion_0 : decode cX1_findQuestion 0 = .ok (.aload_n 0, 1) := by decide +kernel
theorem dX1_findQuestion_1 : decode cX1_findQuestion 1 = .ok (.bipush (-9), 2) := by decide +kernel
theorem dX1_findQuestion_3 : decode cX1_findQuestion 3 = .ok (.putfield 21, 3) := by decide +kernel
theorem dX1_findQuestion_6 : decode cX1_findQuestion 6 = .ok (.aload_n 0, 1) := by decide +kernel
theorem dX1_findQuestion_7 : decode cX1_findQuestion 7 = .ok (.aload_n 0, 1) := by decide +kernel
theorem dX1_findQuestion_8 : decode cX1_findQuestion 8 = .ok (.getfield 17, 3) := by decide +kernel
theorem dX1_findQuestion_11 : decode cX1_findQuestion 11 = .ok (.iconst 1, 1) := by decide +kernel
theorem dX1_findQuestion_12 : decode cX1_findQuestion 12 = .ok (.iadd, 1) := by decide +kernel
theorem dX1_findQuestion_13 : decode cX1_findQuestion 13 = .ok (.putfield 24, 3) := by decide +kernel
theorem dX1_findQuestion_16 : decode cX1_findQuestion 16 = .ok (.bipush (-9), 2) := by decide +kernel
theorem dX1_findQuestion_18 : decode cX1_findQuestion 18 = .ok (.istore_n 1, 1) := by decide +kernel
theorem dX1_findQuestion_19 : decode cX1_findQuestion 19 = .ok (.iload_n 1, 1) := by decide +kernel
theorem dX1_findQuestion_20 : decode cX1_findQuestion 20 = .ok (.bipush 9, 2) := by decide +kernel
theorem dX1_findQuestion_22 : decode cX1_findQuestion 22 = .ok (.if_icmp .gt 45, 3) := by decide +kernel
theorem dX1_findQuestion_25 : decode cX1_findQuestion 25 = .ok (.aload_n 0, 1) := by decide +kernel
theorem dX1_findQuestion_26 : decode cX1_findQuestion 26 = .ok (.getfield 24, 3) := by decide +kernel
theorem dX1_findQuestion_29 : decode cX1_findQuestion 29 = .ok (.iconst 1, 1) := by decide +kernel
theorem dX1_findQuestion_30 : decode cX1_findQuestion 30 = .ok (.if_icmp .le 37, 3) := by decide +kernel
theorem dX1_findQuestion_33 : decode cX1_findQuestion 33 = .ok (.aload_n 0, 1) := by decide +kernel
theorem dX1_findQuestion_34 : decode cX1_findQuestion 34 = .ok (.iload_n 1, 1) := by decide +kernel
theorem dX1_findQuestion_35 : decode cX1_findQuestion 35 = .ok (.aload_n 0, 1) := by decide +kernel
theorem dX1_findQuestion_36 : decode cX1_findQuestion 36 = .ok (.getfield 24, 3) := by decide +kernel
theorem dX1_findQuestion_39 : decode cX1_findQuestion 39 = .ok (.invokevirtual 88, 3) := by decide +kernel
theorem dX1_findQuestion_42 : decode cX1_findQuestion 42 = .ok (.istore_n 2, 1) := by decide +kernel
theorem dX1_findQuestion_43 : decode cX1_findQuestion 43 = .ok (.iload_n 2, 1) := by decide +kernel
theorem dX1_findQuestion_44 : decode cX1_findQuestion 44 = .ok (.aload_n 0, 1) := by decide +kernel
theorem dX1_findQuestion_45 : decode cX1_findQuestion 45 = .ok (.getfield 24, 3) := by decide +kernel
theorem dX1_findQuestion_48 : decode cX1_findQuestion 48 = .ok (.if_icmp .ge 13, 3) := by decide +kernel
theorem dX1_findQuestion_51 : decode cX1_findQuestion 51 = .ok (.aload_n 0, 1) := by decide +kernel
theorem dX1_findQuestion_52 : decode cX1_findQuestion 52 = .ok (.iload_n 1, 1) := by decide +kernel
theorem dX1_findQuestion_53 : decode cX1_findQuestion 53 = .ok (.putfield 21, 3) := by decide +kernel
theorem dX1_findQuestion_56 : decode cX1_findQuestion 56 = .ok (.aload_n 0, 1) := by decide +kernel
theorem dX1_findQuestion_57 : decode cX1_findQuestion 57 = .ok (.iload_n 2, 1) := by decide +kernel
theorem dX1_findQuestion_58 : decode cX1_findQuestion 58 = .ok (.putfield 24, 3) := by decide +kernel
theorem dX1_findQuestion_61 : decode cX1_findQuestion 61 = .ok (.iinc 1 1, 3) := by decide +kernel
theorem dX1_findQuestion_64 : decode cX1_findQuestion 64 = .ok (.goto (-45), 3) := by decide +kernel
theorem dX1_findQuestion_67 : decode cX1_findQuestion 67 = .ok (.return_, 1) := by decide +kernel
theorem dX1_mostAlike_0 : decode cX1_mostAlike 0 = .ok (.aload_n 0, 1) := by decide +kernel
theorem dX1_mostAlike_1 : decode cX1_mostAlike 1 = .ok (.getfield 35, 3) := by decide +kernel
theorem dX1_mostAlike_4 : decode cX1_mostAlike 4 = .ok (.iload_n 1, 1) := by decide +kernel
theorem dX1_mostAlike_5 : decode cX1_mostAlike 5 = .ok (.i2l, 1) := by decide +kernel
theorem dX1_mostAlike_6 : decode cX1_mostAlike 6 = .ok (.invokevirtual 52, 3) := by decide +kernel
theorem dX1_mostAlike_9 : decode cX1_mostAlike 9 = .ok (.aload_n 0, 1) := by decide +kernel
theorem dX1_mostAlike_10 : decode cX1_mostAlike 10 = .ok (.getfield 35, 3) := by decide +kernel
theorem dX1_mostAlike_13 : decode cX1_mostAlike 13 = .ok (.getfield 91, 3) := by decide +kernel
theorem dX1_mostAlike_16 : decode cX1_mostAlike 16 = .ok (.aload_n 0, 1) := by decide +kernel
theorem dX1_mostAlike_17 : decode cX1_mostAlike 17 = .ok (.getfield 17, 3) := by decide +kernel
theorem dX1_mostAlike_20 : decode cX1_mostAlike 20 = .ok (.invokevirtual 95, 3) := by decide +kernel
theorem dX1_mostAlike_23 : decode cX1_mostAlike 23 = .ok (.aload_n 0, 1) := by decide +kernel
theorem dX1_mostAlike_24 : decode cX1_mostAlike 24 = .ok (.getfield 27, 3) := by decide +kernel
theorem dX1_mostAlike_27 : decode cX1_mostAlike 27 = .ok (.iconst 0, 1) := by decide +kernel
theorem dX1_mostAlike_28 : decode cX1_mostAlike 28 = .ok (.aload_n 0, 1) := by decide +kernel
theorem dX1_mostAlike_29 : decode cX1_mostAlike 29 = .ok (.getfield 17, 3) := by decide +kernel
theorem dX1_mostAlike_32 : decode cX1_mostAlike 32 = .ok (.iconst 0, 1) := by decide +kernel
theorem dX1_mostAlike_33 : decode cX1_mostAlike 33 = .ok (.invokestatic 101, 3) := by decide +kernel
theorem dX1_mostAlike_36 : decode cX1_mostAlike 36 = .ok (.iconst 0, 1) := by decide +kernel
theorem dX1_mostAlike_37 : decode cX1_mostAlike 37 = .ok (.istore_n 3, 1) := by decide +kernel
theorem dX1_mostAlike_38 : decode cX1_mostAlike 38 = .ok (.iconst 0, 1) := by decide +kernel
theorem dX1_mostAlike_39 : decode cX1_mostAlike 39 = .ok (.istore 4, 2) := by decide +kernel
theorem dX1_mostAlike_41 : decode cX1_mostAlike 41 = .ok (.iload 4, 2) := by decide +kernel
theorem dX1_mostAlike_43 : decode cX1_mostAlike 43 = .ok (.aload_n 0, 1) := by decide +kernel
theorem dX1_mostAlike_44 : decode cX1_mostAlike 44 = .ok (.getfield 17, 3) := by decide +kernel
theorem dX1_mostAlike_47 : decode cX1_mostAlike 47 = .ok (.if_icmp .ge 66, 3) := by decide +kernel
theorem dX1_mostAlike_50 : decode cX1_mostAlike 50 = .ok (.iload_n 3, 1) := by decide +kernel
theorem dX1_mostAlike_51 : decode cX1_mostAlike 51 = .ok (.iload_n 2, 1) := by decide +kernel
theorem dX1_mostAlike_52 : decode cX1_mostAlike 52 = .ok (.if_icmp .ge 61, 3) := by decide +kernel
theorem dX1_mostAlike_55 : decode cX1_mostAlike 55 = .ok (.aload_n 0, 1) := by decide +kernel
theorem dX1_mostAlike_56 : decode cX1_mostAlike 56 = .ok (.getfield 35, 3) := by decide +kernel
theorem dX1_mostAlike_59 : decode cX1_mostAlike 59 = .ok (.getfield 91, 3) := by decide +kernel
theorem dX1_mostAlike_62 : decode cX1_mostAlike 62 = .ok (.aload_n 0, 1) := by decide +kernel
theorem dX1_mostAlike_63 : decode cX1_mostAlike 63 = .ok (.getfield 35, 3) := by decide +kernel
theorem dX1_mostAlike_66 : decode cX1_mostAlike 66 = .ok (.getfield 40, 3) := by decide +kernel
theorem dX1_mostAlike_69 : decode cX1_mostAlike 69 = .ok (.aload_n 0, 1) := by decide +kernel
theorem dX1_mostAlike_70 : decode cX1_mostAlike 70 = .ok (.getfield 13, 3) := by decide +kernel
theorem dX1_mostAlike_73 : decode cX1_mostAlike 73 = .ok (.iload 4, 2) := by decide +kernel
theorem dX1_mostAlike_75 : decode cX1_mostAlike 75 = .ok (.iaload, 1) := by decide +kernel
theorem dX1_mostAlike_76 : decode cX1_mostAlike 76 = .ok (.laload, 1) := by decide +kernel
theorem dX1_mostAlike_77 : decode cX1_mostAlike 77 = .ok (.iload 4, 2) := by decide +kernel
theorem dX1_mostAlike_79 : decode cX1_mostAlike 79 = .ok (.invokevirtual 107, 3) := by decide +kernel
theorem dX1_mostAlike_82 : decode cX1_mostAlike 82 = .ok (.istore 5, 2) := by decide +kernel
theorem dX1_mostAlike_84 : decode cX1_mostAlike 84 = .ok (.aload_n 0, 1) := by decide +kernel
theorem dX1_mostAlike_85 : decode cX1_mostAlike 85 = .ok (.getfield 27, 3) := by decide +kernel
theorem dX1_mostAlike_88 : decode cX1_mostAlike 88 = .ok (.iload 5, 2) := by decide +kernel
theorem dX1_mostAlike_90 : decode cX1_mostAlike 90 = .ok (.dup2, 1) := by decide +kernel
theorem dX1_mostAlike_91 : decode cX1_mostAlike 91 = .ok (.iaload, 1) := by decide +kernel
theorem dX1_mostAlike_92 : decode cX1_mostAlike 92 = .ok (.iconst 1, 1) := by decide +kernel
theorem dX1_mostAlike_93 : decode cX1_mostAlike 93 = .ok (.iadd, 1) := by decide +kernel
theorem dX1_mostAlike_94 : decode cX1_mostAlike 94 = .ok (.iastore, 1) := by decide +kernel
theorem dX1_mostAlike_95 : decode cX1_mostAlike 95 = .ok (.iload_n 3, 1) := by decide +kernel
theorem dX1_mostAlike_96 : decode cX1_mostAlike 96 = .ok (.aload_n 0, 1) := by decide +kernel
theorem dX1_mostAlike_97 : decode cX1_mostAlike 97 = .ok (.getfield 27, 3) := by decide +kernel
theorem dX1_mostAlike_100 : decode cX1_mostAlike 100 = .ok (.iload 5, 2) := by decide +kernel
theorem dX1_mostAlike_102 : decode cX1_mostAlike 102 = .ok (.iaload, 1) := by decide +kernel
theorem dX1_mostAlike_103 : decode cX1_mostAlike 103 = .ok (.invokestatic 71, 3) := by decide +kernel
theorem dX1_mostAlike_106 : decode cX1_mostAlike 106 = .ok (.istore_n 3, 1) := by decide +kernel
theorem dX1_mostAlike_107 : decode cX1_mostAlike 107 = .ok (.iinc 4 1, 3) := by decide +kernel
theorem dX1_mostAlike_110 : decode cX1_mostAlike 110 = .ok (.goto (-69), 3) := by decide +kernel
theorem dX1_mostAlike_113 : decode cX1_mostAlike 113 = .ok (.iload_n 3, 1) := by decide +kernel
theorem dX1_mostAlike_114 : decode cX1_mostAlike 114 = .ok (.ireturn, 1) := by decide +kernel
theorem dX1_enoughQuestions_0 : decode cX1_enoughQuestions 0 = .ok (.aload_n 0, 1) := by decide +kernel
theorem dX1_enoughQuestions_1 : decode cX1_enoughQuestions 1 = .ok (.getfield 17, 3) := by decide +kernel
theorem dX1_enoughQuestions_4 : decode cX1_enoughQuestions 4 = .ok (.bipush 24, 2) := by decide +kernel
theorem dX1_enoughQuestions_6 : decode cX1_enoughQuestions 6 = .ok (.if_icmp .le 6, 3) := by decide +kernel
theorem dX1_enoughQuestions_9 : decode cX1_enoughQuestions 9 = .ok (.bipush (-2), 2) := by decide +kernel
theorem dX1_enoughQuestions_11 : decode cX1_enoughQuestions 11 = .ok (.ireturn, 1) := by decide +kernel
theorem dX1_enoughQuestions_12 : decode cX1_enoughQuestions 12 = .ok (.aload_n 0, 1) := by decide +kernel
theorem dX1_enoughQuestions_13 : decode cX1_enoughQuestions 13 = .ok (.getfield 17, 3) := by decide +kernel
theorem dX1_enoughQuestions_16 : decode cX1_enoughQuestions 16 = .ok (.iconst 1, 1) := by decide +kernel
theorem dX1_enoughQuestions_17 : decode cX1_enoughQuestions 17 = .ok (.if_icmp .gt 5, 3) := by decide +kernel
theorem dX1_enoughQuestions_20 : decode cX1_enoughQuestions 20 = .ok (.iconst 0, 1) := by decide +kernel
theorem dX1_enoughQuestions_21 : decode cX1_enoughQuestions 21 = .ok (.ireturn, 1) := by decide +kernel
theorem dX1_enoughQuestions_22 : decode cX1_enoughQuestions 22 = .ok (.aload_n 0, 1) := by decide +kernel
theorem dX1_enoughQuestions_23 : decode cX1_enoughQuestions 23 = .ok (.invokevirtual 111, 3) := by decide +kernel
theorem dX1_enoughQuestions_26 : decode cX1_enoughQuestions 26 = .ok (.aload_n 0, 1) := by decide +kernel
theorem dX1_enoughQuestions_27 : decode cX1_enoughQuestions 27 = .ok (.iconst 1, 1) := by decide +kernel
theorem dX1_enoughQuestions_28 : decode cX1_enoughQuestions 28 = .ok (.aload_n 0, 1) := by decide +kernel
theorem dX1_enoughQuestions_29 : decode cX1_enoughQuestions 29 = .ok (.getfield 17, 3) := by decide +kernel
theorem dX1_enoughQuestions_32 : decode cX1_enoughQuestions 32 = .ok (.ishl, 1) := by decide +kernel
theorem dX1_enoughQuestions_33 : decode cX1_enoughQuestions 33 = .ok (.iconst 1, 1) := by decide +kernel
theorem dX1_enoughQuestions_34 : decode cX1_enoughQuestions 34 = .ok (.isub, 1) := by decide +kernel
theorem dX1_enoughQuestions_35 : decode cX1_enoughQuestions 35 = .ok (.invokevirtual 114, 3) := by decide +kernel
theorem dX1_enoughQuestions_38 : decode cX1_enoughQuestions 38 = .ok (.ifCond .eq 5, 3) := by decide +kernel
theorem dX1_enoughQuestions_41 : decode cX1_enoughQuestions 41 = .ok (.iconst 1, 1) := by decide +kernel
theorem dX1_enoughQuestions_42 : decode cX1_enoughQuestions 42 = .ok (.ireturn, 1) := by decide +kernel
theorem dX1_enoughQuestions_43 : decode cX1_enoughQuestions 43 = .ok (.iconst 0, 1) := by decide +kernel
theorem dX1_enoughQuestions_44 : decode cX1_enoughQuestions 44 = .ok (.istore_n 1, 1) := by decide +kernel
theorem dX1_enoughQuestions_45 : decode cX1_enoughQuestions 45 = .ok (.iload_n 1, 1) := by decide +kernel
theorem dX1_enoughQuestions_46 : decode cX1_enoughQuestions 46 = .ok (.bipush 19, 2) := by decide +kernel
theorem dX1_enoughQuestions_48 : decode cX1_enoughQuestions 48 = .ok (.if_icmp .ge 19, 3) := by decide +kernel
theorem dX1_enoughQuestions_51 : decode cX1_enoughQuestions 51 = .ok (.aload_n 0, 1) := by decide +kernel
theorem dX1_enoughQuestions_52 : decode cX1_enoughQuestions 52 = .ok (.iload_n 1, 1) := by decide +kernel
theorem dX1_enoughQuestions_53 : decode cX1_enoughQuestions 53 = .ok (.invokevirtual 118, 3) := by decide +kernel
theorem dX1_enoughQuestions_56 : decode cX1_enoughQuestions 56 = .ok (.ifCond .eq 5, 3) := by decide +kernel
theorem dX1_enoughQuestions_59 : decode cX1_enoughQuestions 59 = .ok (.iconst 2, 1) := by decide +kernel
theorem dX1_enoughQuestions_60 : decode cX1_enoughQuestions 60 = .ok (.ireturn, 1) := by decide +kernel
theorem dX1_enoughQuestions_61 : decode cX1_enoughQuestions 61 = .ok (.iinc 1 1, 3) := by decide +kernel
theorem dX1_enoughQuestions_64 : decode cX1_enoughQuestions 64 = .ok (.goto (-19), 3) := by decide +kernel
theorem dX1_enoughQuestions_67 : decode cX1_enoughQuestions 67 = .ok (.iconst 3, 1) := by decide +kernel
theorem dX1_enoughQuestions_68 : decode cX1_enoughQuestions 68 = .ok (.ireturn, 1) := by decide +kernel
theorem dX1_fillAnswers_0 : decode cX1_fillAnswers 0 = .ok (.iconst 0, 1) := by decide +kernel
theorem dX1_fillAnswers_1 : decode cX1_fillAnswers 1 = .ok (.istore_n 1, 1) := by decide +kernel
theorem dX1_fillAnswers_2 : decode cX1_fillAnswers 2 = .ok (.iload_n 1, 1) := by decide +kernel
theorem dX1_fillAnswers_3 : decode cX1_fillAnswers 3 = .ok (.bipush 19, 2) := by decide +kernel
theorem dX1_fillAnswers_5 : decode cX1_fillAnswers 5 = .ok (.if_icmp .ge 59, 3) := by decide +kernel
theorem dX1_fillAnswers_8 : decode cX1_fillAnswers 8 = .ok (.aload_n 0, 1) := by decide +kernel
theorem dX1_fillAnswers_9 : decode cX1_fillAnswers 9 = .ok (.getfield 35, 3) := by decide +kernel
theorem dX1_fillAnswers_12 : decode cX1_fillAnswers 12 = .ok (.iload_n 1, 1) := by decide +kernel
theorem dX1_fillAnswers_13 : decode cX1_fillAnswers 13 = .ok (.bipush 9, 2) := by decide +kernel
theorem dX1_fillAnswers_15 : decode cX1_fillAnswers 15 = .ok (.isub, 1) := by decide +kernel
theorem dX1_fillAnswers_16 : decode cX1_fillAnswers 16 = .ok (.i2l, 1) := by decide +kernel
theorem dX1_fillAnswers_17 : decode cX1_fillAnswers 17 = .ok (.invokevirtual 52, 3) := by decide +kernel
theorem dX1_fillAnswers_20 : decode cX1_fillAnswers 20 = .ok (.iconst 0, 1) := by decide +kernel
theorem dX1_fillAnswers_21 : decode cX1_fillAnswers 21 = .ok (.istore_n 2, 1) := by decide +kernel
theorem dX1_fillAnswers_22 : decode cX1_fillAnswers 22 = .ok (.iload_n 2, 1) := by decide +kernel
theorem dX1_fillAnswers_23 : decode cX1_fillAnswers 23 = .ok (.aload_n 0, 1) := by decide +kernel
theorem dX1_fillAnswers_24 : decode cX1_fillAnswers 24 = .ok (.getfield 17, 3) := by decide +kernel
theorem dX1_fillAnswers_27 : decode cX1_fillAnswers 27 = .ok (.if_icmp .ge 31, 3) := by decide +kernel
theorem dX1_fillAnswers_30 : decode cX1_fillAnswers 30 = .ok (.aload_n 0, 1) := by decide +kernel
theorem dX1_fillAnswers_31 : decode cX1_fillAnswers 31 = .ok (.getfield 32, 3) := by decide +kernel
theorem dX1_fillAnswers_34 : decode cX1_fillAnswers 34 = .ok (.iload_n 1, 1) := by decide +kernel
theorem dX1_fillAnswers_35 : decode cX1_fillAnswers 35 = .ok (.aaload, 1) := by decide +kernel
theorem dX1_fillAnswers_36 : decode cX1_fillAnswers 36 = .ok (.iload_n 2, 1) := by decide +kernel
theorem dX1_fillAnswers_37 : decode cX1_fillAnswers 37 = .ok (.aload_n 0, 1) := by decide +kernel
theorem dX1_fillAnswers_38 : decode cX1_fillAnswers 38 = .ok (.getfield 35, 3) := by decide +kernel
theorem dX1_fillAnswers_41 : decode cX1_fillAnswers 41 = .ok (.getfield 40, 3) := by decide +kernel
theorem dX1_fillAnswers_44 : decode cX1_fillAnswers 44 = .ok (.aload_n 0, 1) := by decide +kernel
theorem dX1_fillAnswers_45 : decode cX1_fillAnswers 45 = .ok (.getfield 13, 3) := by decide +kernel
theorem dX1_fillAnswers_48 : decode cX1_fillAnswers 48 = .ok (.iload_n 2, 1) := by decide +kernel
theorem dX1_fillAnswers_49 : decode cX1_fillAnswers 49 = .ok (.iaload, 1) := by decide +kernel
theorem dX1_fillAnswers_50 : decode cX1_fillAnswers 50 = .ok (.laload, 1) := by decide +kernel
theorem dX1_fillAnswers_51 : decode cX1_fillAnswers 51 = .ok (.lastore, 1) := by decide +kernel
theorem dX1_fillAnswers_52 : decode cX1_fillAnswers 52 = .ok (.iinc 2 1, 3) := by decide +kernel
theorem dX1_fillAnswers_55 : decode cX1_fillAnswers 55 = .ok (.goto (-33), 3) := by decide +kernel
theorem dX1_fillAnswers_58 : decode cX1_fillAnswers 58 = .ok (.iinc 1 1, 3) := by decide +kernel
theorem dX1_fillAnswers_61 : decode cX1_fillAnswers 61 = .ok (.goto (-59), 3) := by decide +kernel
theorem dX1_fillAnswers_64 : decode cX1_fillAnswers 64 = .ok (.return_, 1) := by decide +kernel
theorem dX1_areGroupsToldApart_0 : decode cX1_areGroupsToldApart 0 = .ok (.iconst 0, 1) := by decide +kernel
theorem dX1_areGroupsToldApart_1 : decode cX1_areGroupsToldApart 1 = .ok (.istore_n 2, 1) := by decide +kernel
theorem dX1_areGroupsToldApart_2 : decode cX1_areGroupsToldApart 2 = .ok (.iload_n 2, 1) := by decide +kernel
theorem dX1_areGroupsToldApart_3 : decode cX1_areGroupsToldApart 3 = .ok (.aload_n 0, 1) := by decide +kernel
theorem dX1_areGroupsToldApart_4 : decode cX1_areGroupsToldApart 4 = .ok (.getfield 17, 3) := by decide +kernel
theorem dX1_areGroupsToldApart_7 : decode cX1_areGroupsToldApart 7 = .ok (.if_icmp .ge 24, 3) := by decide +kernel
theorem dX1_areGroupsToldApart_10 : decode cX1_areGroupsToldApart 10 = .ok (.aload_n 0, 1) := by decide +kernel
theorem dX1_areGroupsToldApart_11 : decode cX1_areGroupsToldApart 11 = .ok (.aload_n 0, 1) := by decide +kernel
theorem dX1_areGroupsToldApart_12 : decode cX1_areGroupsToldApart 12 = .ok (.iload_n 2, 1) := by decide +kernel
theorem dX1_areGroupsToldApart_13 : decode cX1_areGroupsToldApart 13 = .ok (.iload_n 1, 1) := by decide +kernel
theorem dX1_areGroupsToldApart_14 : decode cX1_areGroupsToldApart 14 = .ok (.invokevirtual 121, 3) := by decide +kernel
theorem dX1_areGroupsToldApart_17 : decode cX1_areGroupsToldApart 17 = .ok (.invokevirtual 114, 3) := by decide +kernel
theorem dX1_areGroupsToldApart_20 : decode cX1_areGroupsToldApart 20 = .ok (.ifCond .ne 5, 3) := by decide +kernel
theorem dX1_areGroupsToldApart_23 : decode cX1_areGroupsToldApart 23 = .ok (.iconst 0, 1) := by decide +kernel
theorem dX1_areGroupsToldApart_24 : decode cX1_areGroupsToldApart 24 = .ok (.ireturn, 1) := by decide +kernel
theorem dX1_areGroupsToldApart_25 : decode cX1_areGroupsToldApart 25 = .ok (.iinc 2 1, 3) := by decide +kernel
theorem dX1_areGroupsToldApart_28 : decode cX1_areGroupsToldApart 28 = .ok (.goto (-26), 3) := by decide +kernel
theorem dX1_areGroupsToldApart_31 : decode cX1_areGroupsToldApart 31 = .ok (.iconst 1, 1) := by decide +kernel
theorem dX1_areGroupsToldApart_32 : decode cX1_areGroupsToldApart 32 = .ok (.ireturn, 1) := by decide +kernel
theorem dX1_groupOf_0 : decode cX1_groupOf 0 = .ok (.iconst 0, 1) := by decide +kernel
theorem dX1_groupOf_1 : decode cX1_groupOf 1 = .ok (.istore_n 3, 1) := by decide +kernel
theorem dX1_groupOf_2 : decode cX1_groupOf 2 = .ok (.iconst 0, 1) := by decide +kernel
theorem dX1_groupOf_3 : decode cX1_groupOf 3 = .ok (.istore 4, 2) := by decide +kernel
theorem dX1_groupOf_5 : decode cX1_groupOf 5 = .ok (.iload 4, 2) := by decide +kernel
theorem dX1_groupOf_7 : decode cX1_groupOf 7 = .ok (.aload_n 0, 1) := by decide +kernel
theorem dX1_groupOf_8 : decode cX1_groupOf 8 = .ok (.getfield 17, 3) := by decide +kernel
theorem dX1_groupOf_11 : decode cX1_groupOf 11 = .ok (.if_icmp .ge 45, 3) := by decide +kernel
theorem dX1_groupOf_14 : decode cX1_groupOf 14 = .ok (.aload_n 0, 1) := by decide +kernel
theorem dX1_groupOf_15 : decode cX1_groupOf 15 = .ok (.getfield 32, 3) := by decide +kernel
theorem dX1_groupOf_18 : decode cX1_groupOf 18 = .ok (.iload_n 2, 1) := by decide +kernel
theorem dX1_groupOf_19 : decode cX1_groupOf 19 = .ok (.aaload, 1) := by decide +kernel
theorem dX1_groupOf_20 : decode cX1_groupOf 20 = .ok (.iload 4, 2) := by decide +kernel
theorem dX1_groupOf_22 : decode cX1_groupOf 22 = .ok (.laload, 1) := by decide +kernel
theorem dX1_groupOf_23 : decode cX1_groupOf 23 = .ok (.aload_n 0, 1) := by decide +kernel
theorem dX1_groupOf_24 : decode cX1_groupOf 24 = .ok (.getfield 32, 3) := by decide +kernel
theorem dX1_groupOf_27 : decode cX1_groupOf 27 = .ok (.iload_n 2, 1) := by decide +kernel
theorem dX1_groupOf_28 : decode cX1_groupOf 28 = .ok (.aaload, 1) := by decide +kernel
theorem dX1_groupOf_29 : decode cX1_groupOf 29 = .ok (.iload_n 1, 1) := by decide +kernel
theorem dX1_groupOf_30 : decode cX1_groupOf 30 = .ok (.laload, 1) := by decide +kernel
theorem dX1_groupOf_31 : decode cX1_groupOf 31 = .ok (.lcmp, 1) := by decide +kernel
theorem dX1_groupOf_32 : decode cX1_groupOf 32 = .ok (.ifCond .ne 18, 3) := by decide +kernel
theorem dX1_groupOf_35 : decode cX1_groupOf 35 = .ok (.iload 4, 2) := by decide +kernel
theorem dX1_groupOf_37 : decode cX1_groupOf 37 = .ok (.iload_n 1, 1) := by decide +kernel
theorem dX1_groupOf_38 : decode cX1_groupOf 38 = .ok (.if_icmp .ge 5, 3) := by decide +kernel
theorem dX1_groupOf_41 : decode cX1_groupOf 41 = .ok (.iconst 0, 1) := by decide +kernel
theorem dX1_groupOf_42 : decode cX1_groupOf 42 = .ok (.ireturn, 1) := by decide +kernel
theorem dX1_groupOf_43 : decode cX1_groupOf 43 = .ok (.iload_n 3, 1) := by decide +kernel
theorem dX1_groupOf_44 : decode cX1_groupOf 44 = .ok (.iconst 1, 1) := by decide +kernel
theorem dX1_groupOf_45 : decode cX1_groupOf 45 = .ok (.iload 4, 2) := by decide +kernel
theorem dX1_groupOf_47 : decode cX1_groupOf 47 = .ok (.ishl, 1) := by decide +kernel
theorem dX1_groupOf_48 : decode cX1_groupOf 48 = .ok (.ior, 1) := by decide +kernel
theorem dX1_groupOf_49 : decode cX1_groupOf 49 = .ok (.istore_n 3, 1) := by decide +kernel
theorem dX1_groupOf_50 : decode cX1_groupOf 50 = .ok (.iinc 4 1, 3) := by decide +kernel
theorem dX1_groupOf_53 : decode cX1_groupOf 53 = .ok (.goto (-48), 3) := by decide +kernel
theorem dX1_groupOf_56 : decode cX1_groupOf 56 = .ok (.iload_n 3, 1) := by decide +kernel
theorem dX1_groupOf_57 : decode cX1_groupOf 57 = .ok (.ireturn, 1) := by decide +kernel
theorem dX1_isToldApart_0 : decode cX1_isToldApart 0 = .ok (.iconst 0, 1) := by decide +kernel
theorem dX1_isToldApart_1 : decode cX1_isToldApart 1 = .ok (.istore_n 2, 1) := by decide +kernel
theorem dX1_isToldApart_2 : decode cX1_isToldApart 2 = .ok (.iload_n 2, 1) := by decide +kernel
theorem dX1_isToldApart_3 : decode cX1_isToldApart 3 = .ok (.bipush 19, 2) := by decide +kernel
theorem dX1_isToldApart_5 : decode cX1_isToldApart 5 = .ok (.if_icmp .ge 20, 3) := by decide +kernel
theorem dX1_isToldApart_8 : decode cX1_isToldApart 8 = .ok (.aload_n 0, 1) := by decide +kernel
theorem dX1_isToldApart_9 : decode cX1_isToldApart 9 = .ok (.iload_n 1, 1) := by decide +kernel
theorem dX1_isToldApart_10 : decode cX1_isToldApart 10 = .ok (.iload_n 2, 1) := by decide +kernel
theorem dX1_isToldApart_11 : decode cX1_isToldApart 11 = .ok (.invokevirtual 124, 3) := by decide +kernel
theorem dX1_isToldApart_14 : decode cX1_isToldApart 14 = .ok (.ifCond .eq 5, 3) := by decide +kernel
theorem dX1_isToldApart_17 : decode cX1_isToldApart 17 = .ok (.iconst 1, 1) := by decide +kernel
theorem dX1_isToldApart_18 : decode cX1_isToldApart 18 = .ok (.ireturn, 1) := by decide +kernel
theorem dX1_isToldApart_19 : decode cX1_isToldApart 19 = .ok (.iinc 2 1, 3) := by decide +kernel
theorem dX1_isToldApart_22 : decode cX1_isToldApart 22 = .ok (.goto (-20), 3) := by decide +kernel
theorem dX1_isToldApart_25 : decode cX1_isToldApart 25 = .ok (.iconst 0, 1) := by decide +kernel
theorem dX1_isToldApart_26 : decode cX1_isToldApart 26 = .ok (.ireturn, 1) := by decide +kernel
theorem dX1_isApartBy_0 : decode cX1_isApartBy 0 = .ok (.iconst 0, 1) := by decide +kernel
theorem dX1_isApartBy_1 : decode cX1_isApartBy 1 = .ok (.istore_n 3, 1) := by decide +kernel
theorem dX1_isApartBy_2 : decode cX1_isApartBy 2 = .ok (.iload_n 3, 1) := by decide +kernel
theorem dX1_isApartBy_3 : decode cX1_isApartBy 3 = .ok (.aload_n 0, 1) := by decide +kernel
theorem dX1_isApartBy_4 : decode cX1_isApartBy 4 = .ok (.getfield 17, 3) := by decide +kernel
theorem dX1_isApartBy_7 : decode cX1_isApartBy 7 = .ok (.if_icmp .ge 60, 3) := by decide +kernel
theorem dX1_isApartBy_10 : decode cX1_isApartBy 10 = .ok (.iconst 0, 1) := by decide +kernel
theorem dX1_isApartBy_11 : decode cX1_isApartBy 11 = .ok (.istore 4, 2) := by decide +kernel
theorem dX1_isApartBy_13 : decode cX1_isApartBy 13 = .ok (.iload 4, 2) := by decide +kernel
theorem dX1_isApartBy_15 : decode cX1_isApartBy 15 = .ok (.iload_n 3, 1) := by decide +kernel
theorem dX1_isApartBy_16 : decode cX1_isApartBy 16 = .ok (.if_icmp .ge 45, 3) := by decide +kernel
theorem dX1_isApartBy_19 : decode cX1_isApartBy 19 = .ok (.iload_n 1, 1) := by decide +kernel
theorem dX1_isApartBy_20 : decode cX1_isApartBy 20 = .ok (.iload_n 3, 1) := by decide +kernel
theorem dX1_isApartBy_21 : decode cX1_isApartBy 21 = .ok (.ishr, 1) := by decide +kernel
theorem dX1_isApartBy_22 : decode cX1_isApartBy 22 = .ok (.iload_n 1, 1) := by decide +kernel
theorem dX1_isApartBy_23 : decode cX1_isApartBy 23 = .ok (.iload 4, 2) := by decide +kernel
theorem dX1_isApartBy_25 : decode cX1_isApartBy 25 = .ok (.ishr, 1) := by decide +kernel
theorem dX1_isApartBy_26 : decode cX1_isApartBy 26 = .ok (.iand, 1) := by decide +kernel
theorem dX1_isApartBy_27 : decode cX1_isApartBy 27 = .ok (.iconst 1, 1) := by decide +kernel
theorem dX1_isApartBy_28 : decode cX1_isApartBy 28 = .ok (.iand, 1) := by decide +kernel
theorem dX1_isApartBy_29 : decode cX1_isApartBy 29 = .ok (.ifCond .eq 26, 3) := by decide +kernel
theorem dX1_isApartBy_32 : decode cX1_isApartBy 32 = .ok (.aload_n 0, 1) := by decide +kernel
theorem dX1_isApartBy_33 : decode cX1_isApartBy 33 = .ok (.getfield 32, 3) := by decide +kernel
theorem dX1_isApartBy_36 : decode cX1_isApartBy 36 = .ok (.iload_n 2, 1) := by decide +kernel
theorem dX1_isApartBy_37 : decode cX1_isApartBy 37 = .ok (.aaload, 1) := by decide +kernel
theorem dX1_isApartBy_38 : decode cX1_isApartBy 38 = .ok (.iload_n 3, 1) := by decide +kernel
theorem dX1_isApartBy_39 : decode cX1_isApartBy 39 = .ok (.laload, 1) := by decide +kernel
theorem dX1_isApartBy_40 : decode cX1_isApartBy 40 = .ok (.aload_n 0, 1) := by decide +kernel
theorem dX1_isApartBy_41 : decode cX1_isApartBy 41 = .ok (.getfield 32, 3) := by decide +kernel
theorem dX1_isApartBy_44 : decode cX1_isApartBy 44 = .ok (.iload_n 2, 1) := by decide +kernel
theorem dX1_isApartBy_45 : decode cX1_isApartBy 45 = .ok (.aaload, 1) := by decide +kernel
theorem dX1_isApartBy_46 : decode cX1_isApartBy 46 = .ok (.iload 4, 2) := by decide +kernel
theorem dX1_isApartBy_48 : decode cX1_isApartBy 48 = .ok (.laload, 1) := by decide +kernel
theorem dX1_isApartBy_49 : decode cX1_isApartBy 49 = .ok (.lcmp, 1) := by decide +kernel
theorem dX1_isApartBy_50 : decode cX1_isApartBy 50 = .ok (.ifCond .ne 5, 3) := by decide +kernel
theorem dX1_isApartBy_53 : decode cX1_isApartBy 53 = .ok (.iconst 0, 1) := by decide +kernel
theorem dX1_isApartBy_54 : decode cX1_isApartBy 54 = .ok (.ireturn, 1) := by decide +kernel
theorem dX1_isApartBy_55 : decode cX1_isApartBy 55 = .ok (.iinc 4 1, 3) := by decide +kernel
theorem dX1_isApartBy_58 : decode cX1_isApartBy 58 = .ok (.goto (-45), 3) := by decide +kernel
theorem dX1_isApartBy_61 : decode cX1_isApartBy 61 = .ok (.iinc 3 1, 3) := by decide +kernel
theorem dX1_isApartBy_64 : decode cX1_isApartBy 64 = .ok (.goto (-62), 3) := by decide +kernel
theorem dX1_isApartBy_67 : decode cX1_isApartBy 67 = .ok (.iconst 1, 1) := by decide +kernel
theorem dX1_isApartBy_68 : decode cX1_isApartBy 68 = .ok (.ireturn, 1) := by decide +kernel
theorem dX2_init_0 : decode cX2_init 0 = .ok (.aload_n 0, 1) := by decide +kernel
theorem dX2_init_1 : decode cX2_init 1 = .ok (.invokespecial 7, 3) := by decide +kernel
theorem dX2_init_4 : decode cX2_init 4 = .ok (.aload_n 0, 1) := by decide +kernel
theorem dX2_init_5 : decode cX2_init 5 = .ok (.sipush 402, 3) := by decide +kernel
theorem dX2_init_8 : decode cX2_init 8 = .ok (.newarray .int, 2) := by decide +kernel
theorem dX2_init_10 : decode cX2_init 10 = .ok (.putfield 15, 3) := by decide +kernel
theorem dX2_init_13 : decode cX2_init 13 = .ok (.aload_n 0, 1) := by decide +kernel
theorem dX2_init_14 : decode cX2_init 14 = .ok (.sipush 402, 3) := by decide +kernel
theorem dX2_init_17 : decode cX2_init 17 = .ok (.newarray .int, 2) := by decide +kernel
theorem dX2_init_19 : decode cX2_init 19 = .ok (.putfield 19, 3) := by decide +kernel
theorem dX2_init_22 : decode cX2_init 22 = .ok (.aload_n 0, 1) := by decide +kernel
theorem dX2_init_23 : decode cX2_init 23 = .ok (.iconst 0, 1) := by decide +kernel
theorem dX2_init_24 : decode cX2_init 24 = .ok (.putfield 22, 3) := by decide +kernel
theorem dX2_init_27 : decode cX2_init 27 = .ok (.aload_n 0, 1) := by decide +kernel
theorem dX2_init_28 : decode cX2_init 28 = .ok (.bipush 6, 2) := by decide +kernel
theorem dX2_init_30 : decode cX2_init 30 = .ok (.newarray .int, 2) := by decide +kernel
theorem dX2_init_32 : decode cX2_init 32 = .ok (.putfield 26, 3) := by decide +kernel
theorem dX2_init_35 : decode cX2_init 35 = .ok (.aload_n 0, 1) := by decide +kernel
theorem dX2_init_36 : decode cX2_init 36 = .ok (.bipush 42, 2) := by decide +kernel
theorem dX2_init_38 : decode cX2_init 38 = .ok (.newarray .int, 2) := by decide +kernel
theorem dX2_init_40 : decode cX2_init 40 = .ok (.putfield 29, 3) := by decide +kernel
theorem dX2_init_43 : decode cX2_init 43 = .ok (.return_, 1) := by decide +kernel
theorem dX2_clear_0 : decode cX2_clear 0 = .ok (.aload_n 0, 1) := by decide +kernel
theorem dX2_clear_1 : decode cX2_clear 1 = .ok (.iconst 0, 1) := by decide +kernel
theorem dX2_clear_2 : decode cX2_clear 2 = .ok (.putfield 22, 3) := by decide +kernel
theorem dX2_clear_5 : decode cX2_clear 5 = .ok (.return_, 1) := by decide +kernel
theorem dX2_add_0 : decode cX2_add 0 = .ok (.aload_n 0, 1) := by decide +kernel
theorem dX2_add_1 : decode cX2_add 1 = .ok (.getfield 22, 3) := by decide +kernel
theorem dX2_add_4 : decode cX2_add 4 = .ok (.sipush 402, 3) := by decide +kernel
theorem dX2_add_7 : decode cX2_add 7 = .ok (.if_icmp .lt 7, 3) := by decide +kernel
theorem dX2_add_10 : decode cX2_add 10 = .ok (.sipush 401, 3) := by decide +kernel
theorem dX2_add_13 : decode cX2_add 13 = .ok (.ireturn, 1) := by decide +kernel
theorem dX2_add_14 : decode cX2_add 14 = .ok (.aload_n 0, 1) := by decide +kernel
theorem dX2_add_15 : decode cX2_add 15 = .ok (.getfield 15, 3) := by decide +kernel
theorem dX2_add_18 : decode cX2_add 18 = .ok (.aload_n 0, 1) := by decide +kernel
theorem dX2_add_19 : decode cX2_add 19 = .ok (.getfield 22, 3) := by decide +kernel
theorem dX2_add_22 : decode cX2_add 22 = .ok (.iload_n 1, 1) := by decide +kernel
theorem dX2_add_23 : decode cX2_add 23 = .ok (.iastore, 1) := by decide +kernel
theorem dX2_add_24 : decode cX2_add 24 = .ok (.aload_n 0, 1) := by decide +kernel
theorem dX2_add_25 : decode cX2_add 25 = .ok (.getfield 19, 3) := by decide +kernel
theorem dX2_add_28 : decode cX2_add 28 = .ok (.aload_n 0, 1) := by decide +kernel
theorem dX2_add_29 : decode cX2_add 29 = .ok (.getfield 22, 3) := by decide +kernel
theorem dX2_add_32 : decode cX2_add 32 = .ok (.iload_n 2, 1) := by decide +kernel
theorem dX2_add_33 : decode cX2_add 33 = .ok (.iastore, 1) := by decide +kernel
theorem dX2_add_34 : decode cX2_add 34 = .ok (.aload_n 0, 1) := by decide +kernel
theorem dX2_add_35 : decode cX2_add 35 = .ok (.dup, 1) := by decide +kernel
theorem dX2_add_36 : decode cX2_add 36 = .ok (.getfield 22, 3) := by decide +kernel
theorem dX2_add_39 : decode cX2_add 39 = .ok (.iconst 1, 1) := by decide +kernel
theorem dX2_add_40 : decode cX2_add 40 = .ok (.iadd, 1) := by decide +kernel
theorem dX2_add_41 : decode cX2_add 41 = .ok (.putfield 22, 3) := by decide +kernel
theorem dX2_add_44 : decode cX2_add 44 = .ok (.aload_n 0, 1) := by decide +kernel
theorem dX2_add_45 : decode cX2_add 45 = .ok (.getfield 22, 3) := by decide +kernel
theorem dX2_add_48 : decode cX2_add 48 = .ok (.iconst 1, 1) := by decide +kernel
theorem dX2_add_49 : decode cX2_add 49 = .ok (.isub, 1) := by decide +kernel
theorem dX2_add_50 : decode cX2_add 50 = .ok (.ireturn, 1) := by decide +kernel
theorem dX2_copy_0 : decode cX2_copy 0 = .ok (.aload_n 0, 1) := by decide +kernel
theorem dX2_copy_1 : decode cX2_copy 1 = .ok (.aload_n 1, 1) := by decide +kernel
theorem dX2_copy_2 : decode cX2_copy 2 = .ok (.getfield 22, 3) := by decide +kernel
theorem dX2_copy_5 : decode cX2_copy 5 = .ok (.putfield 22, 3) := by decide +kernel
theorem dX2_copy_8 : decode cX2_copy 8 = .ok (.aload_n 1, 1) := by decide +kernel
theorem dX2_copy_9 : decode cX2_copy 9 = .ok (.getfield 15, 3) := by decide +kernel
theorem dX2_copy_12 : decode cX2_copy 12 = .ok (.iconst 0, 1) := by decide +kernel
theorem dX2_copy_13 : decode cX2_copy 13 = .ok (.aload_n 0, 1) := by decide +kernel
theorem dX2_copy_14 : decode cX2_copy 14 = .ok (.getfield 15, 3) := by decide +kernel
theorem dX2_copy_17 : decode cX2_copy 17 = .ok (.iconst 0, 1) := by decide +kernel
theorem dX2_copy_18 : decode cX2_copy 18 = .ok (.sipush 402, 3) := by decide +kernel
theorem dX2_copy_21 : decode cX2_copy 21 = .ok (.invokestatic 32, 3) := by decide +kernel
theorem dX2_copy_24 : decode cX2_copy 24 = .ok (.aload_n 1, 1) := by decide +kernel
theorem dX2_copy_25 : decode cX2_copy 25 = .ok (.getfield 19, 3) := by decide +kernel
theorem dX2_copy_28 : decode cX2_copy 28 = .ok (.iconst 0, 1) := by decide +kernel
theorem dX2_copy_29 : decode cX2_copy 29 = .ok (.aload_n 0, 1) := by decide +kernel
theorem dX2_copy_30 : decode cX2_copy 30 = .ok (.getfield 19, 3) := by decide +kernel
theorem dX2_copy_33 : decode cX2_copy 33 = .ok (.iconst 0, 1) := by decide +kernel
theorem dX2_copy_34 : decode cX2_copy 34 = .ok (.sipush 402, 3) := by decide +kernel
theorem dX2_copy_37 : decode cX2_copy 37 = .ok (.invokestatic 32, 3) := by decide +kernel
theorem dX2_copy_40 : decode cX2_copy 40 = .ok (.return_, 1) := by decide +kernel
theorem dX2_branchHere_0 : decode cX2_branchHere 0 = .ok (.iload_n 1, 1) := by decide +kernel
theorem dX2_branchHere_1 : decode cX2_branchHere 1 = .ok (.ifCond .lt 20, 3) := by decide +kernel
theorem dX2_branchHere_4 : decode cX2_branchHere 4 = .ok (.iload_n 1, 1) := by decide +kernel
theorem dX2_branchHere_5 : decode cX2_branchHere 5 = .ok (.sipush 402, 3) := by decide +kernel
theorem dX2_branchHere_8 : decode cX2_branchHere 8 = .ok (.if_icmp .ge 13, 3) := by decide +kernel
theorem dX2_branchHere_11 : decode cX2_branchHere 11 = .ok (.aload_n 0, 1) := by decide +kernel
theorem dX2_branchHere_12 : decode cX2_branchHere 12 = .ok (.getfield 19, 3) := by decide +kernel
theorem dX2_branchHere_15 : decode cX2_branchHere 15 = .ok (.iload_n 1, 1) := by decide +kernel
theorem dX2_branchHere_16 : decode cX2_branchHere 16 = .ok (.aload_n 0, 1) := by decide +kernel
theorem dX2_branchHere_17 : decode cX2_branchHere 17 = .ok (.getfield 22, 3) := by decide +kernel
theorem dX2_branchHere_20 : decode cX2_branchHere 20 = .ok (.iastore, 1) := by decide +kernel
theorem dX2_branchHere_21 : decode cX2_branchHere 21 = .ok (.return_, 1) := by decide +kernel
theorem dX2_numberAt_0 : decode cX2_numberAt 0 = .ok (.aload_n 0, 1) := by decide +kernel
theorem dX2_numberAt_1 : decode cX2_numberAt 1 = .ok (.iload_n 1, 1) := by decide +kernel
theorem dX2_numberAt_2 : decode cX2_numberAt 2 = .ok (.iload_n 2, 1) := by decide +kernel
theorem dX2_numberAt_3 : decode cX2_numberAt 3 = .ok (.iload_n 3, 1) := by decide +kernel
theorem dX2_numberAt_4 : decode cX2_numberAt 4 = .ok (.iconst 0, 1) := by decide +kernel
theorem dX2_numberAt_5 : decode cX2_numberAt 5 = .ok (.iconst 0, 1) := by decide +kernel
theorem dX2_numberAt_6 : decode cX2_numberAt 6 = .ok (.iconst 0, 1) := by decide +kernel
theorem dX2_numberAt_7 : decode cX2_numberAt 7 = .ok (.invokevirtual 38, 3) := by decide +kernel
theorem dX2_numberAt_10 : decode cX2_numberAt 10 = .ok (.bipush (-99), 2) := by decide +kernel
theorem dX2_numberAt_12 : decode cX2_numberAt 12 = .ok (.bipush 99, 2) := by decide +kernel
theorem dX2_numberAt_14 : decode cX2_numberAt 14 = .ok (.aload_n 0, 1) := by decide +kernel
theorem dX2_numberAt_15 : decode cX2_numberAt 15 = .ok (.invokevirtual 42, 3) := by decide +kernel
theorem dX2_numberAt_18 : decode cX2_numberAt 18 = .ok (.invokestatic 46, 3) := by decide +kernel
theorem dX2_numberAt_21 : decode cX2_numberAt 21 = .ok (.invokestatic 52, 3) := by decide +kernel
theorem dX2_numberAt_24 : decode cX2_numberAt 24 = .ok (.ireturn, 1) := by decide +kernel
theorem dX2_question_0 : decode cX2_question 0 = .ok (.aload_n 0, 1) := by decide +kernel
theorem dX2_question_1 : decode cX2_question 1 = .ok (.iconst 0, 1) := by decide +kernel
theorem dX2_question_2 : decode cX2_question 2 = .ok (.iconst 0, 1) := by decide +kernel
theorem dX2_question_3 : decode cX2_question 3 = .ok (.iconst 0, 1) := by decide +kernel
theorem dX2_question_4 : decode cX2_question 4 = .ok (.iload_n 1, 1) := by decide +kernel
theorem dX2_question_5 : decode cX2_question 5 = .ok (.lload_n 2, 1) := by decide +kernel
theorem dX2_question_6 : decode cX2_question 6 = .ok (.ldc2_w 55, 3) := by decide +kernel
theorem dX2_question_9 : decode cX2_question 9 = .ok (.lrem, 1) := by decide +kernel
theorem dX2_question_10 : decode cX2_question 10 = .ok (.l2i, 1) := by decide +kernel
theorem dX2_question_11 : decode cX2_question 11 = .ok (.iload 4, 2) := by decide +kernel
theorem dX2_question_13 : decode cX2_question 13 = .ok (.invokevirtual 38, 3) := by decide +kernel
theorem dX2_question_16 : decode cX2_question 16 = .ok (.bipush (-99), 2) := by decide +kernel
theorem dX2_question_18 : decode cX2_question 18 = .ok (.bipush 99, 2) := by decide +kernel
theorem dX2_question_20 : decode cX2_question 20 = .ok (.aload_n 0, 1) := by decide +kernel
theorem dX2_question_21 : decode cX2_question 21 = .ok (.invokevirtual 42, 3) := by decide +kernel
theorem dX2_question_24 : decode cX2_question 24 = .ok (.invokestatic 46, 3) := by decide +kernel
theorem dX2_question_27 : decode cX2_question 27 = .ok (.invokestatic 52, 3) := by decide +kernel
theorem dX2_question_30 : decode cX2_question 30 = .ok (.ireturn, 1) := by decide +kernel
theorem dX2_look_0 : decode cX2_look 0 = .ok (.aload_n 0, 1) := by decide +kernel
theorem dX2_look_1 : decode cX2_look 1 = .ok (.getfield 26, 3) := by decide +kernel
theorem dX2_look_4 : decode cX2_look 4 = .ok (.iconst 0, 1) := by decide +kernel
theorem dX2_look_5 : decode cX2_look 5 = .ok (.iload_n 1, 1) := by decide +kernel
theorem dX2_look_6 : decode cX2_look 6 = .ok (.iastore, 1) := by decide +kernel
theorem dX2_look_7 : decode cX2_look 7 = .ok (.aload_n 0, 1) := by decide +kernel
theorem dX2_look_8 : decode cX2_look 8 = .ok (.getfield 26, 3) := by decide +kernel
theorem dX2_look_11 : decode cX2_look 11 = .ok (.iconst 1, 1) := by decide +kernel
theorem dX2_look_12 : decode cX2_look 12 = .ok (.iload_n 2, 1) := by decide +kernel
theorem dX2_look_13 : decode cX2_look 13 = .ok (.iastore, 1) := by decide +kernel
theorem dX2_look_14 : decode cX2_look 14 = .ok (.aload_n 0, 1) := by decide +kernel
theorem dX2_look_15 : decode cX2_look 15 = .ok (.getfield 26, 3) := by decide +kernel
theorem dX2_look_18 : decode cX2_look 18 = .ok (.iconst 2, 1) := by decide +kernel
theorem dX2_look_19 : decode cX2_look 19 = .ok (.iload_n 3, 1) := by decide +kernel
theorem dX2_look_20 : decode cX2_look 20 = .ok (.iastore, 1) := by decide +kernel
theorem dX2_look_21 : decode cX2_look 21 = .ok (.aload_n 0, 1) := by decide +kernel
theorem dX2_look_22 : decode cX2_look 22 = .ok (.getfield 26, 3) := by decide +kernel
theorem dX2_look_25 : decode cX2_look 25 = .ok (.iconst 3, 1) := by decide +kernel
theorem dX2_look_26 : decode cX2_look 26 = .ok (.iload 4, 2) := by decide +kernel
theorem dX2_look_28 : decode cX2_look 28 = .ok (.iastore, 1) := by decide +kernel
theorem dX2_look_29 : decode cX2_look 29 = .ok (.aload_n 0, 1) := by decide +kernel
theorem dX2_look_30 : decode cX2_look 30 = .ok (.getfield 26, 3) := by decide +kernel
theorem dX2_look_33 : decode cX2_look 33 = .ok (.iconst 4, 1) := by decide +kernel
theorem dX2_look_34 : decode cX2_look 34 = .ok (.iload 5, 2) := by decide +kernel
theorem dX2_look_36 : decode cX2_look 36 = .ok (.iastore, 1) := by decide +kernel
theorem dX2_look_37 : decode cX2_look 37 = .ok (.aload_n 0, 1) := by decide +kernel
theorem dX2_look_38 : decode cX2_look 38 = .ok (.getfield 26, 3) := by decide +kernel
theorem dX2_look_41 : decode cX2_look 41 = .ok (.iconst 5, 1) := by decide +kernel
theorem dX2_look_42 : decode cX2_look 42 = .ok (.iload 6, 2) := by decide +kernel
theorem dX2_look_44 : decode cX2_look 44 = .ok (.iastore, 1) := by decide +kernel
theorem dX2_look_45 : decode cX2_look 45 = .ok (.return_, 1) := by decide +kernel
theorem dX2_worth_0 : decode cX2_worth 0 = .ok (.iconst 0, 1) := by decide +kernel
theorem dX2_worth_1 : decode cX2_worth 1 = .ok (.istore_n 1, 1) := by decide +kernel
theorem dX2_worth_2 : decode cX2_worth 2 = .ok (.iconst 0, 1) := by decide +kernel
theorem dX2_worth_3 : decode cX2_worth 3 = .ok (.istore_n 2, 1) := by decide +kernel
theorem dX2_worth_4 : decode cX2_worth 4 = .ok (.iconst 0, 1) := by decide +kernel
theorem dX2_worth_5 : decode cX2_worth 5 = .ok (.istore_n 3, 1) := by decide +kernel
theorem dX2_worth_6 : decode cX2_worth 6 = .ok (.iload_n 3, 1) := by decide +kernel
theorem dX2_worth_7 : decode cX2_worth 7 = .ok (.sipush 402, 3) := by decide +kernel
theorem dX2_worth_10 : decode cX2_worth 10 = .ok (.if_icmp .ge 221, 3) := by decide +kernel
theorem dX2_worth_13 : decode cX2_worth 13 = .ok (.iload_n 2, 1) := by decide +kernel
theorem dX2_worth_14 : decode cX2_worth 14 = .ok (.aload_n 0, 1) := by decide +kernel
theorem dX2_worth_15 : decode cX2_worth 15 = .ok (.getfield 22, 3) := by decide +kernel
theorem dX2_worth_18 : decode cX2_worth 18 = .ok (.if_icmp .ge 213, 3) := by decide +kernel
theorem dX2_worth_21 : decode cX2_worth 21 = .ok (.iload_n 1, 1) := by decide +kernel
theorem dX2_worth_22 : decode cX2_worth 22 = .ok (.bipush 42, 2) := by decide +kernel
theorem dX2_worth_24 : decode cX2_worth 24 = .ok (.if_icmp .ge 207, 3) := by decide +kernel
theorem dX2_worth_27 : decode cX2_worth 27 = .ok (.aload_n 0, 1) := by decide +kernel
theorem dX2_worth_28 : decode cX2_worth 28 = .ok (.getfield 15, 3) := by decide +kernel
theorem dX2_worth_31 : decode cX2_worth 31 = .ok (.iload_n 2, 1) := by decide +kernel
theorem dX2_worth_32 : decode cX2_worth 32 = .ok (.iaload, 1) := by decide +kernel
theorem dX2_worth_33 : decode cX2_worth 33 = .ok (.istore 4, 2) := by decide +kernel
theorem dX2_worth_35 : decode cX2_worth 35 = .ok (.aload_n 0, 1) := by decide +kernel
theorem dX2_worth_36 : decode cX2_worth 36 = .ok (.getfield 19, 3) := by decide +kernel
theorem dX2_worth_39 : decode cX2_worth 39 = .ok (.iload_n 2, 1) := by decide +kernel
theorem dX2_worth_40 : decode cX2_worth 40 = .ok (.iaload, 1) := by decide +kernel
theorem dX2_worth_41 : decode cX2_worth 41 = .ok (.istore 5, 2) := by decide +kernel
theorem dX2_worth_43 : decode cX2_worth 43 = .ok (.iinc 2 1, 3) := by decide +kernel
theorem dX2_worth_46 : decode cX2_worth 46 = .ok (.iload 4, 2) := by decide +kernel
theorem dX2_worth_48 : decode cX2_worth 48 = .ok (.iconst 1, 1) := by decide +kernel
theorem dX2_worth_49 : decode cX2_worth 49 = .ok (.if_icmp .ne 17, 3) := by decide +kernel
theorem dX2_worth_52 : decode cX2_worth 52 = .ok (.aload_n 0, 1) := by decide +kernel
theorem dX2_worth_53 : decode cX2_worth 53 = .ok (.getfield 29, 3) := by decide +kernel
theorem dX2_worth_56 : decode cX2_worth 56 = .ok (.iload_n 1, 1) := by decide +kernel
theorem dX2_worth_57 : decode cX2_worth 57 = .ok (.iload 5, 2) := by decide +kernel
theorem dX2_worth_59 : decode cX2_worth 59 = .ok (.iastore, 1) := by decide +kernel
theorem dX2_worth_60 : decode cX2_worth 60 = .ok (.iinc 1 1, 3) := by decide +kernel
theorem dX2_worth_63 : decode cX2_worth 63 = .ok (.goto 162, 3) := by decide +kernel
theorem dX2_worth_66 : decode cX2_worth 66 = .ok (.iload 4, 2) := by decide +kernel
theorem dX2_worth_68 : decode cX2_worth 68 = .ok (.iconst 2, 1) := by decide +kernel
theorem dX2_worth_69 : decode cX2_worth 69 = .ok (.if_icmp .ne 38, 3) := by decide +kernel
theorem dX2_worth_72 : decode cX2_worth 72 = .ok (.aload_n 0, 1) := by decide +kernel
theorem dX2_worth_73 : decode cX2_worth 73 = .ok (.getfield 29, 3) := by decide +kernel
theorem dX2_worth_76 : decode cX2_worth 76 = .ok (.iload_n 1, 1) := by decide +kernel
theorem dX2_worth_77 : decode cX2_worth 77 = .ok (.iload 5, 2) := by decide +kernel
theorem dX2_worth_79 : decode cX2_worth 79 = .ok (.ifCond .lt 20, 3) := by decide +kernel
theorem dX2_worth_82 : decode cX2_worth 82 = .ok (.iload 5, 2) := by decide +kernel
theorem dX2_worth_84 : decode cX2_worth 84 = .ok (.bipush 6, 2) := by decide +kernel
theorem dX2_worth_86 : decode cX2_worth 86 = .ok (.if_icmp .ge 13, 3) := by decide +kernel
theorem dX2_worth_89 : decode cX2_worth 89 = .ok (.aload_n 0, 1) := by decide +kernel
theorem dX2_worth_90 : decode cX2_worth 90 = .ok (.getfield 26, 3) := by decide +kernel
theorem dX2_worth_93 : decode cX2_worth 93 = .ok (.iload 5, 2) := by decide +kernel
theorem dX2_worth_95 : decode cX2_worth 95 = .ok (.iaload, 1) := by decide +kernel
theorem dX2_worth_96 : decode cX2_worth 96 = .ok (.goto 4, 3) := by decide +kernel
theorem dX2_worth_99 : decode cX2_worth 99 = .ok (.iconst 0, 1) := by decide +kernel
theorem dX2_worth_100 : decode cX2_worth 100 = .ok (.iastore, 1) := by decide +kernel
theorem dX2_worth_101 : decode cX2_worth 101 = .ok (.iinc 1 1, 3) := by decide +kernel
theorem dX2_worth_104 : decode cX2_worth 104 = .ok (.goto 121, 3) := by decide +kernel
theorem dX2_worth_107 : decode cX2_worth 107 = .ok (.iload 4, 2) := by decide +kernel
theorem dX2_worth_109 : decode cX2_worth 109 = .ok (.iconst 4, 1) := by decide +kernel
theorem dX2_worth_110 : decode cX2_worth 110 = .ok (.if_icmp .ne 20, 3) := by decide +kernel
theorem dX2_worth_113 : decode cX2_worth 113 = .ok (.iload_n 1, 1) := by decide +kernel
theorem dX2_worth_114 : decode cX2_worth 114 = .ok (.ifCond .le 14, 3) := by decide +kernel
theorem dX2_worth_117 : decode cX2_worth 117 = .ok (.aload_n 0, 1) := by decide +kernel
theorem dX2_worth_118 : decode cX2_worth 118 = .ok (.getfield 29, 3) := by decide +kernel
theorem dX2_worth_121 : decode cX2_worth 121 = .ok (.iload_n 1, 1) := by decide +kernel
theorem dX2_worth_122 : decode cX2_worth 122 = .ok (.iconst 1, 1) := by decide +kernel
theorem dX2_worth_123 : decode cX2_worth 123 = .ok (.isub, 1) := by decide +kernel
theorem dX2_worth_124 : decode cX2_worth 124 = .ok (.iaload, 1) := by decide +kernel
theorem dX2_worth_125 : decode cX2_worth 125 = .ok (.goto 4, 3) := by decide +kernel
theorem dX2_worth_128 : decode cX2_worth 128 = .ok (.iconst 0, 1) := by decide +kernel
theorem dX2_worth_129 : decode cX2_worth 129 = .ok (.ireturn, 1) := by decide +kernel
theorem dX2_worth_130 : decode cX2_worth 130 = .ok (.iload_n 1, 1) := by decide +kernel
theorem dX2_worth_131 : decode cX2_worth 131 = .ok (.iconst 2, 1) := by decide +kernel
theorem dX2_worth_132 : decode cX2_worth 132 = .ok (.if_icmp .ge 5, 3) := by decide +kernel
theorem dX2_worth_135 : decode cX2_worth 135 = .ok (.iconst 0, 1) := by decide +kernel
theorem dX2_worth_136 : decode cX2_worth 136 = .ok (.ireturn, 1) := by decide +kernel
theorem dX2_worth_137 : decode cX2_worth 137 = .ok (.iload 4, 2) := by decide +kernel
theorem dX2_worth_139 : decode cX2_worth 139 = .ok (.iconst 3, 1) := by decide +kernel
theorem dX2_worth_140 : decode cX2_worth 140 = .ok (.if_icmp .ne 37, 3) := by decide +kernel
theorem dX2_worth_143 : decode cX2_worth 143 = .ok (.iinc 1 (-2), 3) := by decide +kernel
theorem dX2_worth_146 : decode cX2_worth 146 = .ok (.aload_n 0, 1) := by decide +kernel
theorem dX2_worth_147 : decode cX2_worth 147 = .ok (.getfield 29, 3) := by decide +kernel
theorem dX2_worth_150 : decode cX2_worth 150 = .ok (.iload_n 1, 1) := by decide +kernel
theorem dX2_worth_151 : decode cX2_worth 151 = .ok (.iaload, 1) := by decide +kernel
theorem dX2_worth_152 : decode cX2_worth 152 = .ok (.aload_n 0, 1) := by decide +kernel
theorem dX2_worth_153 : decode cX2_worth 153 = .ok (.getfield 29, 3) := by decide +kernel
theorem dX2_worth_156 : decode cX2_worth 156 = .ok (.iload_n 1, 1) := by decide +kernel
theorem dX2_worth_157 : decode cX2_worth 157 = .ok (.iconst 1, 1) := by decide +kernel
theorem dX2_worth_158 : decode cX2_worth 158 = .ok (.iadd, 1) := by decide +kernel
theorem dX2_worth_159 : decode cX2_worth 159 = .ok (.iaload, 1) := by decide +kernel
theorem dX2_worth_160 : decode cX2_worth 160 = .ok (.if_icmp .ge 7, 3) := by decide +kernel
theorem dX2_worth_163 : decode cX2_worth 163 = .ok (.iload_n 2, 1) := by decide +kernel
theorem dX2_worth_164 : decode cX2_worth 164 = .ok (.goto 9, 3) := by decide +kernel
theorem dX2_worth_167 : decode cX2_worth 167 = .ok (.iload_n 2, 1) := by decide +kernel
theorem dX2_worth_168 : decode cX2_worth 168 = .ok (.iload 5, 2) := by decide +kernel
theorem dX2_worth_170 : decode cX2_worth 170 = .ok (.invokestatic 52, 3) := by decide +kernel
theorem dX2_worth_173 : decode cX2_worth 173 = .ok (.istore_n 2, 1) := by decide +kernel
theorem dX2_worth_174 : decode cX2_worth 174 = .ok (.goto 51, 3) := by decide +kernel
theorem dX2_worth_177 : decode cX2_worth 177 = .ok (.iinc 1 (-1), 3) := by decide +kernel
theorem dX2_worth_180 : decode cX2_worth 180 = .ok (.iload 4, 2) := by decide +kernel
theorem dX2_worth_182 : decode cX2_worth 182 = .ok (.bipush 47, 2) := by decide +kernel
theorem dX2_worth_184 : decode cX2_worth 184 = .ok (.if_icmp .ne 14, 3) := by decide +kernel
theorem dX2_worth_187 : decode cX2_worth 187 = .ok (.aload_n 0, 1) := by decide +kernel
theorem dX2_worth_188 : decode cX2_worth 188 = .ok (.getfield 29, 3) := by decide +kernel
theorem dX2_worth_191 : decode cX2_worth 191 = .ok (.iload_n 1, 1) := by decide +kernel
theorem dX2_worth_192 : decode cX2_worth 192 = .ok (.iaload, 1) := by decide +kernel
theorem dX2_worth_193 : decode cX2_worth 193 = .ok (.ifCond .ne 5, 3) := by decide +kernel
theorem dX2_worth_196 : decode cX2_worth 196 = .ok (.iconst 0, 1) := by decide +kernel
theorem dX2_worth_197 : decode cX2_worth 197 = .ok (.ireturn, 1) := by decide +kernel
theorem dX2_worth_198 : decode cX2_worth 198 = .ok (.aload_n 0, 1) := by decide +kernel
theorem dX2_worth_199 : decode cX2_worth 199 = .ok (.getfield 29, 3) := by decide +kernel
theorem dX2_worth_202 : decode cX2_worth 202 = .ok (.iload_n 1, 1) := by decide +kernel
theorem dX2_worth_203 : decode cX2_worth 203 = .ok (.iconst 1, 1) := by decide +kernel
theorem dX2_worth_204 : decode cX2_worth 204 = .ok (.isub, 1) := by decide +kernel
theorem dX2_worth_205 : decode cX2_worth 205 = .ok (.iload 4, 2) := by decide +kernel
theorem dX2_worth_207 : decode cX2_worth 207 = .ok (.aload_n 0, 1) := by decide +kernel
theorem dX2_worth_208 : decode cX2_worth 208 = .ok (.getfield 29, 3) := by decide +kernel
theorem dX2_worth_211 : decode cX2_worth 211 = .ok (.iload_n 1, 1) := by decide +kernel
theorem dX2_worth_212 : decode cX2_worth 212 = .ok (.iconst 1, 1) := by decide +kernel
theorem dX2_worth_213 : decode cX2_worth 213 = .ok (.isub, 1) := by decide +kernel
theorem dX2_worth_214 : decode cX2_worth 214 = .ok (.iaload, 1) := by decide +kernel
theorem dX2_worth_215 : decode cX2_worth 215 = .ok (.aload_n 0, 1) := by decide +kernel
theorem dX2_worth_216 : decode cX2_worth 216 = .ok (.getfield 29, 3) := by decide +kernel
theorem dX2_worth_219 : decode cX2_worth 219 = .ok (.iload_n 1, 1) := by decide +kernel
theorem dX2_worth_220 : decode cX2_worth 220 = .ok (.iaload, 1) := by decide +kernel
theorem dX2_worth_221 : decode cX2_worth 221 = .ok (.invokestatic 57, 3) := by decide +kernel
theorem dX2_worth_224 : decode cX2_worth 224 = .ok (.iastore, 1) := by decide +kernel
theorem dX2_worth_225 : decode cX2_worth 225 = .ok (.iinc 3 1, 3) := by decide +kernel
theorem dX2_worth_228 : decode cX2_worth 228 = .ok (.goto (-222), 3) := by decide +kernel
theorem dX2_worth_231 : decode cX2_worth 231 = .ok (.iconst 0, 1) := by decide +kernel
theorem dX2_worth_232 : decode cX2_worth 232 = .ok (.ireturn, 1) := by decide +kernel
theorem dX2_joined_0 : decode cX2_joined 0 = .ok (.iload_n 0, 1) := by decide +kernel
theorem dX2_joined_1 : decode cX2_joined 1 = .ok (.tableswitch 43 42 45 #[39, 31, 43, 35], 31) := by decide +kernel
theorem dX2_joined_32 : decode cX2_joined 32 = .ok (.iload_n 1, 1) := by decide +kernel
theorem dX2_joined_33 : decode cX2_joined 33 = .ok (.iload_n 2, 1) := by decide +kernel
theorem dX2_joined_34 : decode cX2_joined 34 = .ok (.iadd, 1) := by decide +kernel
theorem dX2_joined_35 : decode cX2_joined 35 = .ok (.ireturn, 1) := by decide +kernel
theorem dX2_joined_36 : decode cX2_joined 36 = .ok (.iload_n 1, 1) := by decide +kernel
theorem dX2_joined_37 : decode cX2_joined 37 = .ok (.iload_n 2, 1) := by decide +kernel
theorem dX2_joined_38 : decode cX2_joined 38 = .ok (.isub, 1) := by decide +kernel
theorem dX2_joined_39 : decode cX2_joined 39 = .ok (.ireturn, 1) := by decide +kernel
theorem dX2_joined_40 : decode cX2_joined 40 = .ok (.iload_n 1, 1) := by decide +kernel
theorem dX2_joined_41 : decode cX2_joined 41 = .ok (.iload_n 2, 1) := by decide +kernel
theorem dX2_joined_42 : decode cX2_joined 42 = .ok (.imul, 1) := by decide +kernel
theorem dX2_joined_43 : decode cX2_joined 43 = .ok (.ireturn, 1) := by decide +kernel
theorem dX2_joined_44 : decode cX2_joined 44 = .ok (.iload_n 2, 1) := by decide +kernel
theorem dX2_joined_45 : decode cX2_joined 45 = .ok (.ifCond .ne 7, 3) := by decide +kernel
theorem dX2_joined_48 : decode cX2_joined 48 = .ok (.iconst 0, 1) := by decide +kernel
theorem dX2_joined_49 : decode cX2_joined 49 = .ok (.goto 6, 3) := by decide +kernel
theorem dX2_joined_52 : decode cX2_joined 52 = .ok (.iload_n 1, 1) := by decide +kernel
theorem dX2_joined_53 : decode cX2_joined 53 = .ok (.iload_n 2, 1) := by decide +kernel
theorem dX2_joined_54 : decode cX2_joined 54 = .ok (.idiv, 1) := by decide +kernel
theorem dX2_joined_55 : decode cX2_joined 55 = .ok (.ireturn, 1) := by decide +kernel
theorem dX3_init_0 : decode cX3_init 0 = .ok (.aload_n 0, 1) := by decide +kernel
theorem dX3_init_1 : decode cX3_init 1 = .ok (.invokespecial 3, 3) := by decide +kernel
theorem dX3_init_4 : decode cX3_init 4 = .ok (.aload_n 0, 1) := by decide +kernel
theorem dX3_init_5 : decode cX3_init 5 = .ok (.new 9, 3) := by decide +kernel
theorem dX3_init_8 : decode cX3_init 8 = .ok (.dup, 1) := by decide +kernel
theorem dX3_init_9 : decode cX3_init 9 = .ok (.invokespecial 11, 3) := by decide +kernel
theorem dX3_init_12 : decode cX3_init 12 = .ok (.putfield 12, 3) := by decide +kernel
theorem dX3_init_15 : decode cX3_init 15 = .ok (.aload_n 0, 1) := by decide +kernel
theorem dX3_init_16 : decode cX3_init 16 = .ok (.iconst 1, 1) := by decide +kernel
theorem dX3_init_17 : decode cX3_init 17 = .ok (.putfield 16, 3) := by decide +kernel
theorem dX3_init_20 : decode cX3_init 20 = .ok (.aload_n 0, 1) := by decide +kernel
theorem dX3_init_21 : decode cX3_init 21 = .ok (.iconst 1, 1) := by decide +kernel
theorem dX3_init_22 : decode cX3_init 22 = .ok (.putfield 20, 3) := by decide +kernel
theorem dX3_init_25 : decode cX3_init 25 = .ok (.aload_n 0, 1) := by decide +kernel
theorem dX3_init_26 : decode cX3_init 26 = .ok (.iconst 1, 1) := by decide +kernel
theorem dX3_init_27 : decode cX3_init 27 = .ok (.putfield 23, 3) := by decide +kernel
theorem dX3_init_30 : decode cX3_init 30 = .ok (.aload_n 0, 1) := by decide +kernel
theorem dX3_init_31 : decode cX3_init 31 = .ok (.bipush 59, 2) := by decide +kernel
theorem dX3_init_33 : decode cX3_init 33 = .ok (.putfield 26, 3) := by decide +kernel
theorem dX3_init_36 : decode cX3_init 36 = .ok (.aload_n 0, 1) := by decide +kernel
theorem dX3_init_37 : decode cX3_init 37 = .ok (.iconst 0, 1) := by decide +kernel
theorem dX3_init_38 : decode cX3_init 38 = .ok (.putfield 30, 3) := by decide +kernel
theorem dX3_init_41 : decode cX3_init 41 = .ok (.aload_n 0, 1) := by decide +kernel
theorem dX3_init_42 : decode cX3_init 42 = .ok (.iconst 0, 1) := by decide +kernel
theorem dX3_init_43 : decode cX3_init 43 = .ok (.putfield 33, 3) := by decide +kernel
theorem dX3_init_46 : decode cX3_init 46 = .ok (.aload_n 0, 1) := by decide +kernel
theorem dX3_init_47 : decode cX3_init 47 = .ok (.iconst 0, 1) := by decide +kernel
theorem dX3_init_48 : decode cX3_init 48 = .ok (.putfield 36, 3) := by decide +kernel
theorem dX3_init_51 : decode cX3_init 51 = .ok (.aload_n 0, 1) := by decide +kernel
theorem dX3_init_52 : decode cX3_init 52 = .ok (.bipush 21, 2) := by decide +kernel
theorem dX3_init_54 : decode cX3_init 54 = .ok (.newarray .int, 2) := by decide +kernel
theorem dX3_init_56 : decode cX3_init 56 = .ok (.putfield 39, 3) := by decide +kernel
theorem dX3_init_59 : decode cX3_init 59 = .ok (.aload_n 0, 1) := by decide +kernel
theorem dX3_init_60 : decode cX3_init 60 = .ok (.iconst 0, 1) := by decide +kernel
theorem dX3_init_61 : decode cX3_init 61 = .ok (.putfield 43, 3) := by decide +kernel
theorem dX3_init_64 : decode cX3_init 64 = .ok (.return_, 1) := by decide +kernel
theorem dX3_begin_0 : decode cX3_begin 0 = .ok (.aload_n 0, 1) := by decide +kernel
theorem dX3_begin_1 : decode cX3_begin 1 = .ok (.getfield 12, 3) := by decide +kernel
theorem dX3_begin_4 : decode cX3_begin 4 = .ok (.invokevirtual 46, 3) := by decide +kernel
theorem dX3_begin_7 : decode cX3_begin 7 = .ok (.aload_n 0, 1) := by decide +kernel
theorem dX3_begin_8 : decode cX3_begin 8 = .ok (.iconst 0, 1) := by decide +kernel
theorem dX3_begin_9 : decode cX3_begin 9 = .ok (.putfield 16, 3) := by decide +kernel
theorem dX3_begin_12 : decode cX3_begin 12 = .ok (.aload_n 0, 1) := by decide +kernel
theorem dX3_begin_13 : decode cX3_begin 13 = .ok (.iconst 1, 1) := by decide +kernel
theorem dX3_begin_14 : decode cX3_begin 14 = .ok (.putfield 20, 3) := by decide +kernel
theorem dX3_begin_17 : decode cX3_begin 17 = .ok (.aload_n 0, 1) := by decide +kernel
theorem dX3_begin_18 : decode cX3_begin 18 = .ok (.iconst 1, 1) := by decide +kernel
theorem dX3_begin_19 : decode cX3_begin 19 = .ok (.putfield 23, 3) := by decide +kernel
theorem dX3_begin_22 : decode cX3_begin 22 = .ok (.aload_n 0, 1) := by decide +kernel
theorem dX3_begin_23 : decode cX3_begin 23 = .ok (.bipush 59, 2) := by decide +kernel
theorem dX3_begin_25 : decode cX3_begin 25 = .ok (.putfield 26, 3) := by decide +kernel
theorem dX3_begin_28 : decode cX3_begin 28 = .ok (.aload_n 0, 1) := by decide +kernel
theorem dX3_begin_29 : decode cX3_begin 29 = .ok (.iconst 0, 1) := by decide +kernel
theorem dX3_begin_30 : decode cX3_begin 30 = .ok (.putfield 30, 3) := by decide +kernel
theorem dX3_begin_33 : decode cX3_begin 33 = .ok (.aload_n 0, 1) := by decide +kernel
theorem dX3_begin_34 : decode cX3_begin 34 = .ok (.iconst 0, 1) := by decide +kernel
theorem dX3_begin_35 : decode cX3_begin 35 = .ok (.putfield 33, 3) := by decide +kernel
theorem dX3_begin_38 : decode cX3_begin 38 = .ok (.aload_n 0, 1) := by decide +kernel
theorem dX3_begin_39 : decode cX3_begin 39 = .ok (.iconst 0, 1) := by decide +kernel
theorem dX3_begin_40 : decode cX3_begin 40 = .ok (.putfield 43, 3) := by decide +kernel
theorem dX3_begin_43 : decode cX3_begin 43 = .ok (.return_, 1) := by decide +kernel
theorem dX3_unit_0 : decode cX3_unit 0 = .ok (.iload_n 1, 1) := by decide +kernel
theorem dX3_unit_1 : decode cX3_unit 1 = .ok (.sipush 264, 3) := by decide +kernel
theorem dX3_unit_4 : decode cX3_unit 4 = .ok (.if_icmp .ne 14, 3) := by decide +kernel
theorem dX3_unit_7 : decode cX3_unit 7 = .ok (.aload_n 0, 1) := by decide +kernel
theorem dX3_unit_8 : decode cX3_unit 8 = .ok (.getfield 23, 3) := by decide +kernel
theorem dX3_unit_11 : decode cX3_unit 11 = .ok (.ifCond .eq 7, 3) := by decide +kernel
theorem dX3_unit_14 : decode cX3_unit 14 = .ok (.iconst 1, 1) := by decide +kernel
theorem dX3_unit_15 : decode cX3_unit 15 = .ok (.goto 4, 3) := by decide +kernel
theorem dX3_unit_18 : decode cX3_unit 18 = .ok (.iconst 0, 1) := by decide +kernel
theorem dX3_unit_19 : decode cX3_unit 19 = .ok (.istore_n 3, 1) := by decide +kernel
theorem dX3_unit_20 : decode cX3_unit 20 = .ok (.aload_n 0, 1) := by decide +kernel
theorem dX3_unit_21 : decode cX3_unit 21 = .ok (.iconst 0, 1) := by decide +kernel
theorem dX3_unit_22 : decode cX3_unit 22 = .ok (.putfield 23, 3) := by decide +kernel
theorem dX3_unit_25 : decode cX3_unit 25 = .ok (.iload_n 3, 1) := by decide +kernel
theorem dX3_unit_26 : decode cX3_unit 26 = .ok (.ifCond .eq 8, 3) := by decide +kernel
theorem dX3_unit_29 : decode cX3_unit 29 = .ok (.aload_n 0, 1) := by decide +kernel
theorem dX3_unit_30 : decode cX3_unit 30 = .ok (.invokevirtual 51, 3) := by decide +kernel
theorem dX3_unit_33 : decode cX3_unit 33 = .ok (.ireturn, 1) := by decide +kernel
theorem dX3_unit_34 : decode cX3_unit 34 = .ok (.iload_n 1, 1) := by decide +kernel
theorem dX3_unit_35 : decode cX3_unit 35 = .ok (.bipush 40, 2) := by decide +kernel
theorem dX3_unit_37 : decode cX3_unit 37 = .ok (.if_icmp .ne 8, 3) := by decide +kernel
theorem dX3_unit_40 : decode cX3_unit 40 = .ok (.aload_n 0, 1) := by decide +kernel
theorem dX3_unit_41 : decode cX3_unit 41 = .ok (.invokevirtual 55, 3) := by decide +kernel
theorem dX3_unit_44 : decode cX3_unit 44 = .ok (.ireturn, 1) := by decide +kernel
theorem dX3_unit_45 : decode cX3_unit 45 = .ok (.aload_n 0, 1) := by decide +kernel
theorem dX3_unit_46 : decode cX3_unit 46 = .ok (.iconst 0, 1) := by decide +kernel
theorem dX3_unit_47 : decode cX3_unit 47 = .ok (.putfield 20, 3) := by decide +kernel
theorem dX3_unit_50 : decode cX3_unit 50 = .ok (.iload_n 1, 1) := by decide +kernel
theorem dX3_unit_51 : decode cX3_unit 51 = .ok (.iconst 3, 1) := by decide +kernel
theorem dX3_unit_52 : decode cX3_unit 52 = .ok (.if_icmp .ne 15, 3) := by decide +kernel
theorem dX3_unit_55 : decode cX3_unit 55 = .ok (.aload_n 0, 1) := by decide +kernel
theorem dX3_unit_56 : decode cX3_unit 56 = .ok (.getfield 12, 3) := by decide +kernel
theorem dX3_unit_59 : decode cX3_unit 59 = .ok (.iconst 1, 1) := by decide +kernel
theorem dX3_unit_60 : decode cX3_unit 60 = .ok (.iload_n 2, 1) := by decide +kernel
theorem dX3_unit_61 : decode cX3_unit 61 = .ok (.invokevirtual 58, 3) := by decide +kernel
theorem dX3_unit_64 : decode cX3_unit 64 = .ok (.pop, 1) := by decide +kernel
theorem dX3_unit_65 : decode cX3_unit 65 = .ok (.iconst 0, 1) := by decide +kernel
theorem dX3_unit_66 : decode cX3_unit 66 = .ok (.ireturn, 1) := by decide +kernel
theorem dX3_unit_67 : decode cX3_unit 67 = .ok (.iload_n 1, 1) := by decide +kernel
theorem dX3_unit_68 : decode cX3_unit 68 = .ok (.sipush 267, 3) := by decide +kernel
theorem dX3_unit_71 : decode cX3_unit 71 = .ok (.if_icmp .lt 26, 3) := by decide +kernel
theorem dX3_unit_74 : decode cX3_unit 74 = .ok (.iload_n 1, 1) := by decide +kernel
theorem dX3_unit_75 : decode cX3_unit 75 = .ok (.sipush 272, 3) := by decide +kernel
theorem dX3_unit_78 : decode cX3_unit 78 = .ok (.if_icmp .gt 19, 3) := by decide +kernel
theorem dX3_unit_81 : decode cX3_unit 81 = .ok (.aload_n 0, 1) := by decide +kernel
theorem dX3_unit_82 : decode cX3_unit 82 = .ok (.getfield 12, 3) := by decide +kernel
theorem dX3_unit_85 : decode cX3_unit 85 = .ok (.iconst 2, 1) := by decide +kernel
theorem dX3_unit_86 : decode cX3_unit 86 = .ok (.iload_n 1, 1) := by decide +kernel
theorem dX3_unit_87 : decode cX3_unit 87 = .ok (.sipush 267, 3) := by decide +kernel
theorem dX3_unit_90 : decode cX3_unit 90 = .ok (.isub, 1) := by decide +kernel
theorem dX3_unit_91 : decode cX3_unit 91 = .ok (.invokevirtual 58, 3) := by decide +kernel
theorem dX3_unit_94 : decode cX3_unit 94 = .ok (.pop, 1) := by decide +kernel
theorem dX3_unit_95 : decode cX3_unit 95 = .ok (.iconst 0, 1) := by decide +kernel
theorem dX3_unit_96 : decode cX3_unit 96 = .ok (.ireturn, 1) := by decide +kernel
theorem dX3_unit_97 : decode cX3_unit 97 = .ok (.iconst 1, 1) := by decide +kernel
theorem dX3_unit_98 : decode cX3_unit 98 = .ok (.ireturn, 1) := by decide +kernel
theorem dX3_branchBegins_0 : decode cX3_branchBegins 0 = .ok (.aload_n 0, 1) := by decide +kernel
theorem dX3_branchBegins_1 : decode cX3_branchBegins 1 = .ok (.getfield 30, 3) := by decide +kernel
theorem dX3_branchBegins_4 : decode cX3_branchBegins 4 = .ok (.iconst 4, 1) := by decide +kernel
theorem dX3_branchBegins_5 : decode cX3_branchBegins 5 = .ok (.if_icmp .ne 5, 3) := by decide +kernel
theorem dX3_branchBegins_8 : decode cX3_branchBegins 8 = .ok (.iconst 2, 1) := by decide +kernel
theorem dX3_branchBegins_9 : decode cX3_branchBegins 9 = .ok (.ireturn, 1) := by decide +kernel
theorem dX3_branchBegins_10 : decode cX3_branchBegins 10 = .ok (.aload_n 0, 1) := by decide +kernel
theorem dX3_branchBegins_11 : decode cX3_branchBegins 11 = .ok (.dup, 1) := by decide +kernel
theorem dX3_branchBegins_12 : decode cX3_branchBegins 12 = .ok (.getfield 30, 3) := by decide +kernel
theorem dX3_branchBegins_15 : decode cX3_branchBegins 15 = .ok (.iconst 1, 1) := by decide +kernel
theorem dX3_branchBegins_16 : decode cX3_branchBegins 16 = .ok (.iadd, 1) := by decide +kernel
theorem dX3_branchBegins_17 : decode cX3_branchBegins 17 = .ok (.putfield 30, 3) := by decide +kernel
theorem dX3_branchBegins_20 : decode cX3_branchBegins 20 = .ok (.aload_n 0, 1) := by decide +kernel
theorem dX3_branchBegins_21 : decode cX3_branchBegins 21 = .ok (.bipush 60, 2) := by decide +kernel
theorem dX3_branchBegins_23 : decode cX3_branchBegins 23 = .ok (.putfield 26, 3) := by decide +kernel
theorem dX3_branchBegins_26 : decode cX3_branchBegins 26 = .ok (.iconst 0, 1) := by decide +kernel
theorem dX3_branchBegins_27 : decode cX3_branchBegins 27 = .ok (.ireturn, 1) := by decide +kernel
theorem dX3_nestBegins_0 : decode cX3_nestBegins 0 = .ok (.aload_n 0, 1) := by decide +kernel
theorem dX3_nestBegins_1 : decode cX3_nestBegins 1 = .ok (.getfield 33, 3) := by decide +kernel
theorem dX3_nestBegins_4 : decode cX3_nestBegins 4 = .ok (.bipush 6, 2) := by decide +kernel
theorem dX3_nestBegins_6 : decode cX3_nestBegins 6 = .ok (.if_icmp .ne 5, 3) := by decide +kernel
theorem dX3_nestBegins_9 : decode cX3_nestBegins 9 = .ok (.iconst 2, 1) := by decide +kernel
theorem dX3_nestBegins_10 : decode cX3_nestBegins 10 = .ok (.ireturn, 1) := by decide +kernel
theorem dX3_nestBegins_11 : decode cX3_nestBegins 11 = .ok (.aload_n 0, 1) := by decide +kernel
theorem dX3_nestBegins_12 : decode cX3_nestBegins 12 = .ok (.dup, 1) := by decide +kernel
theorem dX3_nestBegins_13 : decode cX3_nestBegins 13 = .ok (.getfield 33, 3) := by decide +kernel
theorem dX3_nestBegins_16 : decode cX3_nestBegins 16 = .ok (.iconst 1, 1) := by decide +kernel
theorem dX3_nestBegins_17 : decode cX3_nestBegins 17 = .ok (.iadd, 1) := by decide +kernel
theorem dX3_nestBegins_18 : decode cX3_nestBegins 18 = .ok (.putfield 33, 3) := by decide +kernel
theorem dX3_nestBegins_21 : decode cX3_nestBegins 21 = .ok (.aload_n 0, 1) := by decide +kernel
theorem dX3_nestBegins_22 : decode cX3_nestBegins 22 = .ok (.bipush 40, 2) := by decide +kernel
theorem dX3_nestBegins_24 : decode cX3_nestBegins 24 = .ok (.invokevirtual 64, 3) := by decide +kernel
theorem dX3_nestBegins_27 : decode cX3_nestBegins 27 = .ok (.iconst 0, 1) := by decide +kernel
theorem dX3_nestBegins_28 : decode cX3_nestBegins 28 = .ok (.ireturn, 1) := by decide +kernel
theorem dX3_behindUnit_0 : decode cX3_behindUnit 0 = .ok (.iload_n 1, 1) := by decide +kernel
theorem dX3_behindUnit_1 : decode cX3_behindUnit 1 = .ok (.invokestatic 68, 3) := by decide +kernel
theorem dX3_behindUnit_4 : decode cX3_behindUnit 4 = .ok (.istore_n 2, 1) := by decide +kernel
theorem dX3_behindUnit_5 : decode cX3_behindUnit 5 = .ok (.iload_n 2, 1) := by decide +kernel
theorem dX3_behindUnit_6 : decode cX3_behindUnit 6 = .ok (.ifCond .le 20, 3) := by decide +kernel
theorem dX3_behindUnit_9 : decode cX3_behindUnit 9 = .ok (.aload_n 0, 1) := by decide +kernel
theorem dX3_behindUnit_10 : decode cX3_behindUnit 10 = .ok (.iload_n 2, 1) := by decide +kernel
theorem dX3_behindUnit_11 : decode cX3_behindUnit 11 = .ok (.invokevirtual 72, 3) := by decide +kernel
theorem dX3_behindUnit_14 : decode cX3_behindUnit 14 = .ok (.aload_n 0, 1) := by decide +kernel
theorem dX3_behindUnit_15 : decode cX3_behindUnit 15 = .ok (.iload_n 1, 1) := by decide +kernel
theorem dX3_behindUnit_16 : decode cX3_behindUnit 16 = .ok (.invokevirtual 64, 3) := by decide +kernel
theorem dX3_behindUnit_19 : decode cX3_behindUnit 19 = .ok (.aload_n 0, 1) := by decide +kernel
theorem dX3_behindUnit_20 : decode cX3_behindUnit 20 = .ok (.iconst 1, 1) := by decide +kernel
theorem dX3_behindUnit_21 : decode cX3_behindUnit 21 = .ok (.putfield 20, 3) := by decide +kernel
theorem dX3_behindUnit_24 : decode cX3_behindUnit 24 = .ok (.iconst 0, 1) := by decide +kernel
theorem dX3_behindUnit_25 : decode cX3_behindUnit 25 = .ok (.ireturn, 1) := by decide +kernel
theorem dX3_behindUnit_26 : decode cX3_behindUnit 26 = .ok (.iload_n 1, 1) := by decide +kernel
theorem dX3_behindUnit_27 : decode cX3_behindUnit 27 = .ok (.aload_n 0, 1) := by decide +kernel
theorem dX3_behindUnit_28 : decode cX3_behindUnit 28 = .ok (.getfield 33, 3) := by decide +kernel
theorem dX3_behindUnit_31 : decode cX3_behindUnit 31 = .ok (.ifCond .le 8, 3) := by decide +kernel
theorem dX3_behindUnit_34 : decode cX3_behindUnit 34 = .ok (.bipush 41, 2) := by decide +kernel
theorem dX3_behindUnit_36 : decode cX3_behindUnit 36 = .ok (.goto 7, 3) := by decide +kernel
theorem dX3_behindUnit_39 : decode cX3_behindUnit 39 = .ok (.aload_n 0, 1) := by decide +kernel
theorem dX3_behindUnit_40 : decode cX3_behindUnit 40 = .ok (.getfield 26, 3) := by decide +kernel
theorem dX3_behindUnit_43 : decode cX3_behindUnit 43 = .ok (.if_icmp .eq 5, 3) := by decide +kernel
theorem dX3_behindUnit_46 : decode cX3_behindUnit 46 = .ok (.iconst 1, 1) := by decide +kernel
theorem dX3_behindUnit_47 : decode cX3_behindUnit 47 = .ok (.ireturn, 1) := by decide +kernel
theorem dX3_behindUnit_48 : decode cX3_behindUnit 48 = .ok (.aload_n 0, 1) := by decide +kernel
theorem dX3_behindUnit_49 : decode cX3_behindUnit 49 = .ok (.iconst 1, 1) := by decide +kernel
theorem dX3_behindUnit_50 : decode cX3_behindUnit 50 = .ok (.invokevirtual 72, 3) := by decide +kernel
theorem dX3_behindUnit_53 : decode cX3_behindUnit 53 = .ok (.aload_n 0, 1) := by decide +kernel
theorem dX3_behindUnit_54 : decode cX3_behindUnit 54 = .ok (.getfield 33, 3) := by decide +kernel
theorem dX3_behindUnit_57 : decode cX3_behindUnit 57 = .ok (.ifCond .le 10, 3) := by decide +kernel
theorem dX3_behindUnit_60 : decode cX3_behindUnit 60 = .ok (.aload_n 0, 1) := by decide +kernel
theorem dX3_behindUnit_61 : decode cX3_behindUnit 61 = .ok (.invokevirtual 75, 3) := by decide +kernel
theorem dX3_behindUnit_64 : decode cX3_behindUnit 64 = .ok (.goto 7, 3) := by decide +kernel
theorem dX3_behindUnit_67 : decode cX3_behindUnit 67 = .ok (.aload_n 0, 1) := by decide +kernel
theorem dX3_behindUnit_68 : decode cX3_behindUnit 68 = .ok (.invokevirtual 78, 3) := by decide +kernel
theorem dX3_behindUnit_71 : decode cX3_behindUnit 71 = .ok (.iconst 0, 1) := by decide +kernel
theorem dX3_behindUnit_72 : decode cX3_behindUnit 72 = .ok (.ireturn, 1) := by decide +kernel
theorem dX3_rankOf_0 : decode cX3_rankOf 0 = .ok (.iload_n 0, 1) := by decide +kernel
theorem dX3_rankOf_1 : decode cX3_rankOf 1 = .ok (.bipush 42, 2) := by decide +kernel
theorem dX3_rankOf_3 : decode cX3_rankOf 3 = .ok (.if_icmp .eq 9, 3) := by decide +kernel
theorem dX3_rankOf_6 : decode cX3_rankOf 6 = .ok (.iload_n 0, 1) := by decide +kernel
theorem dX3_rankOf_7 : decode cX3_rankOf 7 = .ok (.bipush 47, 2) := by decide +kernel
theorem dX3_rankOf_9 : decode cX3_rankOf 9 = .ok (.if_icmp .ne 5, 3) := by decide +kernel
theorem dX3_rankOf_12 : decode cX3_rankOf 12 = .ok (.iconst 2, 1) := by decide +kernel
theorem dX3_rankOf_13 : decode cX3_rankOf 13 = .ok (.ireturn, 1) := by decide +kernel
theorem dX3_rankOf_14 : decode cX3_rankOf 14 = .ok (.iload_n 0, 1) := by decide +kernel
theorem dX3_rankOf_15 : decode cX3_rankOf 15 = .ok (.bipush 43, 2) := by decide +kernel
theorem dX3_rankOf_17 : decode cX3_rankOf 17 = .ok (.if_icmp .eq 9, 3) := by decide +kernel
theorem dX3_rankOf_20 : decode cX3_rankOf 20 = .ok (.iload_n 0, 1) := by decide +kernel
theorem dX3_rankOf_21 : decode cX3_rankOf 21 = .ok (.bipush 45, 2) := by decide +kernel
theorem dX3_rankOf_23 : decode cX3_rankOf 23 = .ok (.if_icmp .ne 7, 3) := by decide +kernel
theorem dX3_rankOf_26 : decode cX3_rankOf 26 = .ok (.iconst 1, 1) := by decide +kernel
theorem dX3_rankOf_27 : decode cX3_rankOf 27 = .ok (.goto 4, 3) := by decide +kernel
theorem dX3_rankOf_30 : decode cX3_rankOf 30 = .ok (.iconst 0, 1) := by decide +kernel
theorem dX3_rankOf_31 : decode cX3_rankOf 31 = .ok (.ireturn, 1) := by decide +kernel
theorem dX3_letWait_0 : decode cX3_letWait 0 = .ok (.aload_n 0, 1) := by decide +kernel
theorem dX3_letWait_1 : decode cX3_letWait 1 = .ok (.getfield 43, 3) := by decide +kernel
theorem dX3_letWait_4 : decode cX3_letWait 4 = .ok (.bipush 21, 2) := by decide +kernel
theorem dX3_letWait_6 : decode cX3_letWait 6 = .ok (.if_icmp .ge 23, 3) := by decide +kernel
theorem dX3_letWait_9 : decode cX3_letWait 9 = .ok (.aload_n 0, 1) := by decide +kernel
theorem dX3_letWait_10 : decode cX3_letWait 10 = .ok (.getfield 39, 3) := by decide +kernel
theorem dX3_letWait_13 : decode cX3_letWait 13 = .ok (.aload_n 0, 1) := by decide +kernel
theorem dX3_letWait_14 : decode cX3_letWait 14 = .ok (.getfield 43, 3) := by decide +kernel
theorem dX3_letWait_17 : decode cX3_letWait 17 = .ok (.iload_n 1, 1) := by decide +kernel
theorem dX3_letWait_18 : decode cX3_letWait 18 = .ok (.iastore, 1) := by decide +kernel
theorem dX3_letWait_19 : decode cX3_letWait 19 = .ok (.aload_n 0, 1) := by decide +kernel
theorem dX3_letWait_20 : decode cX3_letWait 20 = .ok (.dup, 1) := by decide +kernel
theorem dX3_letWait_21 : decode cX3_letWait 21 = .ok (.getfield 43, 3) := by decide +kernel
theorem dX3_letWait_24 : decode cX3_letWait 24 = .ok (.iconst 1, 1) := by decide +kernel
theorem dX3_letWait_25 : decode cX3_letWait 25 = .ok (.iadd, 1) := by decide +kernel
theorem dX3_letWait_26 : decode cX3_letWait 26 = .ok (.putfield 43, 3) := by decide +kernel
theorem dX3_letWait_29 : decode cX3_letWait 29 = .ok (.return_, 1) := by decide +kernel
theorem dX3_writeWaiting_0 : decode cX3_writeWaiting 0 = .ok (.aload_n 0, 1) := by decide +kernel
theorem dX3_writeWaiting_1 : decode cX3_writeWaiting 1 = .ok (.getfield 43, 3) := by decide +kernel
theorem dX3_writeWaiting_4 : decode cX3_writeWaiting 4 = .ok (.ifCond .le 54, 3) := by decide +kernel
theorem dX3_writeWaiting_7 : decode cX3_writeWaiting 7 = .ok (.aload_n 0, 1) := by decide +kernel
theorem dX3_writeWaiting_8 : decode cX3_writeWaiting 8 = .ok (.getfield 39, 3) := by decide +kernel
theorem dX3_writeWaiting_11 : decode cX3_writeWaiting 11 = .ok (.aload_n 0, 1) := by decide +kernel
theorem dX3_writeWaiting_12 : decode cX3_writeWaiting 12 = .ok (.getfield 43, 3) := by decide +kernel
theorem dX3_writeWaiting_15 : decode cX3_writeWaiting 15 = .ok (.iconst 1, 1) := by decide +kernel
theorem dX3_writeWaiting_16 : decode cX3_writeWaiting 16 = .ok (.isub, 1) := by decide +kernel
theorem dX3_writeWaiting_17 : decode cX3_writeWaiting 17 = .ok (.iaload, 1) := by decide +kernel
theorem dX3_writeWaiting_18 : decode cX3_writeWaiting 18 = .ok (.invokestatic 68, 3) := by decide +kernel
theorem dX3_writeWaiting_21 : decode cX3_writeWaiting 21 = .ok (.iload_n 1, 1) := by decide +kernel
theorem dX3_writeWaiting_22 : decode cX3_writeWaiting 22 = .ok (.if_icmp .lt 36, 3) := by decide +kernel
theorem dX3_writeWaiting_25 : decode cX3_writeWaiting 25 = .ok (.aload_n 0, 1) := by decide +kernel
theorem dX3_writeWaiting_26 : decode cX3_writeWaiting 26 = .ok (.getfield 12, 3) := by decide +kernel
theorem dX3_writeWaiting_29 : decode cX3_writeWaiting 29 = .ok (.aload_n 0, 1) := by decide +kernel
theorem dX3_writeWaiting_30 : decode cX3_writeWaiting 30 = .ok (.getfield 39, 3) := by decide +kernel
theorem dX3_writeWaiting_33 : decode cX3_writeWaiting 33 = .ok (.aload_n 0, 1) := by decide +kernel
theorem dX3_writeWaiting_34 : decode cX3_writeWaiting 34 = .ok (.getfield 43, 3) := by decide +kernel
theorem dX3_writeWaiting_37 : decode cX3_writeWaiting 37 = .ok (.iconst 1, 1) := by decide +kernel
theorem dX3_writeWaiting_38 : decode cX3_writeWaiting 38 = .ok (.isub, 1) := by decide +kernel
theorem dX3_writeWaiting_39 : decode cX3_writeWaiting 39 = .ok (.iaload, 1) := by decide +kernel
theorem dX3_writeWaiting_40 : decode cX3_writeWaiting 40 = .ok (.iconst 0, 1) := by decide +kernel
theorem dX3_writeWaiting_41 : decode cX3_writeWaiting 41 = .ok (.invokevirtual 58, 3) := by decide +kernel
theorem dX3_writeWaiting_44 : decode cX3_writeWaiting 44 = .ok (.pop, 1) := by decide +kernel
theorem dX3_writeWaiting_45 : decode cX3_writeWaiting 45 = .ok (.aload_n 0, 1) := by decide +kernel
theorem dX3_writeWaiting_46 : decode cX3_writeWaiting 46 = .ok (.dup, 1) := by decide +kernel
theorem dX3_writeWaiting_47 : decode cX3_writeWaiting 47 = .ok (.getfield 43, 3) := by decide +kernel
theorem dX3_writeWaiting_50 : decode cX3_writeWaiting 50 = .ok (.iconst 1, 1) := by decide +kernel
theorem dX3_writeWaiting_51 : decode cX3_writeWaiting 51 = .ok (.isub, 1) := by decide +kernel
theorem dX3_writeWaiting_52 : decode cX3_writeWaiting 52 = .ok (.putfield 43, 3) := by decide +kernel
theorem dX3_writeWaiting_55 : decode cX3_writeWaiting 55 = .ok (.goto (-55), 3) := by decide +kernel
theorem dX3_writeWaiting_58 : decode cX3_writeWaiting 58 = .ok (.return_, 1) := by decide +kernel
theorem dX3_nestEnds_0 : decode cX3_nestEnds 0 = .ok (.aload_n 0, 1) := by decide +kernel
theorem dX3_nestEnds_1 : decode cX3_nestEnds 1 = .ok (.dup, 1) := by decide +kernel
theorem dX3_nestEnds_2 : decode cX3_nestEnds 2 = .ok (.getfield 33, 3) := by decide +kernel
theorem dX3_nestEnds_5 : decode cX3_nestEnds 5 = .ok (.iconst 1, 1) := by decide +kernel
theorem dX3_nestEnds_6 : decode cX3_nestEnds 6 = .ok (.isub, 1) := by decide +kernel
theorem dX3_nestEnds_7 : decode cX3_nestEnds 7 = .ok (.putfield 33, 3) := by decide +kernel
theorem dX3_nestEnds_10 : decode cX3_nestEnds 10 = .ok (.aload_n 0, 1) := by decide +kernel
theorem dX3_nestEnds_11 : decode cX3_nestEnds 11 = .ok (.getfield 43, 3) := by decide +kernel
theorem dX3_nestEnds_14 : decode cX3_nestEnds 14 = .ok (.ifCond .le 13, 3) := by decide +kernel
theorem dX3_nestEnds_17 : decode cX3_nestEnds 17 = .ok (.aload_n 0, 1) := by decide +kernel
theorem dX3_nestEnds_18 : decode cX3_nestEnds 18 = .ok (.dup, 1) := by decide +kernel
theorem dX3_nestEnds_19 : decode cX3_nestEnds 19 = .ok (.getfield 43, 3) := by decide +kernel
theorem dX3_nestEnds_22 : decode cX3_nestEnds 22 = .ok (.iconst 1, 1) := by decide +kernel
theorem dX3_nestEnds_23 : decode cX3_nestEnds 23 = .ok (.isub, 1) := by decide +kernel
theorem dX3_nestEnds_24 : decode cX3_nestEnds 24 = .ok (.putfield 43, 3) := by decide +kernel
theorem dX3_nestEnds_27 : decode cX3_nestEnds 27 = .ok (.return_, 1) := by decide +kernel
theorem dX3_partEnds_0 : decode cX3_partEnds 0 = .ok (.aload_n 0, 1) := by decide +kernel
theorem dX3_partEnds_1 : decode cX3_partEnds 1 = .ok (.iconst 1, 1) := by decide +kernel
theorem dX3_partEnds_2 : decode cX3_partEnds 2 = .ok (.putfield 20, 3) := by decide +kernel
theorem dX3_partEnds_5 : decode cX3_partEnds 5 = .ok (.aload_n 0, 1) := by decide +kernel
theorem dX3_partEnds_6 : decode cX3_partEnds 6 = .ok (.getfield 26, 3) := by decide +kernel
theorem dX3_partEnds_9 : decode cX3_partEnds 9 = .ok (.lookupswitch 103 #[(60, 35), (265, 45), (266, 68)], 35) := by decide +kernel
theorem dX3_partEnds_44 : decode cX3_partEnds 44 = .ok (.aload_n 0, 1) := by decide +kernel
theorem dX3_partEnds_45 : decode cX3_partEnds 45 = .ok (.sipush 265, 3) := by decide +kernel
theorem dX3_partEnds_48 : decode cX3_partEnds 48 = .ok (.putfield 26, 3) := by decide +kernel
theorem dX3_partEnds_51 : decode cX3_partEnds 51 = .ok (.goto 76, 3) := by decide +kernel
theorem dX3_partEnds_54 : decode cX3_partEnds 54 = .ok (.aload_n 0, 1) := by decide +kernel
theorem dX3_partEnds_55 : decode cX3_partEnds 55 = .ok (.aload_n 0, 1) := by decide +kernel
theorem dX3_partEnds_56 : decode cX3_partEnds 56 = .ok (.getfield 12, 3) := by decide +kernel
theorem dX3_partEnds_59 : decode cX3_partEnds 59 = .ok (.iconst 3, 1) := by decide +kernel
theorem dX3_partEnds_60 : decode cX3_partEnds 60 = .ok (.iconst 0, 1) := by decide +kernel
theorem dX3_partEnds_61 : decode cX3_partEnds 61 = .ok (.invokevirtual 58, 3) := by decide +kernel
theorem dX3_partEnds_64 : decode cX3_partEnds 64 = .ok (.putfield 36, 3) := by decide +kernel
theorem dX3_partEnds_67 : decode cX3_partEnds 67 = .ok (.aload_n 0, 1) := by decide +kernel
theorem dX3_partEnds_68 : decode cX3_partEnds 68 = .ok (.sipush 266, 3) := by decide +kernel
theorem dX3_partEnds_71 : decode cX3_partEnds 71 = .ok (.putfield 26, 3) := by decide +kernel
theorem dX3_partEnds_74 : decode cX3_partEnds 74 = .ok (.goto 53, 3) := by decide +kernel
theorem dX3_partEnds_77 : decode cX3_partEnds 77 = .ok (.aload_n 0, 1) := by decide +kernel
theorem dX3_partEnds_78 : decode cX3_partEnds 78 = .ok (.getfield 12, 3) := by decide +kernel
theorem dX3_partEnds_81 : decode cX3_partEnds 81 = .ok (.iconst 4, 1) := by decide +kernel
theorem dX3_partEnds_82 : decode cX3_partEnds 82 = .ok (.iconst 0, 1) := by decide +kernel
theorem dX3_partEnds_83 : decode cX3_partEnds 83 = .ok (.invokevirtual 58, 3) := by decide +kernel
theorem dX3_partEnds_86 : decode cX3_partEnds 86 = .ok (.pop, 1) := by decide +kernel
theorem dX3_partEnds_87 : decode cX3_partEnds 87 = .ok (.aload_n 0, 1) := by decide +kernel
theorem dX3_partEnds_88 : decode cX3_partEnds 88 = .ok (.getfield 12, 3) := by decide +kernel
theorem dX3_partEnds_91 : decode cX3_partEnds 91 = .ok (.aload_n 0, 1) := by decide +kernel
theorem dX3_partEnds_92 : decode cX3_partEnds 92 = .ok (.getfield 36, 3) := by decide +kernel
theorem dX3_partEnds_95 : decode cX3_partEnds 95 = .ok (.invokevirtual 81, 3) := by decide +kernel
theorem dX3_partEnds_98 : decode cX3_partEnds 98 = .ok (.aload_n 0, 1) := by decide +kernel
theorem dX3_partEnds_99 : decode cX3_partEnds 99 = .ok (.bipush 59, 2) := by decide +kernel
theorem dX3_partEnds_101 : decode cX3_partEnds 101 = .ok (.putfield 26, 3) := by decide +kernel
theorem dX3_partEnds_104 : decode cX3_partEnds 104 = .ok (.aload_n 0, 1) := by decide +kernel
theorem dX3_partEnds_105 : decode cX3_partEnds 105 = .ok (.iconst 1, 1) := by decide +kernel
theorem dX3_partEnds_106 : decode cX3_partEnds 106 = .ok (.putfield 23, 3) := by decide +kernel
theorem dX3_partEnds_109 : decode cX3_partEnds 109 = .ok (.goto 18, 3) := by decide +kernel
theorem dX3_partEnds_112 : decode cX3_partEnds 112 = .ok (.aload_n 0, 1) := by decide +kernel
theorem dX3_partEnds_113 : decode cX3_partEnds 113 = .ok (.getfield 12, 3) := by decide +kernel
theorem dX3_partEnds_116 : decode cX3_partEnds 116 = .ok (.iconst 4, 1) := by decide +kernel
theorem dX3_partEnds_117 : decode cX3_partEnds 117 = .ok (.iconst 0, 1) := by decide +kernel
theorem dX3_partEnds_118 : decode cX3_partEnds 118 = .ok (.invokevirtual 58, 3) := by decide +kernel
theorem dX3_partEnds_121 : decode cX3_partEnds 121 = .ok (.pop, 1) := by decide +kernel
theorem dX3_partEnds_122 : decode cX3_partEnds 122 = .ok (.aload_n 0, 1) := by decide +kernel
theorem dX3_partEnds_123 : decode cX3_partEnds 123 = .ok (.iconst 1, 1) := by decide +kernel
theorem dX3_partEnds_124 : decode cX3_partEnds 124 = .ok (.putfield 16, 3) := by decide +kernel
theorem dX3_partEnds_127 : decode cX3_partEnds 127 = .ok (.return_, 1) := by decide +kernel
theorem dX4_init_0 : decode cX4_init 0 = .ok (.aload_n 0, 1) := by decide +kernel
theorem dX4_init_1 : decode cX4_init 1 = .ok (.invokespecial 1, 3) := by decide +kernel
theorem dX4_init_4 : decode cX4_init 4 = .ok (.aload_n 0, 1) := by decide +kernel
theorem dX4_init_5 : decode cX4_init 5 = .ok (.sipush 16384, 3) := by decide +kernel
theorem dX4_init_8 : decode cX4_init 8 = .ok (.newarray .long, 2) := by decide +kernel
theorem dX4_init_10 : decode cX4_init 10 = .ok (.putfield 9, 3) := by decide +kernel
theorem dX4_init_13 : decode cX4_init 13 = .ok (.aload_n 0, 1) := by decide +kernel
theorem dX4_init_14 : decode cX4_init 14 = .ok (.sipush 16384, 3) := by decide +kernel
theorem dX4_init_17 : decode cX4_init 17 = .ok (.newarray .int, 2) := by decide +kernel
theorem dX4_init_19 : decode cX4_init 19 = .ok (.putfield 13, 3) := by decide +kernel
theorem dX4_init_22 : decode cX4_init 22 = .ok (.aload_n 0, 1) := by decide +kernel
theorem dX4_init_23 : decode cX4_init 23 = .ok (.sipush 16384, 3) := by decide +kernel
theorem dX4_init_26 : decode cX4_init 26 = .ok (.putfield 17, 3) := by decide +kernel
theorem dX4_init_29 : decode cX4_init 29 = .ok (.return_, 1) := by decide +kernel
theorem dX4_clear_0 : decode cX4_clear 0 = .ok (.aload_n 0, 1) := by decide +kernel
theorem dX4_clear_1 : decode cX4_clear 1 = .ok (.bipush 16, 2) := by decide +kernel
theorem dX4_clear_3 : decode cX4_clear 3 = .ok (.putfield 17, 3) := by decide +kernel
theorem dX4_clear_6 : decode cX4_clear 6 = .ok (.aload_n 0, 1) := by decide +kernel
theorem dX4_clear_7 : decode cX4_clear 7 = .ok (.getfield 17, 3) := by decide +kernel
theorem dX4_clear_10 : decode cX4_clear 10 = .ok (.sipush 16384, 3) := by decide +kernel
theorem dX4_clear_13 : decode cX4_clear 13 = .ok (.if_icmp .ge 28, 3) := by decide +kernel
theorem dX4_clear_16 : decode cX4_clear 16 = .ok (.aload_n 0, 1) := by decide +kernel
theorem dX4_clear_17 : decode cX4_clear 17 = .ok (.getfield 17, 3) := by decide +kernel
theorem dX4_clear_20 : decode cX4_clear 20 = .ok (.iload_n 1, 1) := by decide +kernel
theorem dX4_clear_21 : decode cX4_clear 21 = .ok (.iload_n 1, 1) := by decide +kernel
theorem dX4_clear_22 : decode cX4_clear 22 = .ok (.iconst 2, 1) := by decide +kernel
theorem dX4_clear_23 : decode cX4_clear 23 = .ok (.idiv, 1) := by decide +kernel
theorem dX4_clear_24 : decode cX4_clear 24 = .ok (.iadd, 1) := by decide +kernel
theorem dX4_clear_25 : decode cX4_clear 25 = .ok (.if_icmp .ge 16, 3) := by decide +kernel
theorem dX4_clear_28 : decode cX4_clear 28 = .ok (.aload_n 0, 1) := by decide +kernel
theorem dX4_clear_29 : decode cX4_clear 29 = .ok (.dup, 1) := by decide +kernel
theorem dX4_clear_30 : decode cX4_clear 30 = .ok (.getfield 17, 3) := by decide +kernel
theorem dX4_clear_33 : decode cX4_clear 33 = .ok (.iconst 2, 1) := by decide +kernel
theorem dX4_clear_34 : decode cX4_clear 34 = .ok (.imul, 1) := by decide +kernel
theorem dX4_clear_35 : decode cX4_clear 35 = .ok (.putfield 17, 3) := by decide +kernel
theorem dX4_clear_38 : decode cX4_clear 38 = .ok (.goto (-32), 3) := by decide +kernel
theorem dX4_clear_41 : decode cX4_clear 41 = .ok (.aload_n 0, 1) := by decide +kernel
theorem dX4_clear_42 : decode cX4_clear 42 = .ok (.getfield 13, 3) := by decide +kernel
theorem dX4_clear_45 : decode cX4_clear 45 = .ok (.iconst 0, 1) := by decide +kernel
theorem dX4_clear_46 : decode cX4_clear 46 = .ok (.aload_n 0, 1) := by decide +kernel
theorem dX4_clear_47 : decode cX4_clear 47 = .ok (.getfield 17, 3) := by decide +kernel
theorem dX4_clear_50 : decode cX4_clear 50 = .ok (.iconst 0, 1) := by decide +kernel
theorem dX4_clear_51 : decode cX4_clear 51 = .ok (.invokestatic 21, 3) := by decide +kernel
theorem dX4_clear_54 : decode cX4_clear 54 = .ok (.return_, 1) := by decide +kernel
theorem dX4_leaderOf_0 : decode cX4_leaderOf 0 = .ok (.lload_n 1, 1) := by decide +kernel
theorem dX4_leaderOf_1 : decode cX4_leaderOf 1 = .ok (.ldc2_w 27, 3) := by decide +kernel
theorem dX4_leaderOf_4 : decode cX4_leaderOf 4 = .ok (.lmul, 1) := by decide +kernel
theorem dX4_leaderOf_5 : decode cX4_leaderOf 5 = .ok (.bipush 48, 2) := by decide +kernel
theorem dX4_leaderOf_7 : decode cX4_leaderOf 7 = .ok (.lushr, 1) := by decide +kernel
theorem dX4_leaderOf_8 : decode cX4_leaderOf 8 = .ok (.l2i, 1) := by decide +kernel
theorem dX4_leaderOf_9 : decode cX4_leaderOf 9 = .ok (.aload_n 0, 1) := by decide +kernel
theorem dX4_leaderOf_10 : decode cX4_leaderOf 10 = .ok (.getfield 17, 3) := by decide +kernel
theorem dX4_leaderOf_13 : decode cX4_leaderOf 13 = .ok (.iconst 1, 1) := by decide +kernel
theorem dX4_leaderOf_14 : decode cX4_leaderOf 14 = .ok (.isub, 1) := by decide +kernel
theorem dX4_leaderOf_15 : decode cX4_leaderOf 15 = .ok (.iand, 1) := by decide +kernel
theorem dX4_leaderOf_16 : decode cX4_leaderOf 16 = .ok (.istore 4, 2) := by decide +kernel
theorem dX4_leaderOf_18 : decode cX4_leaderOf 18 = .ok (.iconst 0, 1) := by decide +kernel
theorem dX4_leaderOf_19 : decode cX4_leaderOf 19 = .ok (.istore 5, 2) := by decide +kernel
theorem dX4_leaderOf_21 : decode cX4_leaderOf 21 = .ok (.iload 5, 2) := by decide +kernel
theorem dX4_leaderOf_23 : decode cX4_leaderOf 23 = .ok (.aload_n 0, 1) := by decide +kernel
theorem dX4_leaderOf_24 : decode cX4_leaderOf 24 = .ok (.getfield 17, 3) := by decide +kernel
theorem dX4_leaderOf_27 : decode cX4_leaderOf 27 = .ok (.if_icmp .ge 74, 3) := by decide +kernel
theorem dX4_leaderOf_30 : decode cX4_leaderOf 30 = .ok (.aload_n 0, 1) := by decide +kernel
theorem dX4_leaderOf_31 : decode cX4_leaderOf 31 = .ok (.getfield 13, 3) := by decide +kernel
theorem dX4_leaderOf_34 : decode cX4_leaderOf 34 = .ok (.iload 4, 2) := by decide +kernel
theorem dX4_leaderOf_36 : decode cX4_leaderOf 36 = .ok (.iaload, 1) := by decide +kernel
theorem dX4_leaderOf_37 : decode cX4_leaderOf 37 = .ok (.ifCond .ne 23, 3) := by decide +kernel
theorem dX4_leaderOf_40 : decode cX4_leaderOf 40 = .ok (.aload_n 0, 1) := by decide +kernel
theorem dX4_leaderOf_41 : decode cX4_leaderOf 41 = .ok (.getfield 13, 3) := by decide +kernel
theorem dX4_leaderOf_44 : decode cX4_leaderOf 44 = .ok (.iload 4, 2) := by decide +kernel
theorem dX4_leaderOf_46 : decode cX4_leaderOf 46 = .ok (.iload_n 3, 1) := by decide +kernel
theorem dX4_leaderOf_47 : decode cX4_leaderOf 47 = .ok (.iconst 1, 1) := by decide +kernel
theorem dX4_leaderOf_48 : decode cX4_leaderOf 48 = .ok (.iadd, 1) := by decide +kernel
theorem dX4_leaderOf_49 : decode cX4_leaderOf 49 = .ok (.iastore, 1) := by decide +kernel
theorem dX4_leaderOf_50 : decode cX4_leaderOf 50 = .ok (.aload_n 0, 1) := by decide +kernel
theorem dX4_leaderOf_51 : decode cX4_leaderOf 51 = .ok (.getfield 9, 3) := by decide +kernel
theorem dX4_leaderOf_54 : decode cX4_leaderOf 54 = .ok (.iload 4, 2) := by decide +kernel
theorem dX4_leaderOf_56 : decode cX4_leaderOf 56 = .ok (.lload_n 1, 1) := by decide +kernel
theorem dX4_leaderOf_57 : decode cX4_leaderOf 57 = .ok (.lastore, 1) := by decide +kernel
theorem dX4_leaderOf_58 : decode cX4_leaderOf 58 = .ok (.iload_n 3, 1) := by decide +kernel
theorem dX4_leaderOf_59 : decode cX4_leaderOf 59 = .ok (.ireturn, 1) := by decide +kernel
theorem dX4_leaderOf_60 : decode cX4_leaderOf 60 = .ok (.aload_n 0, 1) := by decide +kernel
theorem dX4_leaderOf_61 : decode cX4_leaderOf 61 = .ok (.getfield 9, 3) := by decide +kernel
theorem dX4_leaderOf_64 : decode cX4_leaderOf 64 = .ok (.iload 4, 2) := by decide +kernel
theorem dX4_leaderOf_66 : decode cX4_leaderOf 66 = .ok (.laload, 1) := by decide +kernel
theorem dX4_leaderOf_67 : decode cX4_leaderOf 67 = .ok (.lload_n 1, 1) := by decide +kernel
theorem dX4_leaderOf_68 : decode cX4_leaderOf 68 = .ok (.lcmp, 1) := by decide +kernel
theorem dX4_leaderOf_69 : decode cX4_leaderOf 69 = .ok (.ifCond .ne 13, 3) := by decide +kernel
theorem dX4_leaderOf_72 : decode cX4_leaderOf 72 = .ok (.aload_n 0, 1) := by decide +kernel
theorem dX4_leaderOf_73 : decode cX4_leaderOf 73 = .ok (.getfield 13, 3) := by decide +kernel
theorem dX4_leaderOf_76 : decode cX4_leaderOf 76 = .ok (.iload 4, 2) := by decide +kernel
theorem dX4_leaderOf_78 : decode cX4_leaderOf 78 = .ok (.iaload, 1) := by decide +kernel
theorem dX4_leaderOf_79 : decode cX4_leaderOf 79 = .ok (.iconst 1, 1) := by decide +kernel
theorem dX4_leaderOf_80 : decode cX4_leaderOf 80 = .ok (.isub, 1) := by decide +kernel
theorem dX4_leaderOf_81 : decode cX4_leaderOf 81 = .ok (.ireturn, 1) := by decide +kernel
theorem dX4_leaderOf_82 : decode cX4_leaderOf 82 = .ok (.iload 4, 2) := by decide +kernel
theorem dX4_leaderOf_84 : decode cX4_leaderOf 84 = .ok (.iconst 1, 1) := by decide +kernel
theorem dX4_leaderOf_85 : decode cX4_leaderOf 85 = .ok (.iadd, 1) := by decide +kernel
theorem dX4_leaderOf_86 : decode cX4_leaderOf 86 = .ok (.aload_n 0, 1) := by decide +kernel
theorem dX4_leaderOf_87 : decode cX4_leaderOf 87 = .ok (.getfield 17, 3) := by decide +kernel
theorem dX4_leaderOf_90 : decode cX4_leaderOf 90 = .ok (.iconst 1, 1) := by decide +kernel
theorem dX4_leaderOf_91 : decode cX4_leaderOf 91 = .ok (.isub, 1) := by decide +kernel
theorem dX4_leaderOf_92 : decode cX4_leaderOf 92 = .ok (.iand, 1) := by decide +kernel
theorem dX4_leaderOf_93 : decode cX4_leaderOf 93 = .ok (.istore 4, 2) := by decide +kernel
theorem dX4_leaderOf_95 : decode cX4_leaderOf 95 = .ok (.iinc 5 1, 3) := by decide +kernel
theorem dX4_leaderOf_98 : decode cX4_leaderOf 98 = .ok (.goto (-77), 3) := by decide +kernel
theorem dX4_leaderOf_101 : decode cX4_leaderOf 101 = .ok (.iload_n 3, 1) := by decide +kernel
theorem dX4_leaderOf_102 : decode cX4_leaderOf 102 = .ok (.ireturn, 1) := by decide +kernel
theorem dX5_init_0 : decode cX5_init 0 = .ok (.aload_n 0, 1) := by decide +kernel
theorem dX5_init_1 : decode cX5_init 1 = .ok (.invokespecial 3, 3) := by decide +kernel
theorem dX5_init_4 : decode cX5_init 4 = .ok (.aload_n 0, 1) := by decide +kernel
theorem dX5_init_5 : decode cX5_init 5 = .ok (.iconst (-1), 1) := by decide +kernel
theorem dX5_init_6 : decode cX5_init 6 = .ok (.putfield 9, 3) := by decide +kernel
theorem dX5_init_9 : decode cX5_init 9 = .ok (.aload_n 0, 1) := by decide +kernel
theorem dX5_init_10 : decode cX5_init 10 = .ok (.iconst 0, 1) := by decide +kernel
theorem dX5_init_11 : decode cX5_init 11 = .ok (.putfield 15, 3) := by decide +kernel
theorem dX5_init_14 : decode cX5_init 14 = .ok (.aload_n 0, 1) := by decide +kernel
theorem dX5_init_15 : decode cX5_init 15 = .ok (.iconst 0, 1) := by decide +kernel
theorem dX5_init_16 : decode cX5_init 16 = .ok (.putfield 18, 3) := by decide +kernel
theorem dX5_init_19 : decode cX5_init 19 = .ok (.aload_n 0, 1) := by decide +kernel
theorem dX5_init_20 : decode cX5_init 20 = .ok (.iconst 0, 1) := by decide +kernel
theorem dX5_init_21 : decode cX5_init 21 = .ok (.putfield 21, 3) := by decide +kernel
theorem dX5_init_24 : decode cX5_init 24 = .ok (.aload_n 0, 1) := by decide +kernel
theorem dX5_init_25 : decode cX5_init 25 = .ok (.new 24, 3) := by decide +kernel
theorem dX5_init_28 : decode cX5_init 28 = .ok (.dup, 1) := by decide +kernel
theorem dX5_init_29 : decode cX5_init 29 = .ok (.invokespecial 26, 3) := by decide +kernel
theorem dX5_init_32 : decode cX5_init 32 = .ok (.putfield 27, 3) := by decide +kernel
theorem dX5_init_35 : decode cX5_init 35 = .ok (.aload_n 0, 1) := by decide +kernel
theorem dX5_init_36 : decode cX5_init 36 = .ok (.new 31, 3) := by decide +kernel
theorem dX5_init_39 : decode cX5_init 39 = .ok (.dup, 1) := by decide +kernel
theorem dX5_init_40 : decode cX5_init 40 = .ok (.invokespecial 33, 3) := by decide +kernel
theorem dX5_init_43 : decode cX5_init 43 = .ok (.putfield 34, 3) := by decide +kernel
theorem dX5_init_46 : decode cX5_init 46 = .ok (.aload_n 0, 1) := by decide +kernel
theorem dX5_init_47 : decode cX5_init 47 = .ok (.new 38, 3) := by decide +kernel
theorem dX5_init_50 : decode cX5_init 50 = .ok (.dup, 1) := by decide +kernel
theorem dX5_init_51 : decode cX5_init 51 = .ok (.invokespecial 40, 3) := by decide +kernel
theorem dX5_init_54 : decode cX5_init 54 = .ok (.putfield 41, 3) := by decide +kernel
theorem dX5_init_57 : decode cX5_init 57 = .ok (.return_, 1) := by decide +kernel
theorem dX5_readDraft_0 : decode cX5_readDraft 0 = .ok (.aload_n 0, 1) := by decide +kernel
theorem dX5_readDraft_1 : decode cX5_readDraft 1 = .ok (.getfield 27, 3) := by decide +kernel
theorem dX5_readDraft_4 : decode cX5_readDraft 4 = .ok (.invokevirtual 45, 3) := by decide +kernel
theorem dX5_readDraft_7 : decode cX5_readDraft 7 = .ok (.aload_n 0, 1) := by decide +kernel
theorem dX5_readDraft_8 : decode cX5_readDraft 8 = .ok (.getfield 34, 3) := by decide +kernel
theorem dX5_readDraft_11 : decode cX5_readDraft 11 = .ok (.aload_n 1, 1) := by decide +kernel
theorem dX5_readDraft_12 : decode cX5_readDraft 12 = .ok (.iload_n 2, 1) := by decide +kernel
theorem dX5_readDraft_13 : decode cX5_readDraft 13 = .ok (.invokevirtual 48, 3) := by decide +kernel
theorem dX5_readDraft_16 : decode cX5_readDraft 16 = .ok (.aload_n 0, 1) := by decide +kernel
theorem dX5_readDraft_17 : decode cX5_readDraft 17 = .ok (.iconst 0, 1) := by decide +kernel
theorem dX5_readDraft_18 : decode cX5_readDraft 18 = .ok (.putfield 18, 3) := by decide +kernel
theorem dX5_readDraft_21 : decode cX5_readDraft 21 = .ok (.aload_n 0, 1) := by decide +kernel
theorem dX5_readDraft_22 : decode cX5_readDraft 22 = .ok (.iconst 0, 1) := by decide +kernel
theorem dX5_readDraft_23 : decode cX5_readDraft 23 = .ok (.putfield 15, 3) := by decide +kernel
theorem dX5_readDraft_26 : decode cX5_readDraft 26 = .ok (.aload_n 0, 1) := by decide +kernel
theorem dX5_readDraft_27 : decode cX5_readDraft 27 = .ok (.iconst (-1), 1) := by decide +kernel
theorem dX5_readDraft_28 : decode cX5_readDraft 28 = .ok (.putfield 9, 3) := by decide +kernel
theorem dX5_readDraft_31 : decode cX5_readDraft 31 = .ok (.iconst 1, 1) := by decide +kernel
theorem dX5_readDraft_32 : decode cX5_readDraft 32 = .ok (.istore_n 3, 1) := by decide +kernel
theorem dX5_readDraft_33 : decode cX5_readDraft 33 = .ok (.iconst 0, 1) := by decide +kernel
theorem dX5_readDraft_34 : decode cX5_readDraft 34 = .ok (.istore 4, 2) := by decide +kernel
theorem dX5_readDraft_36 : decode cX5_readDraft 36 = .ok (.iload 4, 2) := by decide +kernel
theorem dX5_readDraft_38 : decode cX5_readDraft 38 = .ok (.sipush 400, 3) := by decide +kernel
theorem dX5_readDraft_41 : decode cX5_readDraft 41 = .ok (.if_icmp .gt 25, 3) := by decide +kernel
theorem dX5_readDraft_44 : decode cX5_readDraft 44 = .ok (.iload_n 3, 1) := by decide +kernel
theorem dX5_readDraft_45 : decode cX5_readDraft 45 = .ok (.ifCond .eq 21, 3) := by decide +kernel
theorem dX5_readDraft_48 : decode cX5_readDraft 48 = .ok (.aload_n 0, 1) := by decide +kernel
theorem dX5_readDraft_49 : decode cX5_readDraft 49 = .ok (.invokevirtual 52, 3) := by decide +kernel
theorem dX5_readDraft_52 : decode cX5_readDraft 52 = .ok (.ifCond .eq 14, 3) := by decide +kernel
theorem dX5_readDraft_55 : decode cX5_readDraft 55 = .ok (.aload_n 0, 1) := by decide +kernel
theorem dX5_readDraft_56 : decode cX5_readDraft 56 = .ok (.invokevirtual 56, 3) := by decide +kernel
theorem dX5_readDraft_59 : decode cX5_readDraft 59 = .ok (.istore_n 3, 1) := by decide +kernel
theorem dX5_readDraft_60 : decode cX5_readDraft 60 = .ok (.iinc 4 1, 3) := by decide +kernel
theorem dX5_readDraft_63 : decode cX5_readDraft 63 = .ok (.goto (-27), 3) := by decide +kernel
theorem dX5_readDraft_66 : decode cX5_readDraft 66 = .ok (.aload_n 0, 1) := by decide +kernel
theorem dX5_readDraft_67 : decode cX5_readDraft 67 = .ok (.getfield 15, 3) := by decide +kernel
theorem dX5_readDraft_70 : decode cX5_readDraft 70 = .ok (.ifCond .ne 7, 3) := by decide +kernel
theorem dX5_readDraft_73 : decode cX5_readDraft 73 = .ok (.aload_n 0, 1) := by decide +kernel
theorem dX5_readDraft_74 : decode cX5_readDraft 74 = .ok (.invokevirtual 60, 3) := by decide +kernel
theorem dX5_readDraft_77 : decode cX5_readDraft 77 = .ok (.aload_n 0, 1) := by decide +kernel
theorem dX5_readDraft_78 : decode cX5_readDraft 78 = .ok (.getfield 15, 3) := by decide +kernel
theorem dX5_readDraft_81 : decode cX5_readDraft 81 = .ok (.ireturn, 1) := by decide +kernel
theorem dX5_exchange_0 : decode cX5_exchange 0 = .ok (.aload_n 0, 1) := by decide +kernel
theorem dX5_exchange_1 : decode cX5_exchange 1 = .ok (.getfield 27, 3) := by decide +kernel
theorem dX5_exchange_4 : decode cX5_exchange 4 = .ok (.astore_n 2, 1) := by decide +kernel
theorem dX5_exchange_5 : decode cX5_exchange 5 = .ok (.aload_n 0, 1) := by decide +kernel
theorem dX5_exchange_6 : decode cX5_exchange 6 = .ok (.aload_n 1, 1) := by decide +kernel
theorem dX5_exchange_7 : decode cX5_exchange 7 = .ok (.putfield 27, 3) := by decide +kernel
theorem dX5_exchange_10 : decode cX5_exchange 10 = .ok (.aload_n 2, 1) := by decide +kernel
theorem dX5_exchange_11 : decode cX5_exchange 11 = .ok (.areturn, 1) := by decide +kernel
theorem dX5_kind_0 : decode cX5_kind 0 = .ok (.aload_n 0, 1) := by decide +kernel
theorem dX5_kind_1 : decode cX5_kind 1 = .ok (.getfield 18, 3) := by decide +kernel
theorem dX5_kind_4 : decode cX5_kind 4 = .ok (.sipush 400, 3) := by decide +kernel
theorem dX5_kind_7 : decode cX5_kind 7 = .ok (.if_icmp .gt 18, 3) := by decide +kernel
theorem dX5_kind_10 : decode cX5_kind 10 = .ok (.aload_n 0, 1) := by decide +kernel
theorem dX5_kind_11 : decode cX5_kind 11 = .ok (.getfield 34, 3) := by decide +kernel
theorem dX5_kind_14 : decode cX5_kind 14 = .ok (.getfield 63, 3) := by decide +kernel
theorem dX5_kind_17 : decode cX5_kind 17 = .ok (.aload_n 0, 1) := by decide +kernel
theorem dX5_kind_18 : decode cX5_kind 18 = .ok (.getfield 18, 3) := by decide +kernel
theorem dX5_kind_21 : decode cX5_kind 21 = .ok (.iaload, 1) := by decide +kernel
theorem dX5_kind_22 : decode cX5_kind 22 = .ok (.goto 4, 3) := by decide +kernel
theorem dX5_kind_25 : decode cX5_kind 25 = .ok (.iconst 0, 1) := by decide +kernel
theorem dX5_kind_26 : decode cX5_kind 26 = .ok (.ireturn, 1) := by decide +kernel
theorem dX5_readTell_0 : decode cX5_readTell 0 = .ok (.aload_n 0, 1) := by decide +kernel
theorem dX5_readTell_1 : decode cX5_readTell 1 = .ok (.invokevirtual 52, 3) := by decide +kernel
theorem dX5_readTell_4 : decode cX5_readTell 4 = .ok (.istore_n 1, 1) := by decide +kernel
theorem dX5_readTell_5 : decode cX5_readTell 5 = .ok (.iload_n 1, 1) := by decide +kernel
theorem dX5_readTell_6 : decode cX5_readTell 6 = .ok (.sipush 256, 3) := by decide +kernel
theorem dX5_readTell_9 : decode cX5_readTell 9 = .ok (.if_icmp .lt 10, 3) := by decide +kernel
theorem dX5_readTell_12 : decode cX5_readTell 12 = .ok (.iload_n 1, 1) := by decide +kernel
theorem dX5_readTell_13 : decode cX5_readTell 13 = .ok (.sipush 263, 3) := by decide +kernel
theorem dX5_readTell_16 : decode cX5_readTell 16 = .ok (.if_icmp .le 9, 3) := by decide +kernel
theorem dX5_readTell_19 : decode cX5_readTell 19 = .ok (.aload_n 0, 1) := by decide +kernel
theorem dX5_readTell_20 : decode cX5_readTell 20 = .ok (.iconst 1, 1) := by decide +kernel
theorem dX5_readTell_21 : decode cX5_readTell 21 = .ok (.invokevirtual 67, 3) := by decide +kernel
theorem dX5_readTell_24 : decode cX5_readTell 24 = .ok (.ireturn, 1) := by decide +kernel
theorem dX5_readTell_25 : decode cX5_readTell 25 = .ok (.aload_n 0, 1) := by decide +kernel
theorem dX5_readTell_26 : decode cX5_readTell 26 = .ok (.getfield 27, 3) := by decide +kernel
theorem dX5_readTell_29 : decode cX5_readTell 29 = .ok (.iload_n 1, 1) := by decide +kernel
theorem dX5_readTell_30 : decode cX5_readTell 30 = .ok (.invokevirtual 71, 3) := by decide +kernel
theorem dX5_readTell_33 : decode cX5_readTell 33 = .ok (.ifCond .eq 9, 3) := by decide +kernel
theorem dX5_readTell_36 : decode cX5_readTell 36 = .ok (.aload_n 0, 1) := by decide +kernel
theorem dX5_readTell_37 : decode cX5_readTell 37 = .ok (.iconst 2, 1) := by decide +kernel
theorem dX5_readTell_38 : decode cX5_readTell 38 = .ok (.invokevirtual 67, 3) := by decide +kernel
theorem dX5_readTell_41 : decode cX5_readTell 41 = .ok (.ireturn, 1) := by decide +kernel
theorem dX5_readTell_42 : decode cX5_readTell 42 = .ok (.aload_n 0, 1) := by decide +kernel
theorem dX5_readTell_43 : decode cX5_readTell 43 = .ok (.iload_n 1, 1) := by decide +kernel
theorem dX5_readTell_44 : decode cX5_readTell 44 = .ok (.invokevirtual 74, 3) := by decide +kernel
theorem dX5_readTell_47 : decode cX5_readTell 47 = .ok (.ifCond .ne 5, 3) := by decide +kernel
theorem dX5_readTell_50 : decode cX5_readTell 50 = .ok (.iconst 0, 1) := by decide +kernel
theorem dX5_readTell_51 : decode cX5_readTell 51 = .ok (.ireturn, 1) := by decide +kernel
theorem dX5_readTell_52 : decode cX5_readTell 52 = .ok (.iload_n 1, 1) := by decide +kernel
theorem dX5_readTell_53 : decode cX5_readTell 53 = .ok (.tableswitch 210 256 262 #[43, 85, 114, 210, 134, 210, 172], 43) := by decide +kernel
theorem dX5_readTell_96 : decode cX5_readTell 96 = .ok (.aload_n 0, 1) := by decide +kernel
theorem dX5_readTell_97 : decode cX5_readTell 97 = .ok (.invokevirtual 77, 3) := by decide +kernel
theorem dX5_readTell_100 : decode cX5_readTell 100 = .ok (.ifCond .eq 36, 3) := by decide +kernel
theorem dX5_readTell_103 : decode cX5_readTell 103 = .ok (.aload_n 0, 1) := by decide +kernel
theorem dX5_readTell_104 : decode cX5_readTell 104 = .ok (.iconst 3, 1) := by decide +kernel
theorem dX5_readTell_105 : decode cX5_readTell 105 = .ok (.invokevirtual 74, 3) := by decide +kernel
theorem dX5_readTell_108 : decode cX5_readTell 108 = .ok (.ifCond .eq 28, 3) := by decide +kernel
theorem dX5_readTell_111 : decode cX5_readTell 111 = .ok (.aload_n 0, 1) := by decide +kernel
theorem dX5_readTell_112 : decode cX5_readTell 112 = .ok (.invokevirtual 80, 3) := by decide +kernel
theorem dX5_readTell_115 : decode cX5_readTell 115 = .ok (.ifCond .eq 21, 3) := by decide +kernel
theorem dX5_readTell_118 : decode cX5_readTell 118 = .ok (.aload_n 0, 1) := by decide +kernel
theorem dX5_readTell_119 : decode cX5_readTell 119 = .ok (.invokevirtual 83, 3) := by decide +kernel
theorem dX5_readTell_122 : decode cX5_readTell 122 = .ok (.ifCond .eq 14, 3) := by decide +kernel
theorem dX5_readTell_125 : decode cX5_readTell 125 = .ok (.aload_n 0, 1) := by decide +kernel
theorem dX5_readTell_126 : decode cX5_readTell 126 = .ok (.invokevirtual 86, 3) := by decide +kernel
theorem dX5_readTell_129 : decode cX5_readTell 129 = .ok (.ifCond .eq 7, 3) := by decide +kernel
theorem dX5_readTell_132 : decode cX5_readTell 132 = .ok (.iconst 1, 1) := by decide +kernel
theorem dX5_readTell_133 : decode cX5_readTell 133 = .ok (.goto 4, 3) := by decide +kernel
theorem dX5_readTell_136 : decode cX5_readTell 136 = .ok (.iconst 0, 1) := by decide +kernel
theorem dX5_readTell_137 : decode cX5_readTell 137 = .ok (.ireturn, 1) := by decide +kernel
theorem dX5_readTell_138 : decode cX5_readTell 138 = .ok (.aload_n 0, 1) := by decide +kernel
theorem dX5_readTell_139 : decode cX5_readTell 139 = .ok (.invokevirtual 77, 3) := by decide +kernel
theorem dX5_readTell_142 : decode cX5_readTell 142 = .ok (.ifCond .eq 23, 3) := by decide +kernel
theorem dX5_readTell_145 : decode cX5_readTell 145 = .ok (.aload_n 0, 1) := by decide +kernel
theorem dX5_readTell_146 : decode cX5_readTell 146 = .ok (.invokevirtual 89, 3) := by decide +kernel
theorem dX5_readTell_149 : decode cX5_readTell 149 = .ok (.ifCond .eq 16, 3) := by decide +kernel
theorem dX5_readTell_152 : decode cX5_readTell 152 = .ok (.aload_n 0, 1) := by decide +kernel
theorem dX5_readTell_153 : decode cX5_readTell 153 = .ok (.bipush 59, 2) := by decide +kernel
theorem dX5_readTell_155 : decode cX5_readTell 155 = .ok (.invokevirtual 74, 3) := by decide +kernel
theorem dX5_readTell_158 : decode cX5_readTell 158 = .ok (.ifCond .eq 7, 3) := by decide +kernel
theorem dX5_readTell_161 : decode cX5_readTell 161 = .ok (.iconst 1, 1) := by decide +kernel
theorem dX5_readTell_162 : decode cX5_readTell 162 = .ok (.goto 4, 3) := by decide +kernel
theorem dX5_readTell_165 : decode cX5_readTell 165 = .ok (.iconst 0, 1) := by decide +kernel
theorem dX5_readTell_166 : decode cX5_readTell 166 = .ok (.ireturn, 1) := by decide +kernel
theorem dX5_readTell_167 : decode cX5_readTell 167 = .ok (.aload_n 0, 1) := by decide +kernel
theorem dX5_readTell_168 : decode cX5_readTell 168 = .ok (.invokevirtual 83, 3) := by decide +kernel
theorem dX5_readTell_171 : decode cX5_readTell 171 = .ok (.ifCond .eq 14, 3) := by decide +kernel
theorem dX5_readTell_174 : decode cX5_readTell 174 = .ok (.aload_n 0, 1) := by decide +kernel
theorem dX5_readTell_175 : decode cX5_readTell 175 = .ok (.invokevirtual 92, 3) := by decide +kernel
theorem dX5_readTell_178 : decode cX5_readTell 178 = .ok (.ifCond .eq 7, 3) := by decide +kernel
theorem dX5_readTell_181 : decode cX5_readTell 181 = .ok (.iconst 1, 1) := by decide +kernel
theorem dX5_readTell_182 : decode cX5_readTell 182 = .ok (.goto 4, 3) := by decide +kernel
theorem dX5_readTell_185 : decode cX5_readTell 185 = .ok (.iconst 0, 1) := by decide +kernel
theorem dX5_readTell_186 : decode cX5_readTell 186 = .ok (.ireturn, 1) := by decide +kernel
theorem dX5_readTell_187 : decode cX5_readTell 187 = .ok (.aload_n 0, 1) := by decide +kernel
theorem dX5_readTell_188 : decode cX5_readTell 188 = .ok (.iconst 3, 1) := by decide +kernel
theorem dX5_readTell_189 : decode cX5_readTell 189 = .ok (.invokevirtual 74, 3) := by decide +kernel
theorem dX5_readTell_192 : decode cX5_readTell 192 = .ok (.ifCond .eq 31, 3) := by decide +kernel
theorem dX5_readTell_195 : decode cX5_readTell 195 = .ok (.aload_n 0, 1) := by decide +kernel
theorem dX5_readTell_196 : decode cX5_readTell 196 = .ok (.iconst 3, 1) := by decide +kernel
theorem dX5_readTell_197 : decode cX5_readTell 197 = .ok (.invokevirtual 74, 3) := by decide +kernel
theorem dX5_readTell_200 : decode cX5_readTell 200 = .ok (.ifCond .eq 23, 3) := by decide +kernel
theorem dX5_readTell_203 : decode cX5_readTell 203 = .ok (.aload_n 0, 1) := by decide +kernel
theorem dX5_readTell_204 : decode cX5_readTell 204 = .ok (.invokevirtual 95, 3) := by decide +kernel
theorem dX5_readTell_207 : decode cX5_readTell 207 = .ok (.ifCond .eq 16, 3) := by decide +kernel
theorem dX5_readTell_210 : decode cX5_readTell 210 = .ok (.aload_n 0, 1) := by decide +kernel
theorem dX5_readTell_211 : decode cX5_readTell 211 = .ok (.bipush 59, 2) := by decide +kernel
theorem dX5_readTell_213 : decode cX5_readTell 213 = .ok (.invokevirtual 74, 3) := by decide +kernel
theorem dX5_readTell_216 : decode cX5_readTell 216 = .ok (.ifCond .eq 7, 3) := by decide +kernel
theorem dX5_readTell_219 : decode cX5_readTell 219 = .ok (.iconst 1, 1) := by decide +kernel
theorem dX5_readTell_220 : decode cX5_readTell 220 = .ok (.goto 4, 3) := by decide +kernel
theorem dX5_readTell_223 : decode cX5_readTell 223 = .ok (.iconst 0, 1) := by decide +kernel
theorem dX5_readTell_224 : decode cX5_readTell 224 = .ok (.ireturn, 1) := by decide +kernel
theorem dX5_readTell_225 : decode cX5_readTell 225 = .ok (.aload_n 0, 1) := by decide +kernel
theorem dX5_readTell_226 : decode cX5_readTell 226 = .ok (.iconst 3, 1) := by decide +kernel
theorem dX5_readTell_227 : decode cX5_readTell 227 = .ok (.invokevirtual 74, 3) := by decide +kernel
theorem dX5_readTell_230 : decode cX5_readTell 230 = .ok (.ifCond .eq 31, 3) := by decide +kernel
theorem dX5_readTell_233 : decode cX5_readTell 233 = .ok (.aload_n 0, 1) := by decide +kernel
theorem dX5_readTell_234 : decode cX5_readTell 234 = .ok (.iconst 3, 1) := by decide +kernel
theorem dX5_readTell_235 : decode cX5_readTell 235 = .ok (.invokevirtual 74, 3) := by decide +kernel
theorem dX5_readTell_238 : decode cX5_readTell 238 = .ok (.ifCond .eq 23, 3) := by decide +kernel
theorem dX5_readTell_241 : decode cX5_readTell 241 = .ok (.aload_n 0, 1) := by decide +kernel
theorem dX5_readTell_242 : decode cX5_readTell 242 = .ok (.invokevirtual 98, 3) := by decide +kernel
theorem dX5_readTell_245 : decode cX5_readTell 245 = .ok (.ifCond .eq 16, 3) := by decide +kernel
theorem dX5_readTell_248 : decode cX5_readTell 248 = .ok (.aload_n 0, 1) := by decide +kernel
theorem dX5_readTell_249 : decode cX5_readTell 249 = .ok (.bipush 59, 2) := by decide +kernel
theorem dX5_readTell_251 : decode cX5_readTell 251 = .ok (.invokevirtual 74, 3) := by decide +kernel
theorem dX5_readTell_254 : decode cX5_readTell 254 = .ok (.ifCond .eq 7, 3) := by decide +kernel
theorem dX5_readTell_257 : decode cX5_readTell 257 = .ok (.iconst 1, 1) := by decide +kernel
theorem dX5_readTell_258 : decode cX5_readTell 258 = .ok (.goto 4, 3) := by decide +kernel
theorem dX5_readTell_261 : decode cX5_readTell 261 = .ok (.iconst 0, 1) := by decide +kernel
theorem dX5_readTell_262 : decode cX5_readTell 262 = .ok (.ireturn, 1) := by decide +kernel
theorem dX5_readTell_263 : decode cX5_readTell 263 = .ok (.aload_n 0, 1) := by decide +kernel
theorem dX5_readTell_264 : decode cX5_readTell 264 = .ok (.iconst 3, 1) := by decide +kernel
theorem dX5_readTell_265 : decode cX5_readTell 265 = .ok (.invokevirtual 74, 3) := by decide +kernel
theorem dX5_readTell_268 : decode cX5_readTell 268 = .ok (.ifCond .eq 24, 3) := by decide +kernel
theorem dX5_readTell_271 : decode cX5_readTell 271 = .ok (.aload_n 0, 1) := by decide +kernel
theorem dX5_readTell_272 : decode cX5_readTell 272 = .ok (.iload_n 1, 1) := by decide +kernel
theorem dX5_readTell_273 : decode cX5_readTell 273 = .ok (.invokevirtual 101, 3) := by decide +kernel
theorem dX5_readTell_276 : decode cX5_readTell 276 = .ok (.ifCond .eq 16, 3) := by decide +kernel
theorem dX5_readTell_279 : decode cX5_readTell 279 = .ok (.aload_n 0, 1) := by decide +kernel
theorem dX5_readTell_280 : decode cX5_readTell 280 = .ok (.bipush 59, 2) := by decide +kernel
theorem dX5_readTell_282 : decode cX5_readTell 282 = .ok (.invokevirtual 74, 3) := by decide +kernel
theorem dX5_readTell_285 : decode cX5_readTell 285 = .ok (.ifCond .eq 7, 3) := by decide +kernel
theorem dX5_readTell_288 : decode cX5_readTell 288 = .ok (.iconst 1, 1) := by decide +kernel
theorem dX5_readTell_289 : decode cX5_readTell 289 = .ok (.goto 4, 3) := by decide +kernel
theorem dX5_readTell_292 : decode cX5_readTell 292 = .ok (.iconst 0, 1) := by decide +kernel
theorem dX5_readTell_293 : decode cX5_readTell 293 = .ok (.ireturn, 1) := by decide +kernel
theorem dX5_stop_0 : decode cX5_stop 0 = .ok (.aload_n 0, 1) := by decide +kernel
theorem dX5_stop_1 : decode cX5_stop 1 = .ok (.iload_n 1, 1) := by decide +kernel
theorem dX5_stop_2 : decode cX5_stop 2 = .ok (.putfield 15, 3) := by decide +kernel
theorem dX5_stop_5 : decode cX5_stop 5 = .ok (.aload_n 0, 1) := by decide +kernel
theorem dX5_stop_6 : decode cX5_stop 6 = .ok (.aload_n 0, 1) := by decide +kernel
theorem dX5_stop_7 : decode cX5_stop 7 = .ok (.getfield 34, 3) := by decide +kernel
theorem dX5_stop_10 : decode cX5_stop 10 = .ok (.getfield 104, 3) := by decide +kernel
theorem dX5_stop_13 : decode cX5_stop 13 = .ok (.aload_n 0, 1) := by decide +kernel
theorem dX5_stop_14 : decode cX5_stop 14 = .ok (.getfield 18, 3) := by decide +kernel
theorem dX5_stop_17 : decode cX5_stop 17 = .ok (.iaload, 1) := by decide +kernel
theorem dX5_stop_18 : decode cX5_stop 18 = .ok (.putfield 9, 3) := by decide +kernel
theorem dX5_stop_21 : decode cX5_stop 21 = .ok (.iconst 0, 1) := by decide +kernel
theorem dX5_stop_22 : decode cX5_stop 22 = .ok (.ireturn, 1) := by decide +kernel
theorem dX5_note_0 : decode cX5_note 0 = .ok (.aload_n 0, 1) := by decide +kernel
theorem dX5_note_1 : decode cX5_note 1 = .ok (.getfield 15, 3) := by decide +kernel
theorem dX5_note_4 : decode cX5_note 4 = .ok (.ifCond .ne 34, 3) := by decide +kernel
theorem dX5_note_7 : decode cX5_note 7 = .ok (.aload_n 0, 1) := by decide +kernel
theorem dX5_note_8 : decode cX5_note 8 = .ok (.getfield 18, 3) := by decide +kernel
theorem dX5_note_11 : decode cX5_note 11 = .ok (.iload_n 2, 1) := by decide +kernel
theorem dX5_note_12 : decode cX5_note 12 = .ok (.if_icmp .lt 26, 3) := by decide +kernel
theorem dX5_note_15 : decode cX5_note 15 = .ok (.aload_n 0, 1) := by decide +kernel
theorem dX5_note_16 : decode cX5_note 16 = .ok (.iload_n 1, 1) := by decide +kernel
theorem dX5_note_17 : decode cX5_note 17 = .ok (.putfield 15, 3) := by decide +kernel
theorem dX5_note_20 : decode cX5_note 20 = .ok (.aload_n 0, 1) := by decide +kernel
theorem dX5_note_21 : decode cX5_note 21 = .ok (.aload_n 0, 1) := by decide +kernel
theorem dX5_note_22 : decode cX5_note 22 = .ok (.getfield 34, 3) := by decide +kernel
theorem dX5_note_25 : decode cX5_note 25 = .ok (.getfield 104, 3) := by decide +kernel
theorem dX5_note_28 : decode cX5_note 28 = .ok (.aload_n 0, 1) := by decide +kernel
theorem dX5_note_29 : decode cX5_note 29 = .ok (.getfield 18, 3) := by decide +kernel
theorem dX5_note_32 : decode cX5_note 32 = .ok (.iload_n 2, 1) := by decide +kernel
theorem dX5_note_33 : decode cX5_note 33 = .ok (.isub, 1) := by decide +kernel
theorem dX5_note_34 : decode cX5_note 34 = .ok (.iaload, 1) := by decide +kernel
theorem dX5_note_35 : decode cX5_note 35 = .ok (.putfield 9, 3) := by decide +kernel
theorem dX5_note_38 : decode cX5_note 38 = .ok (.return_, 1) := by decide +kernel
theorem dX5_take_0 : decode cX5_take 0 = .ok (.aload_n 0, 1) := by decide +kernel
theorem dX5_take_1 : decode cX5_take 1 = .ok (.invokevirtual 52, 3) := by decide +kernel
theorem dX5_take_4 : decode cX5_take 4 = .ok (.iload_n 1, 1) := by decide +kernel
theorem dX5_take_5 : decode cX5_take 5 = .ok (.if_icmp .eq 9, 3) := by decide +kernel
theorem dX5_take_8 : decode cX5_take 8 = .ok (.aload_n 0, 1) := by decide +kernel
theorem dX5_take_9 : decode cX5_take 9 = .ok (.iconst 1, 1) := by decide +kernel
theorem dX5_take_10 : decode cX5_take 10 = .ok (.invokevirtual 67, 3) := by decide +kernel
theorem dX5_take_13 : decode cX5_take 13 = .ok (.ireturn, 1) := by decide +kernel
theorem dX5_take_14 : decode cX5_take 14 = .ok (.aload_n 0, 1) := by decide +kernel
theorem dX5_take_15 : decode cX5_take 15 = .ok (.getfield 18, 3) := by decide +kernel
theorem dX5_take_18 : decode cX5_take 18 = .ok (.sipush 400, 3) := by decide +kernel
theorem dX5_take_21 : decode cX5_take 21 = .ok (.if_icmp .lt 9, 3) := by decide +kernel
theorem dX5_take_24 : decode cX5_take 24 = .ok (.aload_n 0, 1) := by decide +kernel
theorem dX5_take_25 : decode cX5_take 25 = .ok (.iconst 2, 1) := by decide +kernel
theorem dX5_take_26 : decode cX5_take 26 = .ok (.invokevirtual 67, 3) := by decide +kernel
theorem dX5_take_29 : decode cX5_take 29 = .ok (.ireturn, 1) := by decide +kernel
theorem dX5_take_30 : decode cX5_take 30 = .ok (.aload_n 0, 1) := by decide +kernel
theorem dX5_take_31 : decode cX5_take 31 = .ok (.dup, 1) := by decide +kernel
theorem dX5_take_32 : decode cX5_take 32 = .ok (.getfield 18, 3) := by decide +kernel
theorem dX5_take_35 : decode cX5_take 35 = .ok (.iconst 1, 1) := by decide +kernel
theorem dX5_take_36 : decode cX5_take 36 = .ok (.iadd, 1) := by decide +kernel
theorem dX5_take_37 : decode cX5_take 37 = .ok (.putfield 18, 3) := by decide +kernel
theorem dX5_take_40 : decode cX5_take 40 = .ok (.iconst 1, 1) := by decide +kernel
theorem dX5_take_41 : decode cX5_take 41 = .ok (.ireturn, 1) := by decide +kernel
theorem dX5_taken_0 : decode cX5_taken 0 = .ok (.aload_n 0, 1) := by decide +kernel
theorem dX5_taken_1 : decode cX5_taken 1 = .ok (.getfield 18, 3) := by decide +kernel
theorem dX5_taken_4 : decode cX5_taken 4 = .ok (.iload_n 1, 1) := by decide +kernel
theorem dX5_taken_5 : decode cX5_taken 5 = .ok (.if_icmp .lt 20, 3) := by decide +kernel
theorem dX5_taken_8 : decode cX5_taken 8 = .ok (.aload_n 0, 1) := by decide +kernel
theorem dX5_taken_9 : decode cX5_taken 9 = .ok (.getfield 34, 3) := by decide +kernel
theorem dX5_taken_12 : decode cX5_taken 12 = .ok (.getfield 107, 3) := by decide +kernel
theorem dX5_taken_15 : decode cX5_taken 15 = .ok (.aload_n 0, 1) := by decide +kernel
theorem dX5_taken_16 : decode cX5_taken 16 = .ok (.getfield 18, 3) := by decide +kernel
theorem dX5_taken_19 : decode cX5_taken 19 = .ok (.iload_n 1, 1) := by decide +kernel
theorem dX5_taken_20 : decode cX5_taken 20 = .ok (.isub, 1) := by decide +kernel
theorem dX5_taken_21 : decode cX5_taken 21 = .ok (.laload, 1) := by decide +kernel
theorem dX5_taken_22 : decode cX5_taken 22 = .ok (.goto 4, 3) := by decide +kernel
theorem dX5_taken_25 : decode cX5_taken 25 = .ok (.lconst 0, 1) := by decide +kernel
theorem dX5_taken_26 : decode cX5_taken 26 = .ok (.lreturn, 1) := by decide +kernel
theorem dX5_takenWithin_0 : decode cX5_takenWithin 0 = .ok (.aload_n 0, 1) := by decide +kernel
theorem dX5_takenWithin_1 : decode cX5_takenWithin 1 = .ok (.iload_n 1, 1) := by decide +kernel
theorem dX5_takenWithin_2 : decode cX5_takenWithin 2 = .ok (.invokevirtual 111, 3) := by decide +kernel
theorem dX5_takenWithin_5 : decode cX5_takenWithin 5 = .ok (.iload_n 2, 1) := by decide +kernel
theorem dX5_takenWithin_6 : decode cX5_takenWithin 6 = .ok (.i2l, 1) := by decide +kernel
theorem dX5_takenWithin_7 : decode cX5_takenWithin 7 = .ok (.iload_n 3, 1) := by decide +kernel
theorem dX5_takenWithin_8 : decode cX5_takenWithin 8 = .ok (.i2l, 1) := by decide +kernel
theorem dX5_takenWithin_9 : decode cX5_takenWithin 9 = .ok (.invokestatic 115, 3) := by decide +kernel
theorem dX5_takenWithin_12 : decode cX5_takenWithin 12 = .ok (.istore 4, 2) := by decide +kernel
theorem dX5_takenWithin_14 : decode cX5_takenWithin 14 = .ok (.iload 4, 2) := by decide +kernel
theorem dX5_takenWithin_16 : decode cX5_takenWithin 16 = .ok (.ifCond .ne 9, 3) := by decide +kernel
theorem dX5_takenWithin_19 : decode cX5_takenWithin 19 = .ok (.aload_n 0, 1) := by decide +kernel
theorem dX5_takenWithin_20 : decode cX5_takenWithin 20 = .ok (.iconst 5, 1) := by decide +kernel
theorem dX5_takenWithin_21 : decode cX5_takenWithin 21 = .ok (.iload_n 1, 1) := by decide +kernel
theorem dX5_takenWithin_22 : decode cX5_takenWithin 22 = .ok (.invokevirtual 119, 3) := by decide +kernel
theorem dX5_takenWithin_25 : decode cX5_takenWithin 25 = .ok (.iload 4, 2) := by decide +kernel
theorem dX5_takenWithin_27 : decode cX5_takenWithin 27 = .ok (.ireturn, 1) := by decide +kernel
theorem dX5_takeName_0 : decode cX5_takeName 0 = .ok (.aload_n 0, 1) := by decide +kernel
theorem dX5_takeName_1 : decode cX5_takeName 1 = .ok (.iconst 2, 1) := by decide +kernel
theorem dX5_takeName_2 : decode cX5_takeName 2 = .ok (.invokevirtual 74, 3) := by decide +kernel
theorem dX5_takeName_5 : decode cX5_takeName 5 = .ok (.ifCond .ne 5, 3) := by decide +kernel
theorem dX5_takeName_8 : decode cX5_takeName 8 = .ok (.iconst 0, 1) := by decide +kernel
theorem dX5_takeName_9 : decode cX5_takeName 9 = .ok (.ireturn, 1) := by decide +kernel
theorem dX5_takeName_10 : decode cX5_takeName 10 = .ok (.aload_n 0, 1) := by decide +kernel
theorem dX5_takeName_11 : decode cX5_takeName 11 = .ok (.getfield 27, 3) := by decide +kernel
theorem dX5_takeName_14 : decode cX5_takeName 14 = .ok (.aload_n 0, 1) := by decide +kernel
theorem dX5_takeName_15 : decode cX5_takeName 15 = .ok (.iconst 1, 1) := by decide +kernel
theorem dX5_takeName_16 : decode cX5_takeName 16 = .ok (.invokevirtual 111, 3) := by decide +kernel
theorem dX5_takeName_19 : decode cX5_takeName 19 = .ok (.invokevirtual 123, 3) := by decide +kernel
theorem dX5_takeName_22 : decode cX5_takeName 22 = .ok (.ifCond .ne 9, 3) := by decide +kernel
theorem dX5_takeName_25 : decode cX5_takeName 25 = .ok (.aload_n 0, 1) := by decide +kernel
theorem dX5_takeName_26 : decode cX5_takeName 26 = .ok (.iconst 3, 1) := by decide +kernel
theorem dX5_takeName_27 : decode cX5_takeName 27 = .ok (.iconst 1, 1) := by decide +kernel
theorem dX5_takeName_28 : decode cX5_takeName 28 = .ok (.invokevirtual 119, 3) := by decide +kernel
theorem dX5_takeName_31 : decode cX5_takeName 31 = .ok (.iconst 1, 1) := by decide +kernel
theorem dX5_takeName_32 : decode cX5_takeName 32 = .ok (.ireturn, 1) := by decide +kernel
theorem dX5_noteSize_0 : decode cX5_noteSize 0 = .ok (.aload_n 0, 1) := by decide +kernel
theorem dX5_noteSize_1 : decode cX5_noteSize 1 = .ok (.aload_n 0, 1) := by decide +kernel
theorem dX5_noteSize_2 : decode cX5_noteSize 2 = .ok (.iconst 1, 1) := by decide +kernel
theorem dX5_noteSize_3 : decode cX5_noteSize 3 = .ok (.iconst 1, 1) := by decide +kernel
theorem dX5_noteSize_4 : decode cX5_noteSize 4 = .ok (.bipush 6, 2) := by decide +kernel
theorem dX5_noteSize_6 : decode cX5_noteSize 6 = .ok (.invokevirtual 127, 3) := by decide +kernel
theorem dX5_noteSize_9 : decode cX5_noteSize 9 = .ok (.ifCond .eq 12, 3) := by decide +kernel
theorem dX5_noteSize_12 : decode cX5_noteSize 12 = .ok (.aload_n 0, 1) := by decide +kernel
theorem dX5_noteSize_13 : decode cX5_noteSize 13 = .ok (.iconst 1, 1) := by decide +kernel
theorem dX5_noteSize_14 : decode cX5_noteSize 14 = .ok (.invokevirtual 111, 3) := by decide +kernel
theorem dX5_noteSize_17 : decode cX5_noteSize 17 = .ok (.l2i, 1) := by decide +kernel
theorem dX5_noteSize_18 : decode cX5_noteSize 18 = .ok (.goto 4, 3) := by decide +kernel
theorem dX5_noteSize_21 : decode cX5_noteSize 21 = .ok (.iconst 0, 1) := by decide +kernel
theorem dX5_noteSize_22 : decode cX5_noteSize 22 = .ok (.putfield 21, 3) := by decide +kernel
theorem dX5_noteSize_25 : decode cX5_noteSize 25 = .ok (.iconst 1, 1) := by decide +kernel
theorem dX5_noteSize_26 : decode cX5_noteSize 26 = .ok (.ireturn, 1) := by decide +kernel
theorem dX5_tellRow_0 : decode cX5_tellRow 0 = .ok (.iconst 0, 1) := by decide +kernel
theorem dX5_tellRow_1 : decode cX5_tellRow 1 = .ok (.istore_n 1, 1) := by decide +kernel
theorem dX5_tellRow_2 : decode cX5_tellRow 2 = .ok (.iconst 0, 1) := by decide +kernel
theorem dX5_tellRow_3 : decode cX5_tellRow 3 = .ok (.istore_n 2, 1) := by decide +kernel
theorem dX5_tellRow_4 : decode cX5_tellRow 4 = .ok (.iload_n 2, 1) := by decide +kernel
theorem dX5_tellRow_5 : decode cX5_tellRow 5 = .ok (.aload_n 0, 1) := by decide +kernel
theorem dX5_tellRow_6 : decode cX5_tellRow 6 = .ok (.getfield 21, 3) := by decide +kernel
theorem dX5_tellRow_9 : decode cX5_tellRow 9 = .ok (.if_icmp .ge 35, 3) := by decide +kernel
theorem dX5_tellRow_12 : decode cX5_tellRow 12 = .ok (.aload_n 0, 1) := by decide +kernel
theorem dX5_tellRow_13 : decode cX5_tellRow 13 = .ok (.getfield 41, 3) := by decide +kernel
theorem dX5_tellRow_16 : decode cX5_tellRow 16 = .ok (.getfield 131, 3) := by decide +kernel
theorem dX5_tellRow_19 : decode cX5_tellRow 19 = .ok (.iload_n 2, 1) := by decide +kernel
theorem dX5_tellRow_20 : decode cX5_tellRow 20 = .ok (.iload_n 1, 1) := by decide +kernel
theorem dX5_tellRow_21 : decode cX5_tellRow 21 = .ok (.aload_n 0, 1) := by decide +kernel
theorem dX5_tellRow_22 : decode cX5_tellRow 22 = .ok (.getfield 21, 3) := by decide +kernel
theorem dX5_tellRow_25 : decode cX5_tellRow 25 = .ok (.invokevirtual 135, 3) := by decide +kernel
theorem dX5_tellRow_28 : decode cX5_tellRow 28 = .ok (.istore_n 1, 1) := by decide +kernel
theorem dX5_tellRow_29 : decode cX5_tellRow 29 = .ok (.aload_n 0, 1) := by decide +kernel
theorem dX5_tellRow_30 : decode cX5_tellRow 30 = .ok (.getfield 27, 3) := by decide +kernel
theorem dX5_tellRow_33 : decode cX5_tellRow 33 = .ok (.iload_n 2, 1) := by decide +kernel
theorem dX5_tellRow_34 : decode cX5_tellRow 34 = .ok (.iload_n 1, 1) := by decide +kernel
theorem dX5_tellRow_35 : decode cX5_tellRow 35 = .ok (.invokevirtual 141, 3) := by decide +kernel
theorem dX5_tellRow_38 : decode cX5_tellRow 38 = .ok (.iinc 2 1, 3) := by decide +kernel
theorem dX5_tellRow_41 : decode cX5_tellRow 41 = .ok (.goto (-37), 3) := by decide +kernel
theorem dX5_tellRow_44 : decode cX5_tellRow 44 = .ok (.aload_n 0, 1) := by decide +kernel
theorem dX5_tellRow_45 : decode cX5_tellRow 45 = .ok (.getfield 27, 3) := by decide +kernel
theorem dX5_tellRow_48 : decode cX5_tellRow 48 = .ok (.aload_n 0, 1) := by decide +kernel
theorem dX5_tellRow_49 : decode cX5_tellRow 49 = .ok (.getfield 21, 3) := by decide +kernel
theorem dX5_tellRow_52 : decode cX5_tellRow 52 = .ok (.invokevirtual 143, 3) := by decide +kernel
theorem dX5_tellRow_55 : decode cX5_tellRow 55 = .ok (.iconst 1, 1) := by decide +kernel
theorem dX5_tellRow_56 : decode cX5_tellRow 56 = .ok (.ireturn, 1) := by decide +kernel
theorem dX5_tellAsk_0 : decode cX5_tellAsk 0 = .ok (.aload_n 0, 1) := by decide +kernel
theorem dX5_tellAsk_1 : decode cX5_tellAsk 1 = .ok (.getfield 27, 3) := by decide +kernel
theorem dX5_tellAsk_4 : decode cX5_tellAsk 4 = .ok (.getfield 147, 3) := by decide +kernel
theorem dX5_tellAsk_7 : decode cX5_tellAsk 7 = .ok (.aload_n 0, 1) := by decide +kernel
theorem dX5_tellAsk_8 : decode cX5_tellAsk 8 = .ok (.getfield 41, 3) := by decide +kernel
theorem dX5_tellAsk_11 : decode cX5_tellAsk 11 = .ok (.getfield 131, 3) := by decide +kernel
theorem dX5_tellAsk_14 : decode cX5_tellAsk 14 = .ok (.invokevirtual 150, 3) := by decide +kernel
theorem dX5_tellAsk_17 : decode cX5_tellAsk 17 = .ok (.iconst 1, 1) := by decide +kernel
theorem dX5_tellAsk_18 : decode cX5_tellAsk 18 = .ok (.ireturn, 1) := by decide +kernel
theorem dX5_readList_0 : decode cX5_readList 0 = .ok (.iconst 0, 1) := by decide +kernel
theorem dX5_readList_1 : decode cX5_readList 1 = .ok (.istore_n 1, 1) := by decide +kernel
theorem dX5_readList_2 : decode cX5_readList 2 = .ok (.iconst 0, 1) := by decide +kernel
theorem dX5_readList_3 : decode cX5_readList 3 = .ok (.istore_n 2, 1) := by decide +kernel
theorem dX5_readList_4 : decode cX5_readList 4 = .ok (.iload_n 2, 1) := by decide +kernel
theorem dX5_readList_5 : decode cX5_readList 5 = .ok (.bipush 6, 2) := by decide +kernel
theorem dX5_readList_7 : decode cX5_readList 7 = .ok (.if_icmp .gt 118, 3) := by decide +kernel
theorem dX5_readList_10 : decode cX5_readList 10 = .ok (.aload_n 0, 1) := by decide +kernel
theorem dX5_readList_11 : decode cX5_readList 11 = .ok (.invokevirtual 52, 3) := by decide +kernel
theorem dX5_readList_14 : decode cX5_readList 14 = .ok (.bipush 59, 2) := by decide +kernel
theorem dX5_readList_16 : decode cX5_readList 16 = .ok (.if_icmp .eq 109, 3) := by decide +kernel
theorem dX5_readList_19 : decode cX5_readList 19 = .ok (.aload_n 0, 1) := by decide +kernel
theorem dX5_readList_20 : decode cX5_readList 20 = .ok (.invokevirtual 52, 3) := by decide +kernel
theorem dX5_readList_23 : decode cX5_readList 23 = .ok (.bipush 45, 2) := by decide +kernel
theorem dX5_readList_25 : decode cX5_readList 25 = .ok (.if_icmp .ne 7, 3) := by decide +kernel
theorem dX5_readList_28 : decode cX5_readList 28 = .ok (.iconst 1, 1) := by decide +kernel
theorem dX5_readList_29 : decode cX5_readList 29 = .ok (.goto 4, 3) := by decide +kernel
theorem dX5_readList_32 : decode cX5_readList 32 = .ok (.iconst 0, 1) := by decide +kernel
theorem dX5_readList_33 : decode cX5_readList 33 = .ok (.istore_n 3, 1) := by decide +kernel
theorem dX5_readList_34 : decode cX5_readList 34 = .ok (.iload_n 3, 1) := by decide +kernel
theorem dX5_readList_35 : decode cX5_readList 35 = .ok (.ifCond .eq 14, 3) := by decide +kernel
theorem dX5_readList_38 : decode cX5_readList 38 = .ok (.aload_n 0, 1) := by decide +kernel
theorem dX5_readList_39 : decode cX5_readList 39 = .ok (.bipush 45, 2) := by decide +kernel
theorem dX5_readList_41 : decode cX5_readList 41 = .ok (.invokevirtual 74, 3) := by decide +kernel
theorem dX5_readList_44 : decode cX5_readList 44 = .ok (.ifCond .ne 5, 3) := by decide +kernel
theorem dX5_readList_47 : decode cX5_readList 47 = .ok (.iconst 0, 1) := by decide +kernel
theorem dX5_readList_48 : decode cX5_readList 48 = .ok (.ireturn, 1) := by decide +kernel
theorem dX5_readList_49 : decode cX5_readList 49 = .ok (.iload_n 1, 1) := by decide +kernel
theorem dX5_readList_50 : decode cX5_readList 50 = .ok (.bipush 6, 2) := by decide +kernel
theorem dX5_readList_52 : decode cX5_readList 52 = .ok (.if_icmp .ne 17, 3) := by decide +kernel
theorem dX5_readList_55 : decode cX5_readList 55 = .ok (.aload_n 0, 1) := by decide +kernel
theorem dX5_readList_56 : decode cX5_readList 56 = .ok (.invokevirtual 52, 3) := by decide +kernel
theorem dX5_readList_59 : decode cX5_readList 59 = .ok (.iconst 3, 1) := by decide +kernel
theorem dX5_readList_60 : decode cX5_readList 60 = .ok (.if_icmp .ne 9, 3) := by decide +kernel
theorem dX5_readList_63 : decode cX5_readList 63 = .ok (.aload_n 0, 1) := by decide +kernel
theorem dX5_readList_64 : decode cX5_readList 64 = .ok (.iconst 2, 1) := by decide +kernel
theorem dX5_readList_65 : decode cX5_readList 65 = .ok (.invokevirtual 67, 3) := by decide +kernel
theorem dX5_readList_68 : decode cX5_readList 68 = .ok (.ireturn, 1) := by decide +kernel
theorem dX5_readList_69 : decode cX5_readList 69 = .ok (.aload_n 0, 1) := by decide +kernel
theorem dX5_readList_70 : decode cX5_readList 70 = .ok (.iconst 3, 1) := by decide +kernel
theorem dX5_readList_71 : decode cX5_readList 71 = .ok (.invokevirtual 74, 3) := by decide +kernel
theorem dX5_readList_74 : decode cX5_readList 74 = .ok (.ifCond .ne 5, 3) := by decide +kernel
theorem dX5_readList_77 : decode cX5_readList 77 = .ok (.iconst 0, 1) := by decide +kernel
theorem dX5_readList_78 : decode cX5_readList 78 = .ok (.ireturn, 1) := by decide +kernel
theorem dX5_readList_79 : decode cX5_readList 79 = .ok (.aload_n 0, 1) := by decide +kernel
theorem dX5_readList_80 : decode cX5_readList 80 = .ok (.iconst 1, 1) := by decide +kernel
theorem dX5_readList_81 : decode cX5_readList 81 = .ok (.iconst 0, 1) := by decide +kernel
theorem dX5_readList_82 : decode cX5_readList 82 = .ok (.bipush 99, 2) := by decide +kernel
theorem dX5_readList_84 : decode cX5_readList 84 = .ok (.invokevirtual 127, 3) := by decide +kernel
theorem dX5_readList_87 : decode cX5_readList 87 = .ok (.pop, 1) := by decide +kernel
theorem dX5_readList_88 : decode cX5_readList 88 = .ok (.aload_n 0, 1) := by decide +kernel
theorem dX5_readList_89 : decode cX5_readList 89 = .ok (.iconst 1, 1) := by decide +kernel
theorem dX5_readList_90 : decode cX5_readList 90 = .ok (.invokevirtual 111, 3) := by decide +kernel
theorem dX5_readList_93 : decode cX5_readList 93 = .ok (.l2i, 1) := by decide +kernel
theorem dX5_readList_94 : decode cX5_readList 94 = .ok (.istore 4, 2) := by decide +kernel
theorem dX5_readList_96 : decode cX5_readList 96 = .ok (.aload_n 0, 1) := by decide +kernel
theorem dX5_readList_97 : decode cX5_readList 97 = .ok (.getfield 27, 3) := by decide +kernel
theorem dX5_readList_100 : decode cX5_readList 100 = .ok (.iload_n 1, 1) := by decide +kernel
theorem dX5_readList_101 : decode cX5_readList 101 = .ok (.iload_n 3, 1) := by decide +kernel
theorem dX5_readList_102 : decode cX5_readList 102 = .ok (.ifCond .eq 9, 3) := by decide +kernel
theorem dX5_readList_105 : decode cX5_readList 105 = .ok (.iload 4, 2) := by decide +kernel
theorem dX5_readList_107 : decode cX5_readList 107 = .ok (.ineg, 1) := by decide +kernel
theorem dX5_readList_108 : decode cX5_readList 108 = .ok (.goto 5, 3) := by decide +kernel
theorem dX5_readList_111 : decode cX5_readList 111 = .ok (.iload 4, 2) := by decide +kernel
theorem dX5_readList_113 : decode cX5_readList 113 = .ok (.invokevirtual 141, 3) := by decide +kernel
theorem dX5_readList_116 : decode cX5_readList 116 = .ok (.iinc 1 1, 3) := by decide +kernel
theorem dX5_readList_119 : decode cX5_readList 119 = .ok (.iinc 2 1, 3) := by decide +kernel
theorem dX5_readList_122 : decode cX5_readList 122 = .ok (.goto (-118), 3) := by decide +kernel
theorem dX5_readList_125 : decode cX5_readList 125 = .ok (.aload_n 0, 1) := by decide +kernel
theorem dX5_readList_126 : decode cX5_readList 126 = .ok (.getfield 27, 3) := by decide +kernel
theorem dX5_readList_129 : decode cX5_readList 129 = .ok (.iload_n 1, 1) := by decide +kernel
theorem dX5_readList_130 : decode cX5_readList 130 = .ok (.invokevirtual 143, 3) := by decide +kernel
theorem dX5_readList_133 : decode cX5_readList 133 = .ok (.iconst 1, 1) := by decide +kernel
theorem dX5_readList_134 : decode cX5_readList 134 = .ok (.ireturn, 1) := by decide +kernel
theorem dX5_tellShare_0 : decode cX5_tellShare 0 = .ok (.aload_n 0, 1) := by decide +kernel
theorem dX5_tellShare_1 : decode cX5_tellShare 1 = .ok (.iconst 2, 1) := by decide +kernel
theorem dX5_tellShare_2 : decode cX5_tellShare 2 = .ok (.invokevirtual 111, 3) := by decide +kernel
theorem dX5_tellShare_5 : decode cX5_tellShare 5 = .ok (.l2i, 1) := by decide +kernel
theorem dX5_tellShare_6 : decode cX5_tellShare 6 = .ok (.istore_n 1, 1) := by decide +kernel
theorem dX5_tellShare_7 : decode cX5_tellShare 7 = .ok (.aload_n 0, 1) := by decide +kernel
theorem dX5_tellShare_8 : decode cX5_tellShare 8 = .ok (.iconst 2, 1) := by decide +kernel
theorem dX5_tellShare_9 : decode cX5_tellShare 9 = .ok (.iconst 1, 1) := by decide +kernel
theorem dX5_tellShare_10 : decode cX5_tellShare 10 = .ok (.bipush 96, 2) := by decide +kernel
theorem dX5_tellShare_12 : decode cX5_tellShare 12 = .ok (.invokevirtual 127, 3) := by decide +kernel
theorem dX5_tellShare_15 : decode cX5_tellShare 15 = .ok (.ifCond .eq 23, 3) := by decide +kernel
theorem dX5_tellShare_18 : decode cX5_tellShare 18 = .ok (.aload_n 0, 1) := by decide +kernel
theorem dX5_tellShare_19 : decode cX5_tellShare 19 = .ok (.getfield 27, 3) := by decide +kernel
theorem dX5_tellShare_22 : decode cX5_tellShare 22 = .ok (.getfield 154, 3) := by decide +kernel
theorem dX5_tellShare_25 : decode cX5_tellShare 25 = .ok (.iload_n 1, 1) := by decide +kernel
theorem dX5_tellShare_26 : decode cX5_tellShare 26 = .ok (.invokevirtual 158, 3) := by decide +kernel
theorem dX5_tellShare_29 : decode cX5_tellShare 29 = .ok (.ifCond .eq 9, 3) := by decide +kernel
theorem dX5_tellShare_32 : decode cX5_tellShare 32 = .ok (.aload_n 0, 1) := by decide +kernel
theorem dX5_tellShare_33 : decode cX5_tellShare 33 = .ok (.iconst 5, 1) := by decide +kernel
theorem dX5_tellShare_34 : decode cX5_tellShare 34 = .ok (.iconst 2, 1) := by decide +kernel
theorem dX5_tellShare_35 : decode cX5_tellShare 35 = .ok (.invokevirtual 119, 3) := by decide +kernel
theorem dX5_tellShare_38 : decode cX5_tellShare 38 = .ok (.aload_n 0, 1) := by decide +kernel
theorem dX5_tellShare_39 : decode cX5_tellShare 39 = .ok (.iconst 1, 1) := by decide +kernel
theorem dX5_tellShare_40 : decode cX5_tellShare 40 = .ok (.iconst 0, 1) := by decide +kernel
theorem dX5_tellShare_41 : decode cX5_tellShare 41 = .ok (.bipush 96, 2) := by decide +kernel
theorem dX5_tellShare_43 : decode cX5_tellShare 43 = .ok (.invokevirtual 127, 3) := by decide +kernel
theorem dX5_tellShare_46 : decode cX5_tellShare 46 = .ok (.pop, 1) := by decide +kernel
theorem dX5_tellShare_47 : decode cX5_tellShare 47 = .ok (.aload_n 0, 1) := by decide +kernel
theorem dX5_tellShare_48 : decode cX5_tellShare 48 = .ok (.getfield 27, 3) := by decide +kernel
theorem dX5_tellShare_51 : decode cX5_tellShare 51 = .ok (.getfield 154, 3) := by decide +kernel
theorem dX5_tellShare_54 : decode cX5_tellShare 54 = .ok (.iload_n 1, 1) := by decide +kernel
theorem dX5_tellShare_55 : decode cX5_tellShare 55 = .ok (.aload_n 0, 1) := by decide +kernel
theorem dX5_tellShare_56 : decode cX5_tellShare 56 = .ok (.iconst 1, 1) := by decide +kernel
theorem dX5_tellShare_57 : decode cX5_tellShare 57 = .ok (.invokevirtual 111, 3) := by decide +kernel
theorem dX5_tellShare_60 : decode cX5_tellShare 60 = .ok (.l2i, 1) := by decide +kernel
theorem dX5_tellShare_61 : decode cX5_tellShare 61 = .ok (.aload_n 0, 1) := by decide +kernel
theorem dX5_tellShare_62 : decode cX5_tellShare 62 = .ok (.getfield 18, 3) := by decide +kernel
theorem dX5_tellShare_65 : decode cX5_tellShare 65 = .ok (.iconst 2, 1) := by decide +kernel
theorem dX5_tellShare_66 : decode cX5_tellShare 66 = .ok (.if_icmp .lt 20, 3) := by decide +kernel
theorem dX5_tellShare_69 : decode cX5_tellShare 69 = .ok (.aload_n 0, 1) := by decide +kernel
theorem dX5_tellShare_70 : decode cX5_tellShare 70 = .ok (.getfield 34, 3) := by decide +kernel
theorem dX5_tellShare_73 : decode cX5_tellShare 73 = .ok (.getfield 104, 3) := by decide +kernel
theorem dX5_tellShare_76 : decode cX5_tellShare 76 = .ok (.aload_n 0, 1) := by decide +kernel
theorem dX5_tellShare_77 : decode cX5_tellShare 77 = .ok (.getfield 18, 3) := by decide +kernel
theorem dX5_tellShare_80 : decode cX5_tellShare 80 = .ok (.iconst 2, 1) := by decide +kernel
theorem dX5_tellShare_81 : decode cX5_tellShare 81 = .ok (.isub, 1) := by decide +kernel
theorem dX5_tellShare_82 : decode cX5_tellShare 82 = .ok (.iaload, 1) := by decide +kernel
theorem dX5_tellShare_83 : decode cX5_tellShare 83 = .ok (.goto 4, 3) := by decide +kernel
theorem dX5_tellShare_86 : decode cX5_tellShare 86 = .ok (.iconst 0, 1) := by decide +kernel
theorem dX5_tellShare_87 : decode cX5_tellShare 87 = .ok (.invokevirtual 163, 3) := by decide +kernel
theorem dX5_tellShare_90 : decode cX5_tellShare 90 = .ok (.iconst 1, 1) := by decide +kernel
theorem dX5_tellShare_91 : decode cX5_tellShare 91 = .ok (.ireturn, 1) := by decide +kernel
theorem dX5_tellBound_0 : decode cX5_tellBound 0 = .ok (.aload_n 0, 1) := by decide +kernel
theorem dX5_tellBound_1 : decode cX5_tellBound 1 = .ok (.iconst 2, 1) := by decide +kernel
theorem dX5_tellBound_2 : decode cX5_tellBound 2 = .ok (.iconst 1, 1) := by decide +kernel
theorem dX5_tellBound_3 : decode cX5_tellBound 3 = .ok (.iconst 4, 1) := by decide +kernel
theorem dX5_tellBound_4 : decode cX5_tellBound 4 = .ok (.invokevirtual 127, 3) := by decide +kernel
theorem dX5_tellBound_7 : decode cX5_tellBound 7 = .ok (.ifCond .eq 40, 3) := by decide +kernel
theorem dX5_tellBound_10 : decode cX5_tellBound 10 = .ok (.aload_n 0, 1) := by decide +kernel
theorem dX5_tellBound_11 : decode cX5_tellBound 11 = .ok (.iconst 1, 1) := by decide +kernel
theorem dX5_tellBound_12 : decode cX5_tellBound 12 = .ok (.iconst 1, 1) := by decide +kernel
theorem dX5_tellBound_13 : decode cX5_tellBound 13 = .ok (.bipush 9, 2) := by decide +kernel
theorem dX5_tellBound_15 : decode cX5_tellBound 15 = .ok (.invokevirtual 127, 3) := by decide +kernel
theorem dX5_tellBound_18 : decode cX5_tellBound 18 = .ok (.ifCond .eq 29, 3) := by decide +kernel
theorem dX5_tellBound_21 : decode cX5_tellBound 21 = .ok (.aload_n 0, 1) := by decide +kernel
theorem dX5_tellBound_22 : decode cX5_tellBound 22 = .ok (.getfield 27, 3) := by decide +kernel
theorem dX5_tellBound_25 : decode cX5_tellBound 25 = .ok (.aload_n 0, 1) := by decide +kernel
theorem dX5_tellBound_26 : decode cX5_tellBound 26 = .ok (.iconst 2, 1) := by decide +kernel
theorem dX5_tellBound_27 : decode cX5_tellBound 27 = .ok (.invokevirtual 111, 3) := by decide +kernel
theorem dX5_tellBound_30 : decode cX5_tellBound 30 = .ok (.l2i, 1) := by decide +kernel
theorem dX5_tellBound_31 : decode cX5_tellBound 31 = .ok (.putfield 169, 3) := by decide +kernel
theorem dX5_tellBound_34 : decode cX5_tellBound 34 = .ok (.aload_n 0, 1) := by decide +kernel
theorem dX5_tellBound_35 : decode cX5_tellBound 35 = .ok (.getfield 27, 3) := by decide +kernel
theorem dX5_tellBound_38 : decode cX5_tellBound 38 = .ok (.aload_n 0, 1) := by decide +kernel
theorem dX5_tellBound_39 : decode cX5_tellBound 39 = .ok (.iconst 1, 1) := by decide +kernel
theorem dX5_tellBound_40 : decode cX5_tellBound 40 = .ok (.invokevirtual 111, 3) := by decide +kernel
theorem dX5_tellBound_43 : decode cX5_tellBound 43 = .ok (.l2i, 1) := by decide +kernel
theorem dX5_tellBound_44 : decode cX5_tellBound 44 = .ok (.putfield 172, 3) := by decide +kernel
theorem dX5_tellBound_47 : decode cX5_tellBound 47 = .ok (.iconst 1, 1) := by decide +kernel
theorem dX5_tellBound_48 : decode cX5_tellBound 48 = .ok (.ireturn, 1) := by decide +kernel
theorem dX5_tellNumber_0 : decode cX5_tellNumber 0 = .ok (.aload_n 0, 1) := by decide +kernel
theorem dX5_tellNumber_1 : decode cX5_tellNumber 1 = .ok (.iconst 1, 1) := by decide +kernel
theorem dX5_tellNumber_2 : decode cX5_tellNumber 2 = .ok (.invokevirtual 111, 3) := by decide +kernel
theorem dX5_tellNumber_5 : decode cX5_tellNumber 5 = .ok (.l2i, 1) := by decide +kernel
theorem dX5_tellNumber_6 : decode cX5_tellNumber 6 = .ok (.istore_n 2, 1) := by decide +kernel
theorem dX5_tellNumber_7 : decode cX5_tellNumber 7 = .ok (.iload_n 1, 1) := by decide +kernel
theorem dX5_tellNumber_8 : decode cX5_tellNumber 8 = .ok (.sipush 261, 3) := by decide +kernel
theorem dX5_tellNumber_11 : decode cX5_tellNumber 11 = .ok (.if_icmp .ne 27, 3) := by decide +kernel
theorem dX5_tellNumber_14 : decode cX5_tellNumber 14 = .ok (.aload_n 0, 1) := by decide +kernel
theorem dX5_tellNumber_15 : decode cX5_tellNumber 15 = .ok (.iconst 1, 1) := by decide +kernel
theorem dX5_tellNumber_16 : decode cX5_tellNumber 16 = .ok (.iconst 0, 1) := by decide +kernel
theorem dX5_tellNumber_17 : decode cX5_tellNumber 17 = .ok (.sipush 999, 3) := by decide +kernel
theorem dX5_tellNumber_20 : decode cX5_tellNumber 20 = .ok (.invokevirtual 127, 3) := by decide +kernel
theorem dX5_tellNumber_23 : decode cX5_tellNumber 23 = .ok (.pop, 1) := by decide +kernel
theorem dX5_tellNumber_24 : decode cX5_tellNumber 24 = .ok (.aload_n 0, 1) := by decide +kernel
theorem dX5_tellNumber_25 : decode cX5_tellNumber 25 = .ok (.getfield 27, 3) := by decide +kernel
theorem dX5_tellNumber_28 : decode cX5_tellNumber 28 = .ok (.getfield 177, 3) := by decide +kernel
theorem dX5_tellNumber_31 : decode cX5_tellNumber 31 = .ok (.iload_n 2, 1) := by decide +kernel
theorem dX5_tellNumber_32 : decode cX5_tellNumber 32 = .ok (.invokevirtual 181, 3) := by decide +kernel
theorem dX5_tellNumber_35 : decode cX5_tellNumber 35 = .ok (.goto 57, 3) := by decide +kernel
theorem dX5_tellNumber_38 : decode cX5_tellNumber 38 = .ok (.iload_n 1, 1) := by decide +kernel
theorem dX5_tellNumber_39 : decode cX5_tellNumber 39 = .ok (.sipush 263, 3) := by decide +kernel
theorem dX5_tellNumber_42 : decode cX5_tellNumber 42 = .ok (.if_icmp .ne 23, 3) := by decide +kernel
theorem dX5_tellNumber_45 : decode cX5_tellNumber 45 = .ok (.aload_n 0, 1) := by decide +kernel
theorem dX5_tellNumber_46 : decode cX5_tellNumber 46 = .ok (.iconst 1, 1) := by decide +kernel
theorem dX5_tellNumber_47 : decode cX5_tellNumber 47 = .ok (.iconst 0, 1) := by decide +kernel
theorem dX5_tellNumber_48 : decode cX5_tellNumber 48 = .ok (.bipush 9, 2) := by decide +kernel
theorem dX5_tellNumber_50 : decode cX5_tellNumber 50 = .ok (.invokevirtual 127, 3) := by decide +kernel
theorem dX5_tellNumber_53 : decode cX5_tellNumber 53 = .ok (.pop, 1) := by decide +kernel
theorem dX5_tellNumber_54 : decode cX5_tellNumber 54 = .ok (.aload_n 0, 1) := by decide +kernel
theorem dX5_tellNumber_55 : decode cX5_tellNumber 55 = .ok (.getfield 27, 3) := by decide +kernel
theorem dX5_tellNumber_58 : decode cX5_tellNumber 58 = .ok (.iload_n 2, 1) := by decide +kernel
theorem dX5_tellNumber_59 : decode cX5_tellNumber 59 = .ok (.putfield 183, 3) := by decide +kernel
theorem dX5_tellNumber_62 : decode cX5_tellNumber 62 = .ok (.goto 30, 3) := by decide +kernel
theorem dX5_tellNumber_65 : decode cX5_tellNumber 65 = .ok (.iload_n 2, 1) := by decide +kernel
theorem dX5_tellNumber_66 : decode cX5_tellNumber 66 = .ok (.invokestatic 186, 3) := by decide +kernel
theorem dX5_tellNumber_69 : decode cX5_tellNumber 69 = .ok (.ifCond .eq 17, 3) := by decide +kernel
theorem dX5_tellNumber_72 : decode cX5_tellNumber 72 = .ok (.aload_n 0, 1) := by decide +kernel
theorem dX5_tellNumber_73 : decode cX5_tellNumber 73 = .ok (.getfield 27, 3) := by decide +kernel
theorem dX5_tellNumber_76 : decode cX5_tellNumber 76 = .ok (.getfield 154, 3) := by decide +kernel
theorem dX5_tellNumber_79 : decode cX5_tellNumber 79 = .ok (.iload_n 2, 1) := by decide +kernel
theorem dX5_tellNumber_80 : decode cX5_tellNumber 80 = .ok (.putfield 189, 3) := by decide +kernel
theorem dX5_tellNumber_83 : decode cX5_tellNumber 83 = .ok (.goto 9, 3) := by decide +kernel
theorem dX5_tellNumber_86 : decode cX5_tellNumber 86 = .ok (.aload_n 0, 1) := by decide +kernel
theorem dX5_tellNumber_87 : decode cX5_tellNumber 87 = .ok (.iconst 5, 1) := by decide +kernel
theorem dX5_tellNumber_88 : decode cX5_tellNumber 88 = .ok (.iconst 1, 1) := by decide +kernel
theorem dX5_tellNumber_89 : decode cX5_tellNumber 89 = .ok (.invokevirtual 119, 3) := by decide +kernel
theorem dX5_tellNumber_92 : decode cX5_tellNumber 92 = .ok (.iconst 1, 1) := by decide +kernel
theorem dX5_tellNumber_93 : decode cX5_tellNumber 93 = .ok (.ireturn, 1) := by decide +kernel
theorem dX5_isPrime_0 : decode cX5_isPrime 0 = .ok (.iconst 2, 1) := by decide +kernel
theorem dX5_isPrime_1 : decode cX5_isPrime 1 = .ok (.istore_n 1, 1) := by decide +kernel
theorem dX5_isPrime_2 : decode cX5_isPrime 2 = .ok (.iload_n 1, 1) := by decide +kernel
theorem dX5_isPrime_3 : decode cX5_isPrime 3 = .ok (.iload_n 0, 1) := by decide +kernel
theorem dX5_isPrime_4 : decode cX5_isPrime 4 = .ok (.if_icmp .ge 17, 3) := by decide +kernel
theorem dX5_isPrime_7 : decode cX5_isPrime 7 = .ok (.iload_n 0, 1) := by decide +kernel
theorem dX5_isPrime_8 : decode cX5_isPrime 8 = .ok (.iload_n 1, 1) := by decide +kernel
theorem dX5_isPrime_9 : decode cX5_isPrime 9 = .ok (.irem, 1) := by decide +kernel
theorem dX5_isPrime_10 : decode cX5_isPrime 10 = .ok (.ifCond .ne 5, 3) := by decide +kernel
theorem dX5_isPrime_13 : decode cX5_isPrime 13 = .ok (.iconst 0, 1) := by decide +kernel
theorem dX5_isPrime_14 : decode cX5_isPrime 14 = .ok (.ireturn, 1) := by decide +kernel
theorem dX5_isPrime_15 : decode cX5_isPrime 15 = .ok (.iinc 1 1, 3) := by decide +kernel
theorem dX5_isPrime_18 : decode cX5_isPrime 18 = .ok (.goto (-16), 3) := by decide +kernel
theorem dX5_isPrime_21 : decode cX5_isPrime 21 = .ok (.iload_n 0, 1) := by decide +kernel
theorem dX5_isPrime_22 : decode cX5_isPrime 22 = .ok (.i2l, 1) := by decide +kernel
theorem dX5_isPrime_23 : decode cX5_isPrime 23 = .ok (.ldc2_w 192, 3) := by decide +kernel
theorem dX5_isPrime_26 : decode cX5_isPrime 26 = .ok (.ldc2_w 194, 3) := by decide +kernel
theorem dX5_isPrime_29 : decode cX5_isPrime 29 = .ok (.invokestatic 115, 3) := by decide +kernel
theorem dX5_isPrime_32 : decode cX5_isPrime 32 = .ok (.ireturn, 1) := by decide +kernel
theorem dX5_readLaw_0 : decode cX5_readLaw 0 = .ok (.aload_n 0, 1) := by decide +kernel
theorem dX5_readLaw_1 : decode cX5_readLaw 1 = .ok (.bipush 61, 2) := by decide +kernel
theorem dX5_readLaw_3 : decode cX5_readLaw 3 = .ok (.invokevirtual 74, 3) := by decide +kernel
theorem dX5_readLaw_6 : decode cX5_readLaw 6 = .ok (.ifCond .ne 5, 3) := by decide +kernel
theorem dX5_readLaw_9 : decode cX5_readLaw 9 = .ok (.iconst 0, 1) := by decide +kernel
theorem dX5_readLaw_10 : decode cX5_readLaw 10 = .ok (.ireturn, 1) := by decide +kernel
theorem dX5_readLaw_11 : decode cX5_readLaw 11 = .ok (.aload_n 0, 1) := by decide +kernel
theorem dX5_readLaw_12 : decode cX5_readLaw 12 = .ok (.getfield 41, 3) := by decide +kernel
theorem dX5_readLaw_15 : decode cX5_readLaw 15 = .ok (.invokevirtual 196, 3) := by decide +kernel
theorem dX5_readLaw_18 : decode cX5_readLaw 18 = .ok (.iconst 0, 1) := by decide +kernel
theorem dX5_readLaw_19 : decode cX5_readLaw 19 = .ok (.istore_n 1, 1) := by decide +kernel
theorem dX5_readLaw_20 : decode cX5_readLaw 20 = .ok (.iload_n 1, 1) := by decide +kernel
theorem dX5_readLaw_21 : decode cX5_readLaw 21 = .ok (.sipush 400, 3) := by decide +kernel
theorem dX5_readLaw_24 : decode cX5_readLaw 24 = .ok (.if_icmp .gt 84, 3) := by decide +kernel
theorem dX5_readLaw_27 : decode cX5_readLaw 27 = .ok (.aload_n 0, 1) := by decide +kernel
theorem dX5_readLaw_28 : decode cX5_readLaw 28 = .ok (.getfield 41, 3) := by decide +kernel
theorem dX5_readLaw_31 : decode cX5_readLaw 31 = .ok (.getfield 199, 3) := by decide +kernel
theorem dX5_readLaw_34 : decode cX5_readLaw 34 = .ok (.ifCond .ne 74, 3) := by decide +kernel
theorem dX5_readLaw_37 : decode cX5_readLaw 37 = .ok (.aload_n 0, 1) := by decide +kernel
theorem dX5_readLaw_38 : decode cX5_readLaw 38 = .ok (.getfield 41, 3) := by decide +kernel
theorem dX5_readLaw_41 : decode cX5_readLaw 41 = .ok (.getfield 203, 3) := by decide +kernel
theorem dX5_readLaw_44 : decode cX5_readLaw 44 = .ok (.ifCond .eq 23, 3) := by decide +kernel
theorem dX5_readLaw_47 : decode cX5_readLaw 47 = .ok (.aload_n 0, 1) := by decide +kernel
theorem dX5_readLaw_48 : decode cX5_readLaw 48 = .ok (.getfield 41, 3) := by decide +kernel
theorem dX5_readLaw_51 : decode cX5_readLaw 51 = .ok (.aload_n 0, 1) := by decide +kernel
theorem dX5_readLaw_52 : decode cX5_readLaw 52 = .ok (.invokevirtual 52, 3) := by decide +kernel
theorem dX5_readLaw_55 : decode cX5_readLaw 55 = .ok (.aload_n 0, 1) := by decide +kernel
theorem dX5_readLaw_56 : decode cX5_readLaw 56 = .ok (.iconst 0, 1) := by decide +kernel
theorem dX5_readLaw_57 : decode cX5_readLaw 57 = .ok (.invokevirtual 111, 3) := by decide +kernel
theorem dX5_readLaw_60 : decode cX5_readLaw 60 = .ok (.l2i, 1) := by decide +kernel
theorem dX5_readLaw_61 : decode cX5_readLaw 61 = .ok (.invokevirtual 206, 3) := by decide +kernel
theorem dX5_readLaw_64 : decode cX5_readLaw 64 = .ok (.goto 14, 3) := by decide +kernel
theorem dX5_readLaw_67 : decode cX5_readLaw 67 = .ok (.aload_n 0, 1) := by decide +kernel
theorem dX5_readLaw_68 : decode cX5_readLaw 68 = .ok (.getfield 41, 3) := by decide +kernel
theorem dX5_readLaw_71 : decode cX5_readLaw 71 = .ok (.aload_n 0, 1) := by decide +kernel
theorem dX5_readLaw_72 : decode cX5_readLaw 72 = .ok (.invokevirtual 52, 3) := by decide +kernel
theorem dX5_readLaw_75 : decode cX5_readLaw 75 = .ok (.invokevirtual 210, 3) := by decide +kernel
theorem dX5_readLaw_78 : decode cX5_readLaw 78 = .ok (.istore_n 2, 1) := by decide +kernel
theorem dX5_readLaw_79 : decode cX5_readLaw 79 = .ok (.iload_n 2, 1) := by decide +kernel
theorem dX5_readLaw_80 : decode cX5_readLaw 80 = .ok (.ifCond .eq 9, 3) := by decide +kernel
theorem dX5_readLaw_83 : decode cX5_readLaw 83 = .ok (.aload_n 0, 1) := by decide +kernel
theorem dX5_readLaw_84 : decode cX5_readLaw 84 = .ok (.iload_n 2, 1) := by decide +kernel
theorem dX5_readLaw_85 : decode cX5_readLaw 85 = .ok (.invokevirtual 67, 3) := by decide +kernel
theorem dX5_readLaw_88 : decode cX5_readLaw 88 = .ok (.ireturn, 1) := by decide +kernel
theorem dX5_readLaw_89 : decode cX5_readLaw 89 = .ok (.aload_n 0, 1) := by decide +kernel
theorem dX5_readLaw_90 : decode cX5_readLaw 90 = .ok (.aload_n 0, 1) := by decide +kernel
theorem dX5_readLaw_91 : decode cX5_readLaw 91 = .ok (.invokevirtual 52, 3) := by decide +kernel
theorem dX5_readLaw_94 : decode cX5_readLaw 94 = .ok (.invokevirtual 74, 3) := by decide +kernel
theorem dX5_readLaw_97 : decode cX5_readLaw 97 = .ok (.ifCond .ne 5, 3) := by decide +kernel
theorem dX5_readLaw_100 : decode cX5_readLaw 100 = .ok (.iconst 0, 1) := by decide +kernel
theorem dX5_readLaw_101 : decode cX5_readLaw 101 = .ok (.ireturn, 1) := by decide +kernel
theorem dX5_readLaw_102 : decode cX5_readLaw 102 = .ok (.iinc 1 1, 3) := by decide +kernel
theorem dX5_readLaw_105 : decode cX5_readLaw 105 = .ok (.goto (-85), 3) := by decide +kernel
theorem dX5_readLaw_108 : decode cX5_readLaw 108 = .ok (.iconst 1, 1) := by decide +kernel
theorem dX5_readLaw_109 : decode cX5_readLaw 109 = .ok (.ireturn, 1) := by decide +kernel
theorem dX5_findGreat_0 : decode cX5_findGreat 0 = .ok (.iconst 0, 1) := by decide +kernel
theorem dX5_findGreat_1 : decode cX5_findGreat 1 = .ok (.istore_n 1, 1) := by decide +kernel
theorem dX5_findGreat_2 : decode cX5_findGreat 2 = .ok (.iload_n 1, 1) := by decide +kernel
theorem dX5_findGreat_3 : decode cX5_findGreat 3 = .ok (.aload_n 0, 1) := by decide +kernel
theorem dX5_findGreat_4 : decode cX5_findGreat 4 = .ok (.getfield 27, 3) := by decide +kernel
theorem dX5_findGreat_7 : decode cX5_findGreat 7 = .ok (.getfield 154, 3) := by decide +kernel
theorem dX5_findGreat_10 : decode cX5_findGreat 10 = .ok (.getfield 214, 3) := by decide +kernel
theorem dX5_findGreat_13 : decode cX5_findGreat 13 = .ok (.if_icmp .ge 63, 3) := by decide +kernel
theorem dX5_findGreat_16 : decode cX5_findGreat 16 = .ok (.aload_n 0, 1) := by decide +kernel
theorem dX5_findGreat_17 : decode cX5_findGreat 17 = .ok (.getfield 15, 3) := by decide +kernel
theorem dX5_findGreat_20 : decode cX5_findGreat 20 = .ok (.ifCond .ne 56, 3) := by decide +kernel
theorem dX5_findGreat_23 : decode cX5_findGreat 23 = .ok (.aload_n 0, 1) := by decide +kernel
theorem dX5_findGreat_24 : decode cX5_findGreat 24 = .ok (.getfield 27, 3) := by decide +kernel
theorem dX5_findGreat_27 : decode cX5_findGreat 27 = .ok (.getfield 154, 3) := by decide +kernel
