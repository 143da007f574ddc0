theorem dX11_tell_21 : decode cX11_tell 21 = .ok (.ifCond .eq 16, 3) := by decide +kernel
theorem dX11_tell_24 : decode cX11_tell 24 = .ok (.lload_n 2, 1) := by decide +kernel
theorem dX11_tell_25 : decode cX11_tell 25 = .ok (.ldc2_w 238, 3) := by decide +kernel
theorem dX11_tell_28 : decode cX11_tell 28 = .ok (.ldc2_w 240, 3) := by decide +kernel
theorem dX11_tell_31 : decode cX11_tell 31 = .ok (.invokestatic 119, 3) := by decide +kernel
theorem dX11_tell_34 : decode cX11_tell 34 = .ok (.ifCond .ne 5, 3) := by decide +kernel
theorem dX11_tell_37 : decode cX11_tell 37 = .ok (.iconst (-1), 1) := by decide +kernel
theorem dX11_tell_38 : decode cX11_tell 38 = .ok (.ireturn, 1) := by decide +kernel
theorem dX11_tell_39 : decode cX11_tell 39 = .ok (.aload_n 0, 1) := by decide +kernel
theorem dX11_tell_40 : decode cX11_tell 40 = .ok (.getfield 37, 3) := by decide +kernel
theorem dX11_tell_43 : decode cX11_tell 43 = .ok (.iload_n 1, 1) := by decide +kernel
theorem dX11_tell_44 : decode cX11_tell 44 = .ok (.lload_n 2, 1) := by decide +kernel
theorem dX11_tell_45 : decode cX11_tell 45 = .ok (.invokevirtual 242, 3) := by decide +kernel
theorem dX11_tell_48 : decode cX11_tell 48 = .ok (.aload_n 0, 1) := by decide +kernel
theorem dX11_tell_49 : decode cX11_tell 49 = .ok (.getfield 37, 3) := by decide +kernel
theorem dX11_tell_52 : decode cX11_tell 52 = .ok (.getfield 246, 3) := by decide +kernel
theorem dX11_tell_55 : decode cX11_tell 55 = .ok (.iconst 1, 1) := by decide +kernel
theorem dX11_tell_56 : decode cX11_tell 56 = .ok (.isub, 1) := by decide +kernel
theorem dX11_tell_57 : decode cX11_tell 57 = .ok (.ireturn, 1) := by decide +kernel
theorem dX11_forget_0 : decode cX11_forget 0 = .ok (.aload_n 0, 1) := by decide +kernel
theorem dX11_forget_1 : decode cX11_forget 1 = .ok (.getfield 37, 3) := by decide +kernel
theorem dX11_forget_4 : decode cX11_forget 4 = .ok (.getfield 246, 3) := by decide +kernel
theorem dX11_forget_7 : decode cX11_forget 7 = .ok (.istore_n 1, 1) := by decide +kernel
theorem dX11_forget_8 : decode cX11_forget 8 = .ok (.aload_n 0, 1) := by decide +kernel
theorem dX11_forget_9 : decode cX11_forget 9 = .ok (.getfield 37, 3) := by decide +kernel
theorem dX11_forget_12 : decode cX11_forget 12 = .ok (.invokevirtual 70, 3) := by decide +kernel
theorem dX11_forget_15 : decode cX11_forget 15 = .ok (.iload_n 1, 1) := by decide +kernel
theorem dX11_forget_16 : decode cX11_forget 16 = .ok (.ireturn, 1) := by decide +kernel
theorem dX11_choose_0 : decode cX11_choose 0 = .ok (.iload_n 1, 1) := by decide +kernel
theorem dX11_choose_1 : decode cX11_choose 1 = .ok (.i2l, 1) := by decide +kernel
theorem dX11_choose_2 : decode cX11_choose 2 = .ok (.lconst 0, 1) := by decide +kernel
theorem dX11_choose_3 : decode cX11_choose 3 = .ok (.aload_n 0, 1) := by decide +kernel
theorem dX11_choose_4 : decode cX11_choose 4 = .ok (.getfield 37, 3) := by decide +kernel
theorem dX11_choose_7 : decode cX11_choose 7 = .ok (.getfield 246, 3) := by decide +kernel
theorem dX11_choose_10 : decode cX11_choose 10 = .ok (.i2l, 1) := by decide +kernel
theorem dX11_choose_11 : decode cX11_choose 11 = .ok (.invokestatic 119, 3) := by decide +kernel
theorem dX11_choose_14 : decode cX11_choose 14 = .ok (.ifCond .eq 27, 3) := by decide +kernel
theorem dX11_choose_17 : decode cX11_choose 17 = .ok (.iload_n 2, 1) := by decide +kernel
theorem dX11_choose_18 : decode cX11_choose 18 = .ok (.i2l, 1) := by decide +kernel
theorem dX11_choose_19 : decode cX11_choose 19 = .ok (.lconst 0, 1) := by decide +kernel
theorem dX11_choose_20 : decode cX11_choose 20 = .ok (.ldc2_w 247, 3) := by decide +kernel
theorem dX11_choose_23 : decode cX11_choose 23 = .ok (.invokestatic 119, 3) := by decide +kernel
theorem dX11_choose_26 : decode cX11_choose 26 = .ok (.ifCond .eq 15, 3) := by decide +kernel
theorem dX11_choose_29 : decode cX11_choose 29 = .ok (.iload_n 3, 1) := by decide +kernel
theorem dX11_choose_30 : decode cX11_choose 30 = .ok (.i2l, 1) := by decide +kernel
theorem dX11_choose_31 : decode cX11_choose 31 = .ok (.lconst 0, 1) := by decide +kernel
theorem dX11_choose_32 : decode cX11_choose 32 = .ok (.ldc2_w 195, 3) := by decide +kernel
theorem dX11_choose_35 : decode cX11_choose 35 = .ok (.invokestatic 119, 3) := by decide +kernel
theorem dX11_choose_38 : decode cX11_choose 38 = .ok (.ifCond .ne 5, 3) := by decide +kernel
theorem dX11_choose_41 : decode cX11_choose 41 = .ok (.iconst 0, 1) := by decide +kernel
theorem dX11_choose_42 : decode cX11_choose 42 = .ok (.ireturn, 1) := by decide +kernel
theorem dX11_choose_43 : decode cX11_choose 43 = .ok (.aload_n 0, 1) := by decide +kernel
theorem dX11_choose_44 : decode cX11_choose 44 = .ok (.getfield 63, 3) := by decide +kernel
theorem dX11_choose_47 : decode cX11_choose 47 = .ok (.aload_n 0, 1) := by decide +kernel
theorem dX11_choose_48 : decode cX11_choose 48 = .ok (.getfield 37, 3) := by decide +kernel
theorem dX11_choose_51 : decode cX11_choose 51 = .ok (.iload_n 1, 1) := by decide +kernel
theorem dX11_choose_52 : decode cX11_choose 52 = .ok (.iload_n 2, 1) := by decide +kernel
theorem dX11_choose_53 : decode cX11_choose 53 = .ok (.iload_n 3, 1) := by decide +kernel
theorem dX11_choose_54 : decode cX11_choose 54 = .ok (.invokevirtual 249, 3) := by decide +kernel
theorem dX11_choose_57 : decode cX11_choose 57 = .ok (.iconst 1, 1) := by decide +kernel
theorem dX11_choose_58 : decode cX11_choose 58 = .ok (.ireturn, 1) := by decide +kernel
theorem dX11_fits_0 : decode cX11_fits 0 = .ok (.iload 4, 2) := by decide +kernel
theorem dX11_fits_2 : decode cX11_fits 2 = .ok (.iconst (-1), 1) := by decide +kernel
theorem dX11_fits_3 : decode cX11_fits 3 = .ok (.if_icmp .lt 13, 3) := by decide +kernel
theorem dX11_fits_6 : decode cX11_fits 6 = .ok (.aload_n 0, 1) := by decide +kernel
theorem dX11_fits_7 : decode cX11_fits 7 = .ok (.iload_n 1, 1) := by decide +kernel
theorem dX11_fits_8 : decode cX11_fits 8 = .ok (.iload_n 2, 1) := by decide +kernel
theorem dX11_fits_9 : decode cX11_fits 9 = .ok (.iload_n 3, 1) := by decide +kernel
theorem dX11_fits_10 : decode cX11_fits 10 = .ok (.invokevirtual 253, 3) := by decide +kernel
theorem dX11_fits_13 : decode cX11_fits 13 = .ok (.ifCond .ne 5, 3) := by decide +kernel
theorem dX11_fits_16 : decode cX11_fits 16 = .ok (.iconst (-1), 1) := by decide +kernel
theorem dX11_fits_17 : decode cX11_fits 17 = .ok (.ireturn, 1) := by decide +kernel
theorem dX11_fits_18 : decode cX11_fits 18 = .ok (.iload 4, 2) := by decide +kernel
theorem dX11_fits_20 : decode cX11_fits 20 = .ok (.iconst (-1), 1) := by decide +kernel
theorem dX11_fits_21 : decode cX11_fits 21 = .ok (.if_icmp .ne 11, 3) := by decide +kernel
theorem dX11_fits_24 : decode cX11_fits 24 = .ok (.aload_n 0, 1) := by decide +kernel
theorem dX11_fits_25 : decode cX11_fits 25 = .ok (.getfield 63, 3) := by decide +kernel
theorem dX11_fits_28 : decode cX11_fits 28 = .ok (.getfield 212, 3) := by decide +kernel
theorem dX11_fits_31 : decode cX11_fits 31 = .ok (.ireturn, 1) := by decide +kernel
theorem dX11_fits_32 : decode cX11_fits 32 = .ok (.iload 4, 2) := by decide +kernel
theorem dX11_fits_34 : decode cX11_fits 34 = .ok (.aload_n 0, 1) := by decide +kernel
theorem dX11_fits_35 : decode cX11_fits 35 = .ok (.getfield 63, 3) := by decide +kernel
theorem dX11_fits_38 : decode cX11_fits 38 = .ok (.getfield 212, 3) := by decide +kernel
theorem dX11_fits_41 : decode cX11_fits 41 = .ok (.if_icmp .ge 16, 3) := by decide +kernel
theorem dX11_fits_44 : decode cX11_fits 44 = .ok (.aload_n 0, 1) := by decide +kernel
theorem dX11_fits_45 : decode cX11_fits 45 = .ok (.getfield 63, 3) := by decide +kernel
theorem dX11_fits_48 : decode cX11_fits 48 = .ok (.getfield 256, 3) := by decide +kernel
theorem dX11_fits_51 : decode cX11_fits 51 = .ok (.iload 4, 2) := by decide +kernel
theorem dX11_fits_53 : decode cX11_fits 53 = .ok (.iaload, 1) := by decide +kernel
theorem dX11_fits_54 : decode cX11_fits 54 = .ok (.goto 4, 3) := by decide +kernel
theorem dX11_fits_57 : decode cX11_fits 57 = .ok (.iconst (-1), 1) := by decide +kernel
theorem dX11_fits_58 : decode cX11_fits 58 = .ok (.ireturn, 1) := by decide +kernel
theorem dX11_sure_0 : decode cX11_sure 0 = .ok (.aload_n 0, 1) := by decide +kernel
theorem dX11_sure_1 : decode cX11_sure 1 = .ok (.iload_n 1, 1) := by decide +kernel
theorem dX11_sure_2 : decode cX11_sure 2 = .ok (.iload_n 2, 1) := by decide +kernel
theorem dX11_sure_3 : decode cX11_sure 3 = .ok (.iload_n 3, 1) := by decide +kernel
theorem dX11_sure_4 : decode cX11_sure 4 = .ok (.invokevirtual 253, 3) := by decide +kernel
theorem dX11_sure_7 : decode cX11_sure 7 = .ok (.ifCond .eq 13, 3) := by decide +kernel
theorem dX11_sure_10 : decode cX11_sure 10 = .ok (.aload_n 0, 1) := by decide +kernel
theorem dX11_sure_11 : decode cX11_sure 11 = .ok (.getfield 63, 3) := by decide +kernel
theorem dX11_sure_14 : decode cX11_sure 14 = .ok (.invokevirtual 259, 3) := by decide +kernel
theorem dX11_sure_17 : decode cX11_sure 17 = .ok (.goto 4, 3) := by decide +kernel
theorem dX11_sure_20 : decode cX11_sure 20 = .ok (.iconst (-1), 1) := by decide +kernel
theorem dX11_sure_21 : decode cX11_sure 21 = .ok (.ireturn, 1) := by decide +kernel
theorem dX11_span_0 : decode cX11_span 0 = .ok (.iload 4, 2) := by decide +kernel
theorem dX11_span_2 : decode cX11_span 2 = .ok (.ifCond .lt 25, 3) := by decide +kernel
theorem dX11_span_5 : decode cX11_span 5 = .ok (.iload 4, 2) := by decide +kernel
theorem dX11_span_7 : decode cX11_span 7 = .ok (.aload_n 0, 1) := by decide +kernel
theorem dX11_span_8 : decode cX11_span 8 = .ok (.getfield 54, 3) := by decide +kernel
theorem dX11_span_11 : decode cX11_span 11 = .ok (.getfield 187, 3) := by decide +kernel
theorem dX11_span_14 : decode cX11_span 14 = .ok (.if_icmp .ge 13, 3) := by decide +kernel
theorem dX11_span_17 : decode cX11_span 17 = .ok (.aload_n 0, 1) := by decide +kernel
theorem dX11_span_18 : decode cX11_span 18 = .ok (.iload_n 1, 1) := by decide +kernel
theorem dX11_span_19 : decode cX11_span 19 = .ok (.iload_n 2, 1) := by decide +kernel
theorem dX11_span_20 : decode cX11_span 20 = .ok (.iload_n 3, 1) := by decide +kernel
theorem dX11_span_21 : decode cX11_span 21 = .ok (.invokevirtual 253, 3) := by decide +kernel
theorem dX11_span_24 : decode cX11_span 24 = .ok (.ifCond .ne 5, 3) := by decide +kernel
theorem dX11_span_27 : decode cX11_span 27 = .ok (.iconst (-1), 1) := by decide +kernel
theorem dX11_span_28 : decode cX11_span 28 = .ok (.ireturn, 1) := by decide +kernel
theorem dX11_span_29 : decode cX11_span 29 = .ok (.aload_n 0, 1) := by decide +kernel
theorem dX11_span_30 : decode cX11_span 30 = .ok (.getfield 63, 3) := by decide +kernel
theorem dX11_span_33 : decode cX11_span 33 = .ok (.getfield 212, 3) := by decide +kernel
theorem dX11_span_36 : decode cX11_span 36 = .ok (.ifCond .ne 6, 3) := by decide +kernel
theorem dX11_span_39 : decode cX11_span 39 = .ok (.bipush (-2), 2) := by decide +kernel
theorem dX11_span_41 : decode cX11_span 41 = .ok (.ireturn, 1) := by decide +kernel
theorem dX11_span_42 : decode cX11_span 42 = .ok (.bipush 10, 2) := by decide +kernel
theorem dX11_span_44 : decode cX11_span 44 = .ok (.aload_n 0, 1) := by decide +kernel
theorem dX11_span_45 : decode cX11_span 45 = .ok (.getfield 63, 3) := by decide +kernel
theorem dX11_span_48 : decode cX11_span 48 = .ok (.iload 4, 2) := by decide +kernel
theorem dX11_span_50 : decode cX11_span 50 = .ok (.invokevirtual 263, 3) := by decide +kernel
theorem dX11_span_53 : decode cX11_span 53 = .ok (.imul, 1) := by decide +kernel
theorem dX11_span_54 : decode cX11_span 54 = .ok (.aload_n 0, 1) := by decide +kernel
theorem dX11_span_55 : decode cX11_span 55 = .ok (.getfield 63, 3) := by decide +kernel
theorem dX11_span_58 : decode cX11_span 58 = .ok (.iload 4, 2) := by decide +kernel
theorem dX11_span_60 : decode cX11_span 60 = .ok (.invokevirtual 266, 3) := by decide +kernel
theorem dX11_span_63 : decode cX11_span 63 = .ok (.iadd, 1) := by decide +kernel
theorem dX11_span_64 : decode cX11_span 64 = .ok (.ireturn, 1) := by decide +kernel
theorem dX11_liars_0 : decode cX11_liars 0 = .ok (.aload_n 0, 1) := by decide +kernel
theorem dX11_liars_1 : decode cX11_liars 1 = .ok (.iload_n 1, 1) := by decide +kernel
theorem dX11_liars_2 : decode cX11_liars 2 = .ok (.iload_n 2, 1) := by decide +kernel
theorem dX11_liars_3 : decode cX11_liars 3 = .ok (.iload_n 3, 1) := by decide +kernel
theorem dX11_liars_4 : decode cX11_liars 4 = .ok (.invokevirtual 253, 3) := by decide +kernel
theorem dX11_liars_7 : decode cX11_liars 7 = .ok (.ifCond .eq 18, 3) := by decide +kernel
theorem dX11_liars_10 : decode cX11_liars 10 = .ok (.aload_n 0, 1) := by decide +kernel
theorem dX11_liars_11 : decode cX11_liars 11 = .ok (.getfield 63, 3) := by decide +kernel
theorem dX11_liars_14 : decode cX11_liars 14 = .ok (.aload_n 0, 1) := by decide +kernel
theorem dX11_liars_15 : decode cX11_liars 15 = .ok (.getfield 37, 3) := by decide +kernel
theorem dX11_liars_18 : decode cX11_liars 18 = .ok (.iload_n 1, 1) := by decide +kernel
theorem dX11_liars_19 : decode cX11_liars 19 = .ok (.invokevirtual 269, 3) := by decide +kernel
theorem dX11_liars_22 : decode cX11_liars 22 = .ok (.goto 4, 3) := by decide +kernel
theorem dX11_liars_25 : decode cX11_liars 25 = .ok (.iconst (-1), 1) := by decide +kernel
theorem dX11_liars_26 : decode cX11_liars 26 = .ok (.ireturn, 1) := by decide +kernel
theorem dX11_next_0 : decode cX11_next 0 = .ok (.iload 4, 2) := by decide +kernel
theorem dX11_next_2 : decode cX11_next 2 = .ok (.i2l, 1) := by decide +kernel
theorem dX11_next_3 : decode cX11_next 3 = .ok (.lconst 0, 1) := by decide +kernel
theorem dX11_next_4 : decode cX11_next 4 = .ok (.lconst 1, 1) := by decide +kernel
theorem dX11_next_5 : decode cX11_next 5 = .ok (.invokestatic 119, 3) := by decide +kernel
theorem dX11_next_8 : decode cX11_next 8 = .ok (.ifCond .eq 13, 3) := by decide +kernel
theorem dX11_next_11 : decode cX11_next 11 = .ok (.aload_n 0, 1) := by decide +kernel
theorem dX11_next_12 : decode cX11_next 12 = .ok (.iload_n 1, 1) := by decide +kernel
theorem dX11_next_13 : decode cX11_next 13 = .ok (.iload_n 2, 1) := by decide +kernel
theorem dX11_next_14 : decode cX11_next 14 = .ok (.iload_n 3, 1) := by decide +kernel
theorem dX11_next_15 : decode cX11_next 15 = .ok (.invokevirtual 253, 3) := by decide +kernel
theorem dX11_next_18 : decode cX11_next 18 = .ok (.ifCond .ne 7, 3) := by decide +kernel
theorem dX11_next_21 : decode cX11_next 21 = .ok (.sipush (-1000), 3) := by decide +kernel
theorem dX11_next_24 : decode cX11_next 24 = .ok (.ireturn, 1) := by decide +kernel
theorem dX11_next_25 : decode cX11_next 25 = .ok (.aload_n 0, 1) := by decide +kernel
theorem dX11_next_26 : decode cX11_next 26 = .ok (.getfield 63, 3) := by decide +kernel
theorem dX11_next_29 : decode cX11_next 29 = .ok (.getfield 212, 3) := by decide +kernel
theorem dX11_next_32 : decode cX11_next 32 = .ok (.ifCond .ne 7, 3) := by decide +kernel
theorem dX11_next_35 : decode cX11_next 35 = .ok (.sipush (-2000), 3) := by decide +kernel
theorem dX11_next_38 : decode cX11_next 38 = .ok (.ireturn, 1) := by decide +kernel
theorem dX11_next_39 : decode cX11_next 39 = .ok (.aload_n 0, 1) := by decide +kernel
theorem dX11_next_40 : decode cX11_next 40 = .ok (.getfield 63, 3) := by decide +kernel
theorem dX11_next_43 : decode cX11_next 43 = .ok (.invokevirtual 273, 3) := by decide +kernel
theorem dX11_next_46 : decode cX11_next 46 = .ok (.iload 4, 2) := by decide +kernel
theorem dX11_next_48 : decode cX11_next 48 = .ok (.ifCond .ne 13, 3) := by decide +kernel
theorem dX11_next_51 : decode cX11_next 51 = .ok (.aload_n 0, 1) := by decide +kernel
theorem dX11_next_52 : decode cX11_next 52 = .ok (.getfield 63, 3) := by decide +kernel
theorem dX11_next_55 : decode cX11_next 55 = .ok (.getfield 276, 3) := by decide +kernel
theorem dX11_next_58 : decode cX11_next 58 = .ok (.goto 10, 3) := by decide +kernel
theorem dX11_next_61 : decode cX11_next 61 = .ok (.aload_n 0, 1) := by decide +kernel
theorem dX11_next_62 : decode cX11_next 62 = .ok (.getfield 63, 3) := by decide +kernel
theorem dX11_next_65 : decode cX11_next 65 = .ok (.getfield 279, 3) := by decide +kernel
theorem dX11_next_68 : decode cX11_next 68 = .ok (.ireturn, 1) := by decide +kernel
theorem dX11_enough_0 : decode cX11_enough 0 = .ok (.aload_n 0, 1) := by decide +kernel
theorem dX11_enough_1 : decode cX11_enough 1 = .ok (.iload_n 1, 1) := by decide +kernel
theorem dX11_enough_2 : decode cX11_enough 2 = .ok (.iload_n 2, 1) := by decide +kernel
theorem dX11_enough_3 : decode cX11_enough 3 = .ok (.iload_n 3, 1) := by decide +kernel
theorem dX11_enough_4 : decode cX11_enough 4 = .ok (.invokevirtual 253, 3) := by decide +kernel
theorem dX11_enough_7 : decode cX11_enough 7 = .ok (.ifCond .eq 13, 3) := by decide +kernel
theorem dX11_enough_10 : decode cX11_enough 10 = .ok (.aload_n 0, 1) := by decide +kernel
theorem dX11_enough_11 : decode cX11_enough 11 = .ok (.getfield 63, 3) := by decide +kernel
theorem dX11_enough_14 : decode cX11_enough 14 = .ok (.invokevirtual 282, 3) := by decide +kernel
theorem dX11_enough_17 : decode cX11_enough 17 = .ok (.goto 4, 3) := by decide +kernel
theorem dX11_enough_20 : decode cX11_enough 20 = .ok (.iconst (-1), 1) := by decide +kernel
theorem dX11_enough_21 : decode cX11_enough 21 = .ok (.ireturn, 1) := by decide +kernel
theorem dX11_cost_0 : decode cX11_cost 0 = .ok (.iload_n 1, 1) := by decide +kernel
theorem dX11_cost_1 : decode cX11_cost 1 = .ok (.i2l, 1) := by decide +kernel
theorem dX11_cost_2 : decode cX11_cost 2 = .ok (.lconst 0, 1) := by decide +kernel
theorem dX11_cost_3 : decode cX11_cost 3 = .ok (.aload_n 0, 1) := by decide +kernel
theorem dX11_cost_4 : decode cX11_cost 4 = .ok (.getfield 37, 3) := by decide +kernel
theorem dX11_cost_7 : decode cX11_cost 7 = .ok (.getfield 246, 3) := by decide +kernel
theorem dX11_cost_10 : decode cX11_cost 10 = .ok (.i2l, 1) := by decide +kernel
theorem dX11_cost_11 : decode cX11_cost 11 = .ok (.invokestatic 119, 3) := by decide +kernel
theorem dX11_cost_14 : decode cX11_cost 14 = .ok (.ifCond .ne 5, 3) := by decide +kernel
theorem dX11_cost_17 : decode cX11_cost 17 = .ok (.iconst (-1), 1) := by decide +kernel
theorem dX11_cost_18 : decode cX11_cost 18 = .ok (.ireturn, 1) := by decide +kernel
theorem dX11_cost_19 : decode cX11_cost 19 = .ok (.iconst 0, 1) := by decide +kernel
theorem dX11_cost_20 : decode cX11_cost 20 = .ok (.istore_n 2, 1) := by decide +kernel
theorem dX11_cost_21 : decode cX11_cost 21 = .ok (.iconst 0, 1) := by decide +kernel
theorem dX11_cost_22 : decode cX11_cost 22 = .ok (.istore_n 3, 1) := by decide +kernel
theorem dX11_cost_23 : decode cX11_cost 23 = .ok (.iload_n 3, 1) := by decide +kernel
theorem dX11_cost_24 : decode cX11_cost 24 = .ok (.iload_n 1, 1) := by decide +kernel
theorem dX11_cost_25 : decode cX11_cost 25 = .ok (.if_icmp .ge 25, 3) := by decide +kernel
theorem dX11_cost_28 : decode cX11_cost 28 = .ok (.iload_n 2, 1) := by decide +kernel
theorem dX11_cost_29 : decode cX11_cost 29 = .ok (.aload_n 0, 1) := by decide +kernel
theorem dX11_cost_30 : decode cX11_cost 30 = .ok (.getfield 37, 3) := by decide +kernel
theorem dX11_cost_33 : decode cX11_cost 33 = .ok (.getfield 285, 3) := by decide +kernel
theorem dX11_cost_36 : decode cX11_cost 36 = .ok (.iload_n 3, 1) := by decide +kernel
theorem dX11_cost_37 : decode cX11_cost 37 = .ok (.iaload, 1) := by decide +kernel
theorem dX11_cost_38 : decode cX11_cost 38 = .ok (.i2l, 1) := by decide +kernel
theorem dX11_cost_39 : decode cX11_cost 39 = .ok (.invokestatic 138, 3) := by decide +kernel
theorem dX11_cost_42 : decode cX11_cost 42 = .ok (.iadd, 1) := by decide +kernel
theorem dX11_cost_43 : decode cX11_cost 43 = .ok (.istore_n 2, 1) := by decide +kernel
theorem dX11_cost_44 : decode cX11_cost 44 = .ok (.iinc 3 1, 3) := by decide +kernel
theorem dX11_cost_47 : decode cX11_cost 47 = .ok (.goto (-24), 3) := by decide +kernel
theorem dX11_cost_50 : decode cX11_cost 50 = .ok (.iload_n 2, 1) := by decide +kernel
theorem dX11_cost_51 : decode cX11_cost 51 = .ok (.ireturn, 1) := by decide +kernel
theorem dX11_hide_0 : decode cX11_hide 0 = .ok (.aload_n 0, 1) := by decide +kernel
theorem dX11_hide_1 : decode cX11_hide 1 = .ok (.iload_n 1, 1) := by decide +kernel
theorem dX11_hide_2 : decode cX11_hide 2 = .ok (.invokevirtual 103, 3) := by decide +kernel
theorem dX11_hide_5 : decode cX11_hide 5 = .ok (.ifCond .ne 5, 3) := by decide +kernel
theorem dX11_hide_8 : decode cX11_hide 8 = .ok (.iconst 0, 1) := by decide +kernel
theorem dX11_hide_9 : decode cX11_hide 9 = .ok (.ireturn, 1) := by decide +kernel
theorem dX11_hide_10 : decode cX11_hide 10 = .ok (.aload_n 0, 1) := by decide +kernel
theorem dX11_hide_11 : decode cX11_hide 11 = .ok (.iload_n 1, 1) := by decide +kernel
theorem dX11_hide_12 : decode cX11_hide 12 = .ok (.putfield 45, 3) := by decide +kernel
theorem dX11_hide_15 : decode cX11_hide 15 = .ok (.aload_n 0, 1) := by decide +kernel
theorem dX11_hide_16 : decode cX11_hide 16 = .ok (.iconst 0, 1) := by decide +kernel
theorem dX11_hide_17 : decode cX11_hide 17 = .ok (.putfield 48, 3) := by decide +kernel
theorem dX11_hide_20 : decode cX11_hide 20 = .ok (.aload_n 0, 1) := by decide +kernel
theorem dX11_hide_21 : decode cX11_hide 21 = .ok (.getfield 37, 3) := by decide +kernel
theorem dX11_hide_24 : decode cX11_hide 24 = .ok (.invokevirtual 70, 3) := by decide +kernel
theorem dX11_hide_27 : decode cX11_hide 27 = .ok (.iconst 1, 1) := by decide +kernel
theorem dX11_hide_28 : decode cX11_hide 28 = .ok (.ireturn, 1) := by decide +kernel
theorem dX11_ask_0 : decode cX11_ask 0 = .ok (.aload_n 0, 1) := by decide +kernel
theorem dX11_ask_1 : decode cX11_ask 1 = .ok (.aload_n 0, 1) := by decide +kernel
theorem dX11_ask_2 : decode cX11_ask 2 = .ok (.getfield 45, 3) := by decide +kernel
theorem dX11_ask_5 : decode cX11_ask 5 = .ok (.invokevirtual 103, 3) := by decide +kernel
theorem dX11_ask_8 : decode cX11_ask 8 = .ok (.ifCond .eq 27, 3) := by decide +kernel
theorem dX11_ask_11 : decode cX11_ask 11 = .ok (.aload_n 0, 1) := by decide +kernel
theorem dX11_ask_12 : decode cX11_ask 12 = .ok (.getfield 37, 3) := by decide +kernel
theorem dX11_ask_15 : decode cX11_ask 15 = .ok (.invokevirtual 234, 3) := by decide +kernel
theorem dX11_ask_18 : decode cX11_ask 18 = .ok (.ifCond .ne 17, 3) := by decide +kernel
theorem dX11_ask_21 : decode cX11_ask 21 = .ok (.iload_n 1, 1) := by decide +kernel
theorem dX11_ask_22 : decode cX11_ask 22 = .ok (.i2l, 1) := by decide +kernel
theorem dX11_ask_23 : decode cX11_ask 23 = .ok (.ldc2_w 201, 3) := by decide +kernel
theorem dX11_ask_26 : decode cX11_ask 26 = .ok (.ldc2_w 203, 3) := by decide +kernel
theorem dX11_ask_29 : decode cX11_ask 29 = .ok (.invokestatic 119, 3) := by decide +kernel
theorem dX11_ask_32 : decode cX11_ask 32 = .ok (.ifCond .ne 7, 3) := by decide +kernel
theorem dX11_ask_35 : decode cX11_ask 35 = .ok (.ldc2_w 123, 3) := by decide +kernel
theorem dX11_ask_38 : decode cX11_ask 38 = .ok (.lreturn, 1) := by decide +kernel
theorem dX11_ask_39 : decode cX11_ask 39 = .ok (.aload_n 0, 1) := by decide +kernel
theorem dX11_ask_40 : decode cX11_ask 40 = .ok (.dup, 1) := by decide +kernel
theorem dX11_ask_41 : decode cX11_ask 41 = .ok (.getfield 48, 3) := by decide +kernel
theorem dX11_ask_44 : decode cX11_ask 44 = .ok (.iconst 1, 1) := by decide +kernel
theorem dX11_ask_45 : decode cX11_ask 45 = .ok (.iadd, 1) := by decide +kernel
theorem dX11_ask_46 : decode cX11_ask 46 = .ok (.putfield 48, 3) := by decide +kernel
theorem dX11_ask_49 : decode cX11_ask 49 = .ok (.aload_n 0, 1) := by decide +kernel
theorem dX11_ask_50 : decode cX11_ask 50 = .ok (.getfield 30, 3) := by decide +kernel
theorem dX11_ask_53 : decode cX11_ask 53 = .ok (.aload_n 0, 1) := by decide +kernel
theorem dX11_ask_54 : decode cX11_ask 54 = .ok (.getfield 45, 3) := by decide +kernel
theorem dX11_ask_57 : decode cX11_ask 57 = .ok (.iload_n 1, 1) := by decide +kernel
theorem dX11_ask_58 : decode cX11_ask 58 = .ok (.i2l, 1) := by decide +kernel
theorem dX11_ask_59 : decode cX11_ask 59 = .ok (.invokevirtual 125, 3) := by decide +kernel
theorem dX11_ask_62 : decode cX11_ask 62 = .ok (.lstore_n 2, 1) := by decide +kernel
theorem dX11_ask_63 : decode cX11_ask 63 = .ok (.aload_n 0, 1) := by decide +kernel
theorem dX11_ask_64 : decode cX11_ask 64 = .ok (.getfield 30, 3) := by decide +kernel
theorem dX11_ask_67 : decode cX11_ask 67 = .ok (.getfield 288, 3) := by decide +kernel
theorem dX11_ask_70 : decode cX11_ask 70 = .ok (.ifCond .le 22, 3) := by decide +kernel
theorem dX11_ask_73 : decode cX11_ask 73 = .ok (.aload_n 0, 1) := by decide +kernel
theorem dX11_ask_74 : decode cX11_ask 74 = .ok (.getfield 48, 3) := by decide +kernel
theorem dX11_ask_77 : decode cX11_ask 77 = .ok (.aload_n 0, 1) := by decide +kernel
theorem dX11_ask_78 : decode cX11_ask 78 = .ok (.getfield 30, 3) := by decide +kernel
theorem dX11_ask_81 : decode cX11_ask 81 = .ok (.getfield 288, 3) := by decide +kernel
theorem dX11_ask_84 : decode cX11_ask 84 = .ok (.irem, 1) := by decide +kernel
theorem dX11_ask_85 : decode cX11_ask 85 = .ok (.ifCond .ne 7, 3) := by decide +kernel
theorem dX11_ask_88 : decode cX11_ask 88 = .ok (.lload_n 2, 1) := by decide +kernel
theorem dX11_ask_89 : decode cX11_ask 89 = .ok (.lconst 1, 1) := by decide +kernel
theorem dX11_ask_90 : decode cX11_ask 90 = .ok (.ladd, 1) := by decide +kernel
theorem dX11_ask_91 : decode cX11_ask 91 = .ok (.lstore_n 2, 1) := by decide +kernel
theorem dX11_ask_92 : decode cX11_ask 92 = .ok (.aload_n 0, 1) := by decide +kernel
theorem dX11_ask_93 : decode cX11_ask 93 = .ok (.getfield 37, 3) := by decide +kernel
theorem dX11_ask_96 : decode cX11_ask 96 = .ok (.iload_n 1, 1) := by decide +kernel
theorem dX11_ask_97 : decode cX11_ask 97 = .ok (.lload_n 2, 1) := by decide +kernel
theorem dX11_ask_98 : decode cX11_ask 98 = .ok (.invokevirtual 242, 3) := by decide +kernel
theorem dX11_ask_101 : decode cX11_ask 101 = .ok (.lload_n 2, 1) := by decide +kernel
theorem dX11_ask_102 : decode cX11_ask 102 = .ok (.lreturn, 1) := by decide +kernel
theorem dX11_asks_0 : decode cX11_asks 0 = .ok (.aload_n 0, 1) := by decide +kernel
theorem dX11_asks_1 : decode cX11_asks 1 = .ok (.getfield 37, 3) := by decide +kernel
theorem dX11_asks_4 : decode cX11_asks 4 = .ok (.getfield 246, 3) := by decide +kernel
theorem dX11_asks_7 : decode cX11_asks 7 = .ok (.ifCond .ne 17, 3) := by decide +kernel
theorem dX11_asks_10 : decode cX11_asks 10 = .ok (.aload_n 0, 1) := by decide +kernel
theorem dX11_asks_11 : decode cX11_asks 11 = .ok (.getfield 30, 3) := by decide +kernel
theorem dX11_asks_14 : decode cX11_asks 14 = .ok (.getfield 213, 3) := by decide +kernel
theorem dX11_asks_17 : decode cX11_asks 17 = .ok (.iconst 0, 1) := by decide +kernel
theorem dX11_asks_18 : decode cX11_asks 18 = .ok (.lconst 0, 1) := by decide +kernel
theorem dX11_asks_19 : decode cX11_asks 19 = .ok (.iconst 0, 1) := by decide +kernel
theorem dX11_asks_20 : decode cX11_asks 20 = .ok (.invokevirtual 217, 3) := by decide +kernel
theorem dX11_asks_23 : decode cX11_asks 23 = .ok (.ireturn, 1) := by decide +kernel
theorem dX11_asks_24 : decode cX11_asks 24 = .ok (.aload_n 0, 1) := by decide +kernel
theorem dX11_asks_25 : decode cX11_asks 25 = .ok (.getfield 37, 3) := by decide +kernel
theorem dX11_asks_28 : decode cX11_asks 28 = .ok (.getfield 246, 3) := by decide +kernel
theorem dX11_asks_31 : decode cX11_asks 31 = .ok (.iconst 1, 1) := by decide +kernel
theorem dX11_asks_32 : decode cX11_asks 32 = .ok (.isub, 1) := by decide +kernel
theorem dX11_asks_33 : decode cX11_asks 33 = .ok (.istore_n 1, 1) := by decide +kernel
theorem dX11_asks_34 : decode cX11_asks 34 = .ok (.aload_n 0, 1) := by decide +kernel
theorem dX11_asks_35 : decode cX11_asks 35 = .ok (.getfield 30, 3) := by decide +kernel
theorem dX11_asks_38 : decode cX11_asks 38 = .ok (.getfield 213, 3) := by decide +kernel
theorem dX11_asks_41 : decode cX11_asks 41 = .ok (.aload_n 0, 1) := by decide +kernel
theorem dX11_asks_42 : decode cX11_asks 42 = .ok (.getfield 37, 3) := by decide +kernel
theorem dX11_asks_45 : decode cX11_asks 45 = .ok (.getfield 246, 3) := by decide +kernel
theorem dX11_asks_48 : decode cX11_asks 48 = .ok (.aload_n 0, 1) := by decide +kernel
theorem dX11_asks_49 : decode cX11_asks 49 = .ok (.getfield 37, 3) := by decide +kernel
theorem dX11_asks_52 : decode cX11_asks 52 = .ok (.getfield 291, 3) := by decide +kernel
theorem dX11_asks_55 : decode cX11_asks 55 = .ok (.iload_n 1, 1) := by decide +kernel
theorem dX11_asks_56 : decode cX11_asks 56 = .ok (.laload, 1) := by decide +kernel
theorem dX11_asks_57 : decode cX11_asks 57 = .ok (.aload_n 0, 1) := by decide +kernel
theorem dX11_asks_58 : decode cX11_asks 58 = .ok (.getfield 37, 3) := by decide +kernel
theorem dX11_asks_61 : decode cX11_asks 61 = .ok (.getfield 285, 3) := by decide +kernel
theorem dX11_asks_64 : decode cX11_asks 64 = .ok (.iload_n 1, 1) := by decide +kernel
theorem dX11_asks_65 : decode cX11_asks 65 = .ok (.iaload, 1) := by decide +kernel
theorem dX11_asks_66 : decode cX11_asks 66 = .ok (.invokevirtual 217, 3) := by decide +kernel
theorem dX11_asks_69 : decode cX11_asks 69 = .ok (.ireturn, 1) := by decide +kernel
theorem dX11_isSlot_0 : decode cX11_isSlot 0 = .ok (.iload_n 0, 1) := by decide +kernel
theorem dX11_isSlot_1 : decode cX11_isSlot 1 = .ok (.ifCond .lt 12, 3) := by decide +kernel
theorem dX11_isSlot_4 : decode cX11_isSlot 4 = .ok (.iload_n 0, 1) := by decide +kernel
theorem dX11_isSlot_5 : decode cX11_isSlot 5 = .ok (.iconst 3, 1) := by decide +kernel
theorem dX11_isSlot_6 : decode cX11_isSlot 6 = .ok (.if_icmp .ge 7, 3) := by decide +kernel
theorem dX11_isSlot_9 : decode cX11_isSlot 9 = .ok (.iconst 1, 1) := by decide +kernel
theorem dX11_isSlot_10 : decode cX11_isSlot 10 = .ok (.goto 4, 3) := by decide +kernel
theorem dX11_isSlot_13 : decode cX11_isSlot 13 = .ok (.iconst 0, 1) := by decide +kernel
theorem dX11_isSlot_14 : decode cX11_isSlot 14 = .ok (.ireturn, 1) := by decide +kernel
theorem dX11_hold_0 : decode cX11_hold 0 = .ok (.iload_n 1, 1) := by decide +kernel
theorem dX11_hold_1 : decode cX11_hold 1 = .ok (.invokestatic 294, 3) := by decide +kernel
theorem dX11_hold_4 : decode cX11_hold 4 = .ok (.ifCond .ne 5, 3) := by decide +kernel
theorem dX11_hold_7 : decode cX11_hold 7 = .ok (.iconst 0, 1) := by decide +kernel
theorem dX11_hold_8 : decode cX11_hold 8 = .ok (.ireturn, 1) := by decide +kernel
theorem dX11_hold_9 : decode cX11_hold 9 = .ok (.aload_n 0, 1) := by decide +kernel
theorem dX11_hold_10 : decode cX11_hold 10 = .ok (.getfield 41, 3) := by decide +kernel
theorem dX11_hold_13 : decode cX11_hold 13 = .ok (.iload_n 1, 1) := by decide +kernel
theorem dX11_hold_14 : decode cX11_hold 14 = .ok (.aaload, 1) := by decide +kernel
theorem dX11_hold_15 : decode cX11_hold 15 = .ok (.aload_n 0, 1) := by decide +kernel
theorem dX11_hold_16 : decode cX11_hold 16 = .ok (.getfield 37, 3) := by decide +kernel
theorem dX11_hold_19 : decode cX11_hold 19 = .ok (.invokevirtual 297, 3) := by decide +kernel
theorem dX11_hold_22 : decode cX11_hold 22 = .ok (.aload_n 0, 1) := by decide +kernel
theorem dX11_hold_23 : decode cX11_hold 23 = .ok (.getfield 41, 3) := by decide +kernel
theorem dX11_hold_26 : decode cX11_hold 26 = .ok (.iload_n 1, 1) := by decide +kernel
theorem dX11_hold_27 : decode cX11_hold 27 = .ok (.aaload, 1) := by decide +kernel
theorem dX11_hold_28 : decode cX11_hold 28 = .ok (.iconst 1, 1) := by decide +kernel
theorem dX11_hold_29 : decode cX11_hold 29 = .ok (.putfield 73, 3) := by decide +kernel
theorem dX11_hold_32 : decode cX11_hold 32 = .ok (.iconst 1, 1) := by decide +kernel
theorem dX11_hold_33 : decode cX11_hold 33 = .ok (.ireturn, 1) := by decide +kernel
theorem dX11_restore_0 : decode cX11_restore 0 = .ok (.iload_n 1, 1) := by decide +kernel
theorem dX11_restore_1 : decode cX11_restore 1 = .ok (.invokestatic 294, 3) := by decide +kernel
theorem dX11_restore_4 : decode cX11_restore 4 = .ok (.ifCond .eq 15, 3) := by decide +kernel
theorem dX11_restore_7 : decode cX11_restore 7 = .ok (.aload_n 0, 1) := by decide +kernel
theorem dX11_restore_8 : decode cX11_restore 8 = .ok (.getfield 41, 3) := by decide +kernel
theorem dX11_restore_11 : decode cX11_restore 11 = .ok (.iload_n 1, 1) := by decide +kernel
theorem dX11_restore_12 : decode cX11_restore 12 = .ok (.aaload, 1) := by decide +kernel
theorem dX11_restore_13 : decode cX11_restore 13 = .ok (.getfield 73, 3) := by decide +kernel
theorem dX11_restore_16 : decode cX11_restore 16 = .ok (.ifCond .ne 5, 3) := by decide +kernel
theorem dX11_restore_19 : decode cX11_restore 19 = .ok (.iconst 0, 1) := by decide +kernel
theorem dX11_restore_20 : decode cX11_restore 20 = .ok (.ireturn, 1) := by decide +kernel
theorem dX11_restore_21 : decode cX11_restore 21 = .ok (.aload_n 0, 1) := by decide +kernel
theorem dX11_restore_22 : decode cX11_restore 22 = .ok (.getfield 37, 3) := by decide +kernel
theorem dX11_restore_25 : decode cX11_restore 25 = .ok (.aload_n 0, 1) := by decide +kernel
theorem dX11_restore_26 : decode cX11_restore 26 = .ok (.getfield 41, 3) := by decide +kernel
theorem dX11_restore_29 : decode cX11_restore 29 = .ok (.iload_n 1, 1) := by decide +kernel
theorem dX11_restore_30 : decode cX11_restore 30 = .ok (.aaload, 1) := by decide +kernel
theorem dX11_restore_31 : decode cX11_restore 31 = .ok (.invokevirtual 297, 3) := by decide +kernel
theorem dX11_restore_34 : decode cX11_restore 34 = .ok (.iconst 1, 1) := by decide +kernel
theorem dX11_restore_35 : decode cX11_restore 35 = .ok (.ireturn, 1) := by decide +kernel
theorem dX11_isWeighing_0 : decode cX11_isWeighing 0 = .ok (.iload_n 0, 1) := by decide +kernel
theorem dX11_isWeighing_1 : decode cX11_isWeighing 1 = .ok (.i2l, 1) := by decide +kernel
theorem dX11_isWeighing_2 : decode cX11_isWeighing 2 = .ok (.lconst 0, 1) := by decide +kernel
theorem dX11_isWeighing_3 : decode cX11_isWeighing 3 = .ok (.ldc2_w 301, 3) := by decide +kernel
theorem dX11_isWeighing_6 : decode cX11_isWeighing 6 = .ok (.invokestatic 119, 3) := by decide +kernel
theorem dX11_isWeighing_9 : decode cX11_isWeighing 9 = .ok (.ifCond .eq 19, 3) := by decide +kernel
theorem dX11_isWeighing_12 : decode cX11_isWeighing 12 = .ok (.iload_n 1, 1) := by decide +kernel
theorem dX11_isWeighing_13 : decode cX11_isWeighing 13 = .ok (.i2l, 1) := by decide +kernel
theorem dX11_isWeighing_14 : decode cX11_isWeighing 14 = .ok (.lconst 1, 1) := by decide +kernel
theorem dX11_isWeighing_15 : decode cX11_isWeighing 15 = .ok (.ldc2_w 203, 3) := by decide +kernel
theorem dX11_isWeighing_18 : decode cX11_isWeighing 18 = .ok (.invokestatic 119, 3) := by decide +kernel
theorem dX11_isWeighing_21 : decode cX11_isWeighing 21 = .ok (.ifCond .eq 7, 3) := by decide +kernel
theorem dX11_isWeighing_24 : decode cX11_isWeighing 24 = .ok (.iconst 1, 1) := by decide +kernel
theorem dX11_isWeighing_25 : decode cX11_isWeighing 25 = .ok (.goto 4, 3) := by decide +kernel
theorem dX11_isWeighing_28 : decode cX11_isWeighing 28 = .ok (.iconst 0, 1) := by decide +kernel
theorem dX11_isWeighing_29 : decode cX11_isWeighing 29 = .ok (.ireturn, 1) := by decide +kernel
theorem dX11_bad_0 : decode cX11_bad 0 = .ok (.iload_n 1, 1) := by decide +kernel
theorem dX11_bad_1 : decode cX11_bad 1 = .ok (.iload_n 2, 1) := by decide +kernel
theorem dX11_bad_2 : decode cX11_bad 2 = .ok (.invokestatic 303, 3) := by decide +kernel
theorem dX11_bad_5 : decode cX11_bad 5 = .ok (.ifCond .eq 18, 3) := by decide +kernel
theorem dX11_bad_8 : decode cX11_bad 8 = .ok (.aload_n 0, 1) := by decide +kernel
theorem dX11_bad_9 : decode cX11_bad 9 = .ok (.getfield 30, 3) := by decide +kernel
theorem dX11_bad_12 : decode cX11_bad 12 = .ok (.getfield 306, 3) := by decide +kernel
theorem dX11_bad_15 : decode cX11_bad 15 = .ok (.iload_n 1, 1) := by decide +kernel
theorem dX11_bad_16 : decode cX11_bad 16 = .ok (.iload_n 2, 1) := by decide +kernel
theorem dX11_bad_17 : decode cX11_bad 17 = .ok (.invokevirtual 310, 3) := by decide +kernel
theorem dX11_bad_20 : decode cX11_bad 20 = .ok (.goto 4, 3) := by decide +kernel
theorem dX11_bad_23 : decode cX11_bad 23 = .ok (.iconst (-1), 1) := by decide +kernel
theorem dX11_bad_24 : decode cX11_bad 24 = .ok (.ireturn, 1) := by decide +kernel
theorem dX11_badSet_0 : decode cX11_badSet 0 = .ok (.iload_n 1, 1) := by decide +kernel
theorem dX11_badSet_1 : decode cX11_badSet 1 = .ok (.iload_n 2, 1) := by decide +kernel
theorem dX11_badSet_2 : decode cX11_badSet 2 = .ok (.invokestatic 303, 3) := by decide +kernel
theorem dX11_badSet_5 : decode cX11_badSet 5 = .ok (.ifCond .eq 18, 3) := by decide +kernel
theorem dX11_badSet_8 : decode cX11_badSet 8 = .ok (.aload_n 0, 1) := by decide +kernel
theorem dX11_badSet_9 : decode cX11_badSet 9 = .ok (.getfield 30, 3) := by decide +kernel
theorem dX11_badSet_12 : decode cX11_badSet 12 = .ok (.getfield 306, 3) := by decide +kernel
theorem dX11_badSet_15 : decode cX11_badSet 15 = .ok (.iload_n 1, 1) := by decide +kernel
theorem dX11_badSet_16 : decode cX11_badSet 16 = .ok (.iload_n 2, 1) := by decide +kernel
theorem dX11_badSet_17 : decode cX11_badSet 17 = .ok (.invokevirtual 315, 3) := by decide +kernel
theorem dX11_badSet_20 : decode cX11_badSet 20 = .ok (.goto 4, 3) := by decide +kernel
theorem dX11_badSet_23 : decode cX11_badSet 23 = .ok (.iconst (-1), 1) := by decide +kernel
theorem dX11_badSet_24 : decode cX11_badSet 24 = .ok (.ireturn, 1) := by decide +kernel
theorem dX11_allTold_0 : decode cX11_allTold 0 = .ok (.aload_n 0, 1) := by decide +kernel
theorem dX11_allTold_1 : decode cX11_allTold 1 = .ok (.getfield 30, 3) := by decide +kernel
theorem dX11_allTold_4 : decode cX11_allTold 4 = .ok (.getfield 306, 3) := by decide +kernel
theorem dX11_allTold_7 : decode cX11_allTold 7 = .ok (.invokevirtual 318, 3) := by decide +kernel
theorem dX11_allTold_10 : decode cX11_allTold 10 = .ok (.ifCond .eq 7, 3) := by decide +kernel
theorem dX11_allTold_13 : decode cX11_allTold 13 = .ok (.iconst 1, 1) := by decide +kernel
theorem dX11_allTold_14 : decode cX11_allTold 14 = .ok (.goto 4, 3) := by decide +kernel
theorem dX11_allTold_17 : decode cX11_allTold 17 = .ok (.iconst 0, 1) := by decide +kernel
theorem dX11_allTold_18 : decode cX11_allTold 18 = .ok (.ireturn, 1) := by decide +kernel
theorem dX11_margin_0 : decode cX11_margin 0 = .ok (.aload_n 0, 1) := by decide +kernel
theorem dX11_margin_1 : decode cX11_margin 1 = .ok (.getfield 30, 3) := by decide +kernel
theorem dX11_margin_4 : decode cX11_margin 4 = .ok (.getfield 306, 3) := by decide +kernel
theorem dX11_margin_7 : decode cX11_margin 7 = .ok (.invokevirtual 318, 3) := by decide +kernel
theorem dX11_margin_10 : decode cX11_margin 10 = .ok (.ireturn, 1) := by decide +kernel
theorem dX11_secret_0 : decode cX11_secret 0 = .ok (.aload_n 0, 1) := by decide +kernel
theorem dX11_secret_1 : decode cX11_secret 1 = .ok (.iload_n 1, 1) := by decide +kernel
theorem dX11_secret_2 : decode cX11_secret 2 = .ok (.iconst 0, 1) := by decide +kernel
theorem dX11_secret_3 : decode cX11_secret 3 = .ok (.invokevirtual 321, 3) := by decide +kernel
theorem dX11_secret_6 : decode cX11_secret 6 = .ok (.ireturn, 1) := by decide +kernel
theorem dX11_shared_0 : decode cX11_shared 0 = .ok (.aload_n 0, 1) := by decide +kernel
theorem dX11_shared_1 : decode cX11_shared 1 = .ok (.getfield 30, 3) := by decide +kernel
theorem dX11_shared_4 : decode cX11_shared 4 = .ok (.getfield 164, 3) := by decide +kernel
theorem dX11_shared_7 : decode cX11_shared 7 = .ok (.iload_n 1, 1) := by decide +kernel
theorem dX11_shared_8 : decode cX11_shared 8 = .ok (.invokevirtual 324, 3) := by decide +kernel
theorem dX11_shared_11 : decode cX11_shared 11 = .ok (.ifCond .eq 15, 3) := by decide +kernel
theorem dX11_shared_14 : decode cX11_shared 14 = .ok (.iload_n 2, 1) := by decide +kernel
theorem dX11_shared_15 : decode cX11_shared 15 = .ok (.i2l, 1) := by decide +kernel
theorem dX11_shared_16 : decode cX11_shared 16 = .ok (.lconst 0, 1) := by decide +kernel
theorem dX11_shared_17 : decode cX11_shared 17 = .ok (.ldc2_w 162, 3) := by decide +kernel
theorem dX11_shared_20 : decode cX11_shared 20 = .ok (.invokestatic 119, 3) := by decide +kernel
theorem dX11_shared_23 : decode cX11_shared 23 = .ok (.ifCond .ne 5, 3) := by decide +kernel
theorem dX11_shared_26 : decode cX11_shared 26 = .ok (.iconst (-1), 1) := by decide +kernel
theorem dX11_shared_27 : decode cX11_shared 27 = .ok (.ireturn, 1) := by decide +kernel
theorem dX11_shared_28 : decode cX11_shared 28 = .ok (.aload_n 0, 1) := by decide +kernel
theorem dX11_shared_29 : decode cX11_shared 29 = .ok (.getfield 30, 3) := by decide +kernel
theorem dX11_shared_32 : decode cX11_shared 32 = .ok (.getfield 164, 3) := by decide +kernel
theorem dX11_shared_35 : decode cX11_shared 35 = .ok (.iload_n 1, 1) := by decide +kernel
theorem dX11_shared_36 : decode cX11_shared 36 = .ok (.invokevirtual 327, 3) := by decide +kernel
theorem dX11_shared_39 : decode cX11_shared 39 = .ok (.aload_n 0, 1) := by decide +kernel
theorem dX11_shared_40 : decode cX11_shared 40 = .ok (.getfield 30, 3) := by decide +kernel
theorem dX11_shared_43 : decode cX11_shared 43 = .ok (.getfield 164, 3) := by decide +kernel
theorem dX11_shared_46 : decode cX11_shared 46 = .ok (.iload_n 2, 1) := by decide +kernel
theorem dX11_shared_47 : decode cX11_shared 47 = .ok (.invokevirtual 330, 3) := by decide +kernel
theorem dX11_shared_50 : decode cX11_shared 50 = .ok (.ireturn, 1) := by decide +kernel
theorem dX11_shareRow_0 : decode cX11_shareRow 0 = .ok (.aload_n 0, 1) := by decide +kernel
theorem dX11_shareRow_1 : decode cX11_shareRow 1 = .ok (.getfield 30, 3) := by decide +kernel
theorem dX11_shareRow_4 : decode cX11_shareRow 4 = .ok (.getfield 164, 3) := by decide +kernel
theorem dX11_shareRow_7 : decode cX11_shareRow 7 = .ok (.iload_n 1, 1) := by decide +kernel
theorem dX11_shareRow_8 : decode cX11_shareRow 8 = .ok (.invokevirtual 324, 3) := by decide +kernel
theorem dX11_shareRow_11 : decode cX11_shareRow 11 = .ok (.ifCond .eq 15, 3) := by decide +kernel
theorem dX11_shareRow_14 : decode cX11_shareRow 14 = .ok (.iload_n 2, 1) := by decide +kernel
theorem dX11_shareRow_15 : decode cX11_shareRow 15 = .ok (.ifCond .lt 11, 3) := by decide +kernel
theorem dX11_shareRow_18 : decode cX11_shareRow 18 = .ok (.iload_n 2, 1) := by decide +kernel
theorem dX11_shareRow_19 : decode cX11_shareRow 19 = .ok (.iload_n 1, 1) := by decide +kernel
theorem dX11_shareRow_20 : decode cX11_shareRow 20 = .ok (.invokestatic 332, 3) := by decide +kernel
theorem dX11_shareRow_23 : decode cX11_shareRow 23 = .ok (.if_icmp .lt 5, 3) := by decide +kernel
theorem dX11_shareRow_26 : decode cX11_shareRow 26 = .ok (.iconst (-1), 1) := by decide +kernel
theorem dX11_shareRow_27 : decode cX11_shareRow 27 = .ok (.ireturn, 1) := by decide +kernel
theorem dX11_shareRow_28 : decode cX11_shareRow 28 = .ok (.aload_n 0, 1) := by decide +kernel
theorem dX11_shareRow_29 : decode cX11_shareRow 29 = .ok (.getfield 30, 3) := by decide +kernel
theorem dX11_shareRow_32 : decode cX11_shareRow 32 = .ok (.getfield 164, 3) := by decide +kernel
theorem dX11_shareRow_35 : decode cX11_shareRow 35 = .ok (.iload_n 1, 1) := by decide +kernel
theorem dX11_shareRow_36 : decode cX11_shareRow 36 = .ok (.invokevirtual 327, 3) := by decide +kernel
theorem dX11_shareRow_39 : decode cX11_shareRow 39 = .ok (.aload_n 0, 1) := by decide +kernel
theorem dX11_shareRow_40 : decode cX11_shareRow 40 = .ok (.getfield 30, 3) := by decide +kernel
theorem dX11_shareRow_43 : decode cX11_shareRow 43 = .ok (.getfield 164, 3) := by decide +kernel
theorem dX11_shareRow_46 : decode cX11_shareRow 46 = .ok (.getfield 337, 3) := by decide +kernel
theorem dX11_shareRow_49 : decode cX11_shareRow 49 = .ok (.iload_n 2, 1) := by decide +kernel
theorem dX11_shareRow_50 : decode cX11_shareRow 50 = .ok (.iaload, 1) := by decide +kernel
theorem dX11_shareRow_51 : decode cX11_shareRow 51 = .ok (.ireturn, 1) := by decide +kernel
theorem dX11_wrong_0 : decode cX11_wrong 0 = .ok (.iload_n 1, 1) := by decide +kernel
theorem dX11_wrong_1 : decode cX11_wrong 1 = .ok (.i2l, 1) := by decide +kernel
theorem dX11_wrong_2 : decode cX11_wrong 2 = .ok (.lconst 1, 1) := by decide +kernel
theorem dX11_wrong_3 : decode cX11_wrong 3 = .ok (.ldc2_w 156, 3) := by decide +kernel
theorem dX11_wrong_6 : decode cX11_wrong 6 = .ok (.invokestatic 119, 3) := by decide +kernel
theorem dX11_wrong_9 : decode cX11_wrong 9 = .ok (.ifCond .ne 5, 3) := by decide +kernel
theorem dX11_wrong_12 : decode cX11_wrong 12 = .ok (.iconst (-1), 1) := by decide +kernel
theorem dX11_wrong_13 : decode cX11_wrong 13 = .ok (.ireturn, 1) := by decide +kernel
theorem dX11_wrong_14 : decode cX11_wrong 14 = .ok (.iload_n 1, 1) := by decide +kernel
theorem dX11_wrong_15 : decode cX11_wrong 15 = .ok (.aload_n 0, 1) := by decide +kernel
theorem dX11_wrong_16 : decode cX11_wrong 16 = .ok (.getfield 30, 3) := by decide +kernel
theorem dX11_wrong_19 : decode cX11_wrong 19 = .ok (.getfield 164, 3) := by decide +kernel
theorem dX11_wrong_22 : decode cX11_wrong 22 = .ok (.getfield 340, 3) := by decide +kernel
theorem dX11_wrong_25 : decode cX11_wrong 25 = .ok (.if_icmp .le 8, 3) := by decide +kernel
theorem dX11_wrong_28 : decode cX11_wrong 28 = .ok (.bipush (-2), 2) := by decide +kernel
theorem dX11_wrong_30 : decode cX11_wrong 30 = .ok (.goto 14, 3) := by decide +kernel
theorem dX11_wrong_33 : decode cX11_wrong 33 = .ok (.aload_n 0, 1) := by decide +kernel
theorem dX11_wrong_34 : decode cX11_wrong 34 = .ok (.getfield 30, 3) := by decide +kernel
theorem dX11_wrong_37 : decode cX11_wrong 37 = .ok (.getfield 164, 3) := by decide +kernel
theorem dX11_wrong_40 : decode cX11_wrong 40 = .ok (.iload_n 1, 1) := by decide +kernel
theorem dX11_wrong_41 : decode cX11_wrong 41 = .ok (.invokevirtual 341, 3) := by decide +kernel
theorem dX11_wrong_44 : decode cX11_wrong 44 = .ok (.ireturn, 1) := by decide +kernel
theorem dX11_pair_0 : decode cX11_pair 0 = .ok (.iload_n 1, 1) := by decide +kernel
theorem dX11_pair_1 : decode cX11_pair 1 = .ok (.i2l, 1) := by decide +kernel
theorem dX11_pair_2 : decode cX11_pair 2 = .ok (.lconst 0, 1) := by decide +kernel
theorem dX11_pair_3 : decode cX11_pair 3 = .ok (.ldc2_w 344, 3) := by decide +kernel
theorem dX11_pair_6 : decode cX11_pair 6 = .ok (.invokestatic 119, 3) := by decide +kernel
theorem dX11_pair_9 : decode cX11_pair 9 = .ok (.ifCond .eq 15, 3) := by decide +kernel
theorem dX11_pair_12 : decode cX11_pair 12 = .ok (.iload_n 2, 1) := by decide +kernel
theorem dX11_pair_13 : decode cX11_pair 13 = .ok (.i2l, 1) := by decide +kernel
theorem dX11_pair_14 : decode cX11_pair 14 = .ok (.lconst 0, 1) := by decide +kernel
theorem dX11_pair_15 : decode cX11_pair 15 = .ok (.ldc2_w 344, 3) := by decide +kernel
theorem dX11_pair_18 : decode cX11_pair 18 = .ok (.invokestatic 119, 3) := by decide +kernel
theorem dX11_pair_21 : decode cX11_pair 21 = .ok (.ifCond .ne 7, 3) := by decide +kernel
theorem dX11_pair_24 : decode cX11_pair 24 = .ok (.ldc2_w 131, 3) := by decide +kernel
theorem dX11_pair_27 : decode cX11_pair 27 = .ok (.lreturn, 1) := by decide +kernel
theorem dX11_pair_28 : decode cX11_pair 28 = .ok (.iload_n 1, 1) := by decide +kernel
theorem dX11_pair_29 : decode cX11_pair 29 = .ok (.i2l, 1) := by decide +kernel
theorem dX11_pair_30 : decode cX11_pair 30 = .ok (.iload_n 2, 1) := by decide +kernel
theorem dX11_pair_31 : decode cX11_pair 31 = .ok (.i2l, 1) := by decide +kernel
theorem dX11_pair_32 : decode cX11_pair 32 = .ok (.invokestatic 346, 3) := by decide +kernel
theorem dX11_pair_35 : decode cX11_pair 35 = .ok (.lreturn, 1) := by decide +kernel
theorem dX11_paired_0 : decode cX11_paired 0 = .ok (.lload_n 0, 1) := by decide +kernel
theorem dX11_paired_1 : decode cX11_paired 1 = .ok (.lload_n 2, 1) := by decide +kernel
theorem dX11_paired_2 : decode cX11_paired 2 = .ok (.ladd, 1) := by decide +kernel
theorem dX11_paired_3 : decode cX11_paired 3 = .ok (.invokestatic 350, 3) := by decide +kernel
theorem dX11_paired_6 : decode cX11_paired 6 = .ok (.lload_n 2, 1) := by decide +kernel
theorem dX11_paired_7 : decode cX11_paired 7 = .ok (.ladd, 1) := by decide +kernel
theorem dX11_paired_8 : decode cX11_paired 8 = .ok (.lreturn, 1) := by decide +kernel
theorem dX11_triangle_0 : decode cX11_triangle 0 = .ok (.lload_n 0, 1) := by decide +kernel
theorem dX11_triangle_1 : decode cX11_triangle 1 = .ok (.lload_n 0, 1) := by decide +kernel
theorem dX11_triangle_2 : decode cX11_triangle 2 = .ok (.lconst 1, 1) := by decide +kernel
theorem dX11_triangle_3 : decode cX11_triangle 3 = .ok (.ladd, 1) := by decide +kernel
theorem dX11_triangle_4 : decode cX11_triangle 4 = .ok (.lmul, 1) := by decide +kernel
theorem dX11_triangle_5 : decode cX11_triangle 5 = .ok (.ldc2_w 152, 3) := by decide +kernel
theorem dX11_triangle_8 : decode cX11_triangle 8 = .ok (.ldiv, 1) := by decide +kernel
theorem dX11_triangle_9 : decode cX11_triangle 9 = .ok (.lreturn, 1) := by decide +kernel
theorem dX11_unpair_0 : decode cX11_unpair 0 = .ok (.lload_n 1, 1) := by decide +kernel
theorem dX11_unpair_1 : decode cX11_unpair 1 = .ok (.lconst 0, 1) := by decide +kernel
theorem dX11_unpair_2 : decode cX11_unpair 2 = .ok (.ldc2_w 150, 3) := by decide +kernel
theorem dX11_unpair_5 : decode cX11_unpair 5 = .ok (.invokestatic 119, 3) := by decide +kernel
theorem dX11_unpair_8 : decode cX11_unpair 8 = .ok (.ifCond .ne 7, 3) := by decide +kernel
theorem dX11_unpair_11 : decode cX11_unpair 11 = .ok (.ldc2_w 131, 3) := by decide +kernel
theorem dX11_unpair_14 : decode cX11_unpair 14 = .ok (.lreturn, 1) := by decide +kernel
theorem dX11_unpair_15 : decode cX11_unpair 15 = .ok (.lconst 0, 1) := by decide +kernel
theorem dX11_unpair_16 : decode cX11_unpair 16 = .ok (.lstore 4, 2) := by decide +kernel
theorem dX11_unpair_18 : decode cX11_unpair 18 = .ok (.ldc2_w 353, 3) := by decide +kernel
theorem dX11_unpair_21 : decode cX11_unpair 21 = .ok (.lstore 6, 2) := by decide +kernel
theorem dX11_unpair_23 : decode cX11_unpair 23 = .ok (.lload 6, 2) := by decide +kernel
theorem dX11_unpair_25 : decode cX11_unpair 25 = .ok (.lconst 0, 1) := by decide +kernel
theorem dX11_unpair_26 : decode cX11_unpair 26 = .ok (.lcmp, 1) := by decide +kernel
theorem dX11_unpair_27 : decode cX11_unpair 27 = .ok (.ifCond .le 34, 3) := by decide +kernel
theorem dX11_unpair_30 : decode cX11_unpair 30 = .ok (.lload 4, 2) := by decide +kernel
theorem dX11_unpair_32 : decode cX11_unpair 32 = .ok (.lload 6, 2) := by decide +kernel
theorem dX11_unpair_34 : decode cX11_unpair 34 = .ok (.ladd, 1) := by decide +kernel
theorem dX11_unpair_35 : decode cX11_unpair 35 = .ok (.invokestatic 350, 3) := by decide +kernel
theorem dX11_unpair_38 : decode cX11_unpair 38 = .ok (.lload_n 1, 1) := by decide +kernel
theorem dX11_unpair_39 : decode cX11_unpair 39 = .ok (.lcmp, 1) := by decide +kernel
theorem dX11_unpair_40 : decode cX11_unpair 40 = .ok (.ifCond .gt 10, 3) := by decide +kernel
theorem dX11_unpair_43 : decode cX11_unpair 43 = .ok (.lload 4, 2) := by decide +kernel
theorem dX11_unpair_45 : decode cX11_unpair 45 = .ok (.lload 6, 2) := by decide +kernel
theorem dX11_unpair_47 : decode cX11_unpair 47 = .ok (.ladd, 1) := by decide +kernel
theorem dX11_unpair_48 : decode cX11_unpair 48 = .ok (.lstore 4, 2) := by decide +kernel
theorem dX11_unpair_50 : decode cX11_unpair 50 = .ok (.lload 6, 2) := by decide +kernel
theorem dX11_unpair_52 : decode cX11_unpair 52 = .ok (.ldc2_w 152, 3) := by decide +kernel
theorem dX11_unpair_55 : decode cX11_unpair 55 = .ok (.ldiv, 1) := by decide +kernel
theorem dX11_unpair_56 : decode cX11_unpair 56 = .ok (.lstore 6, 2) := by decide +kernel
theorem dX11_unpair_58 : decode cX11_unpair 58 = .ok (.goto (-35), 3) := by decide +kernel
theorem dX11_unpair_61 : decode cX11_unpair 61 = .ok (.lload_n 1, 1) := by decide +kernel
theorem dX11_unpair_62 : decode cX11_unpair 62 = .ok (.lload 4, 2) := by decide +kernel
theorem dX11_unpair_64 : decode cX11_unpair 64 = .ok (.invokestatic 350, 3) := by decide +kernel
theorem dX11_unpair_67 : decode cX11_unpair 67 = .ok (.lsub, 1) := by decide +kernel
theorem dX11_unpair_68 : decode cX11_unpair 68 = .ok (.lstore 6, 2) := by decide +kernel
theorem dX11_unpair_70 : decode cX11_unpair 70 = .ok (.iload_n 3, 1) := by decide +kernel
theorem dX11_unpair_71 : decode cX11_unpair 71 = .ok (.ifCond .eq 8, 3) := by decide +kernel
theorem dX11_unpair_74 : decode cX11_unpair 74 = .ok (.lload 6, 2) := by decide +kernel
theorem dX11_unpair_76 : decode cX11_unpair 76 = .ok (.goto 8, 3) := by decide +kernel
theorem dX11_unpair_79 : decode cX11_unpair 79 = .ok (.lload 4, 2) := by decide +kernel
theorem dX11_unpair_81 : decode cX11_unpair 81 = .ok (.lload 6, 2) := by decide +kernel
theorem dX11_unpair_83 : decode cX11_unpair 83 = .ok (.lsub, 1) := by decide +kernel
theorem dX11_unpair_84 : decode cX11_unpair 84 = .ok (.lreturn, 1) := by decide +kernel
theorem dX11_number_0 : decode cX11_number 0 = .ok (.aload_n 0, 1) := by decide +kernel
theorem dX11_number_1 : decode cX11_number 1 = .ok (.iload_n 1, 1) := by decide +kernel
theorem dX11_number_2 : decode cX11_number 2 = .ok (.invokevirtual 103, 3) := by decide +kernel
theorem dX11_number_5 : decode cX11_number 5 = .ok (.ifCond .ne 7, 3) := by decide +kernel
theorem dX11_number_8 : decode cX11_number 8 = .ok (.ldc2_w 131, 3) := by decide +kernel
theorem dX11_number_11 : decode cX11_number 11 = .ok (.lreturn, 1) := by decide +kernel
theorem dX11_number_12 : decode cX11_number 12 = .ok (.aload_n 0, 1) := by decide +kernel
theorem dX11_number_13 : decode cX11_number 13 = .ok (.getfield 30, 3) := by decide +kernel
theorem dX11_number_16 : decode cX11_number 16 = .ok (.getfield 107, 3) := by decide +kernel
theorem dX11_number_19 : decode cX11_number 19 = .ok (.iload_n 1, 1) := by decide +kernel
theorem dX11_number_20 : decode cX11_number 20 = .ok (.iaload, 1) := by decide +kernel
theorem dX11_number_21 : decode cX11_number 21 = .ok (.istore_n 2, 1) := by decide +kernel
theorem dX11_number_22 : decode cX11_number 22 = .ok (.iload_n 2, 1) := by decide +kernel
theorem dX11_number_23 : decode cX11_number 23 = .ok (.ifCond .eq 19, 3) := by decide +kernel
theorem dX11_number_26 : decode cX11_number 26 = .ok (.iload_n 2, 1) := by decide +kernel
theorem dX11_number_27 : decode cX11_number 27 = .ok (.iconst 4, 1) := by decide +kernel
theorem dX11_number_28 : decode cX11_number 28 = .ok (.if_icmp .gt 14, 3) := by decide +kernel
theorem dX11_number_31 : decode cX11_number 31 = .ok (.aload_n 0, 1) := by decide +kernel
theorem dX11_number_32 : decode cX11_number 32 = .ok (.getfield 30, 3) := by decide +kernel
theorem dX11_number_35 : decode cX11_number 35 = .ok (.iload_n 1, 1) := by decide +kernel
theorem dX11_number_36 : decode cX11_number 36 = .ok (.invokevirtual 133, 3) := by decide +kernel
theorem dX11_number_39 : decode cX11_number 39 = .ok (.ifCond .eq 7, 3) := by decide +kernel
theorem dX11_number_42 : decode cX11_number 42 = .ok (.ldc2_w 136, 3) := by decide +kernel
theorem dX11_number_45 : decode cX11_number 45 = .ok (.lreturn, 1) := by decide +kernel
theorem dX11_number_46 : decode cX11_number 46 = .ok (.aload_n 0, 1) := by decide +kernel
theorem dX11_number_47 : decode cX11_number 47 = .ok (.getfield 30, 3) := by decide +kernel
theorem dX11_number_50 : decode cX11_number 50 = .ok (.iload_n 1, 1) := by decide +kernel
theorem dX11_number_51 : decode cX11_number 51 = .ok (.iconst 0, 1) := by decide +kernel
theorem dX11_number_52 : decode cX11_number 52 = .ok (.invokevirtual 111, 3) := by decide +kernel
theorem dX11_number_55 : decode cX11_number 55 = .ok (.i2l, 1) := by decide +kernel
theorem dX11_number_56 : decode cX11_number 56 = .ok (.lstore_n 3, 1) := by decide +kernel
theorem dX11_number_57 : decode cX11_number 57 = .ok (.iconst 1, 1) := by decide +kernel
theorem dX11_number_58 : decode cX11_number 58 = .ok (.istore 5, 2) := by decide +kernel
theorem dX11_number_60 : decode cX11_number 60 = .ok (.iload 5, 2) := by decide +kernel
theorem dX11_number_62 : decode cX11_number 62 = .ok (.iload_n 2, 1) := by decide +kernel
theorem dX11_number_63 : decode cX11_number 63 = .ok (.if_icmp .ge 25, 3) := by decide +kernel
theorem dX11_number_66 : decode cX11_number 66 = .ok (.lload_n 3, 1) := by decide +kernel
theorem dX11_number_67 : decode cX11_number 67 = .ok (.aload_n 0, 1) := by decide +kernel
theorem dX11_number_68 : decode cX11_number 68 = .ok (.getfield 30, 3) := by decide +kernel
theorem dX11_number_71 : decode cX11_number 71 = .ok (.iload_n 1, 1) := by decide +kernel
theorem dX11_number_72 : decode cX11_number 72 = .ok (.iload 5, 2) := by decide +kernel
theorem dX11_number_74 : decode cX11_number 74 = .ok (.invokevirtual 111, 3) := by decide +kernel
theorem dX11_number_77 : decode cX11_number 77 = .ok (.i2l, 1) := by decide +kernel
theorem dX11_number_78 : decode cX11_number 78 = .ok (.invokestatic 346, 3) := by decide +kernel
theorem dX11_number_81 : decode cX11_number 81 = .ok (.lstore_n 3, 1) := by decide +kernel
theorem dX11_number_82 : decode cX11_number 82 = .ok (.iinc 5 1, 3) := by decide +kernel
theorem dX11_number_85 : decode cX11_number 85 = .ok (.goto (-25), 3) := by decide +kernel
theorem dX11_number_88 : decode cX11_number 88 = .ok (.lload_n 3, 1) := by decide +kernel
theorem dX11_number_89 : decode cX11_number 89 = .ok (.lreturn, 1) := by decide +kernel
theorem dX11_count_0 : decode cX11_count 0 = .ok (.iload_n 1, 1) := by decide +kernel
theorem dX11_count_1 : decode cX11_count 1 = .ok (.tableswitch 156 0 11 #[63, 71, 82, 93, 104, 112, 120, 125, 133, 138, 146, 151], 63) := by decide +kernel
theorem dX11_count_64 : decode cX11_count 64 = .ok (.aload_n 0, 1) := by decide +kernel
theorem dX11_count_65 : decode cX11_count 65 = .ok (.getfield 30, 3) := by decide +kernel
theorem dX11_count_68 : decode cX11_count 68 = .ok (.getfield 100, 3) := by decide +kernel
theorem dX11_count_71 : decode cX11_count 71 = .ok (.ireturn, 1) := by decide +kernel
theorem dX11_count_72 : decode cX11_count 72 = .ok (.aload_n 0, 1) := by decide +kernel
theorem dX11_count_73 : decode cX11_count 73 = .ok (.getfield 30, 3) := by decide +kernel
theorem dX11_count_76 : decode cX11_count 76 = .ok (.getfield 164, 3) := by decide +kernel
theorem dX11_count_79 : decode cX11_count 79 = .ok (.getfield 340, 3) := by decide +kernel
theorem dX11_count_82 : decode cX11_count 82 = .ok (.ireturn, 1) := by decide +kernel
theorem dX11_count_83 : decode cX11_count 83 = .ok (.aload_n 0, 1) := by decide +kernel
theorem dX11_count_84 : decode cX11_count 84 = .ok (.getfield 30, 3) := by decide +kernel
theorem dX11_count_87 : decode cX11_count 87 = .ok (.getfield 306, 3) := by decide +kernel
theorem dX11_count_90 : decode cX11_count 90 = .ok (.getfield 355, 3) := by decide +kernel
theorem dX11_count_93 : decode cX11_count 93 = .ok (.ireturn, 1) := by decide +kernel
theorem dX11_count_94 : decode cX11_count 94 = .ok (.aload_n 0, 1) := by decide +kernel
theorem dX11_count_95 : decode cX11_count 95 = .ok (.getfield 30, 3) := by decide +kernel
theorem dX11_count_98 : decode cX11_count 98 = .ok (.getfield 164, 3) := by decide +kernel
theorem dX11_count_101 : decode cX11_count 101 = .ok (.getfield 173, 3) := by decide +kernel
theorem dX11_count_104 : decode cX11_count 104 = .ok (.ireturn, 1) := by decide +kernel
theorem dX11_count_105 : decode cX11_count 105 = .ok (.aload_n 0, 1) := by decide +kernel
theorem dX11_count_106 : decode cX11_count 106 = .ok (.getfield 30, 3) := by decide +kernel
theorem dX11_count_109 : decode cX11_count 109 = .ok (.getfield 77, 3) := by decide +kernel
theorem dX11_count_112 : decode cX11_count 112 = .ok (.ireturn, 1) := by decide +kernel
theorem dX11_count_113 : decode cX11_count 113 = .ok (.aload_n 0, 1) := by decide +kernel
theorem dX11_count_114 : decode cX11_count 114 = .ok (.getfield 30, 3) := by decide +kernel
theorem dX11_count_117 : decode cX11_count 117 = .ok (.getfield 80, 3) := by decide +kernel
theorem dX11_count_120 : decode cX11_count 120 = .ok (.ireturn, 1) := by decide +kernel
theorem dX11_count_121 : decode cX11_count 121 = .ok (.aload_n 0, 1) := by decide +kernel
theorem dX11_count_122 : decode cX11_count 122 = .ok (.getfield 13, 3) := by decide +kernel
theorem dX11_count_125 : decode cX11_count 125 = .ok (.ireturn, 1) := by decide +kernel
theorem dX11_count_126 : decode cX11_count 126 = .ok (.aload_n 0, 1) := by decide +kernel
theorem dX11_count_127 : decode cX11_count 127 = .ok (.getfield 37, 3) := by decide +kernel
theorem dX11_count_130 : decode cX11_count 130 = .ok (.getfield 246, 3) := by decide +kernel
theorem dX11_count_133 : decode cX11_count 133 = .ok (.ireturn, 1) := by decide +kernel
theorem dX11_count_134 : decode cX11_count 134 = .ok (.aload_n 0, 1) := by decide +kernel
theorem dX11_count_135 : decode cX11_count 135 = .ok (.invokevirtual 356, 3) := by decide +kernel
theorem dX11_count_138 : decode cX11_count 138 = .ok (.ireturn, 1) := by decide +kernel
theorem dX11_count_139 : decode cX11_count 139 = .ok (.aload_n 0, 1) := by decide +kernel
theorem dX11_count_140 : decode cX11_count 140 = .ok (.getfield 30, 3) := by decide +kernel
theorem dX11_count_143 : decode cX11_count 143 = .ok (.getfield 288, 3) := by decide +kernel
theorem dX11_count_146 : decode cX11_count 146 = .ok (.ireturn, 1) := by decide +kernel
theorem dX11_count_147 : decode cX11_count 147 = .ok (.aload_n 0, 1) := by decide +kernel
theorem dX11_count_148 : decode cX11_count 148 = .ok (.getfield 45, 3) := by decide +kernel
theorem dX11_count_151 : decode cX11_count 151 = .ok (.ireturn, 1) := by decide +kernel
theorem dX11_count_152 : decode cX11_count 152 = .ok (.aload_n 0, 1) := by decide +kernel
theorem dX11_count_153 : decode cX11_count 153 = .ok (.getfield 48, 3) := by decide +kernel
theorem dX11_count_156 : decode cX11_count 156 = .ok (.ireturn, 1) := by decide +kernel
theorem dX11_count_157 : decode cX11_count 157 = .ok (.iconst (-1), 1) := by decide +kernel
theorem dX11_count_158 : decode cX11_count 158 = .ok (.ireturn, 1) := by decide +kernel
theorem dX11_slotsThatHold_0 : decode cX11_slotsThatHold 0 = .ok (.iconst 0, 1) := by decide +kernel
theorem dX11_slotsThatHold_1 : decode cX11_slotsThatHold 1 = .ok (.istore_n 1, 1) := by decide +kernel
theorem dX11_slotsThatHold_2 : decode cX11_slotsThatHold 2 = .ok (.iconst 0, 1) := by decide +kernel
theorem dX11_slotsThatHold_3 : decode cX11_slotsThatHold 3 = .ok (.istore_n 2, 1) := by decide +kernel
theorem dX11_slotsThatHold_4 : decode cX11_slotsThatHold 4 = .ok (.iload_n 2, 1) := by decide +kernel
theorem dX11_slotsThatHold_5 : decode cX11_slotsThatHold 5 = .ok (.iconst 3, 1) := by decide +kernel
theorem dX11_slotsThatHold_6 : decode cX11_slotsThatHold 6 = .ok (.if_icmp .ge 24, 3) := by decide +kernel
theorem dX11_slotsThatHold_9 : decode cX11_slotsThatHold 9 = .ok (.aload_n 0, 1) := by decide +kernel
theorem dX11_slotsThatHold_10 : decode cX11_slotsThatHold 10 = .ok (.getfield 41, 3) := by decide +kernel
theorem dX11_slotsThatHold_13 : decode cX11_slotsThatHold 13 = .ok (.iload_n 2, 1) := by decide +kernel
theorem dX11_slotsThatHold_14 : decode cX11_slotsThatHold 14 = .ok (.aaload, 1) := by decide +kernel
theorem dX11_slotsThatHold_15 : decode cX11_slotsThatHold 15 = .ok (.getfield 73, 3) := by decide +kernel
theorem dX11_slotsThatHold_18 : decode cX11_slotsThatHold 18 = .ok (.ifCond .eq 6, 3) := by decide +kernel
theorem dX11_slotsThatHold_21 : decode cX11_slotsThatHold 21 = .ok (.iinc 1 1, 3) := by decide +kernel
theorem dX11_slotsThatHold_24 : decode cX11_slotsThatHold 24 = .ok (.iinc 2 1, 3) := by decide +kernel
theorem dX11_slotsThatHold_27 : decode cX11_slotsThatHold 27 = .ok (.goto (-23), 3) := by decide +kernel
theorem dX11_slotsThatHold_30 : decode cX11_slotsThatHold 30 = .ok (.iload_n 1, 1) := by decide +kernel
theorem dX11_slotsThatHold_31 : decode cX11_slotsThatHold 31 = .ok (.ireturn, 1) := by decide +kernel
theorem dX12_init_0 : decode cX12_init 0 = .ok (.aload_n 0, 1) := by decide +kernel
theorem dX12_init_1 : decode cX12_init 1 = .ok (.invokespecial 7, 3) := by decide +kernel
theorem dX12_init_4 : decode cX12_init 4 = .ok (.aload_n 0, 1) := by decide +kernel
theorem dX12_init_5 : decode cX12_init 5 = .ok (.sipush 2000, 3) := by decide +kernel
theorem dX12_init_8 : decode cX12_init 8 = .ok (.newarray .byte, 2) := by decide +kernel
theorem dX12_init_10 : decode cX12_init 10 = .ok (.putfield 13, 3) := by decide +kernel
theorem dX12_init_13 : decode cX12_init 13 = .ok (.aload_n 0, 1) := by decide +kernel
theorem dX12_init_14 : decode cX12_init 14 = .ok (.sipush 2000, 3) := by decide +kernel
theorem dX12_init_17 : decode cX12_init 17 = .ok (.newarray .byte, 2) := by decide +kernel
theorem dX12_init_19 : decode cX12_init 19 = .ok (.putfield 17, 3) := by decide +kernel
theorem dX12_init_22 : decode cX12_init 22 = .ok (.aload_n 0, 1) := by decide +kernel
theorem dX12_init_23 : decode cX12_init 23 = .ok (.sipush 403, 3) := by decide +kernel
theorem dX12_init_26 : decode cX12_init 26 = .ok (.newarray .int, 2) := by decide +kernel
theorem dX12_init_28 : decode cX12_init 28 = .ok (.putfield 20, 3) := by decide +kernel
theorem dX12_init_31 : decode cX12_init 31 = .ok (.aload_n 0, 1) := by decide +kernel
theorem dX12_init_32 : decode cX12_init 32 = .ok (.sipush 403, 3) := by decide +kernel
theorem dX12_init_35 : decode cX12_init 35 = .ok (.newarray .int, 2) := by decide +kernel
theorem dX12_init_37 : decode cX12_init 37 = .ok (.putfield 24, 3) := by decide +kernel
theorem dX12_init_40 : decode cX12_init 40 = .ok (.aload_n 0, 1) := by decide +kernel
theorem dX12_init_41 : decode cX12_init 41 = .ok (.sipush 403, 3) := by decide +kernel
theorem dX12_init_44 : decode cX12_init 44 = .ok (.newarray .int, 2) := by decide +kernel
theorem dX12_init_46 : decode cX12_init 46 = .ok (.putfield 27, 3) := by decide +kernel
theorem dX12_init_49 : decode cX12_init 49 = .ok (.aload_n 0, 1) := by decide +kernel
theorem dX12_init_50 : decode cX12_init 50 = .ok (.sipush 403, 3) := by decide +kernel
theorem dX12_init_53 : decode cX12_init 53 = .ok (.newarray .long, 2) := by decide +kernel
theorem dX12_init_55 : decode cX12_init 55 = .ok (.putfield 30, 3) := by decide +kernel
theorem dX12_init_58 : decode cX12_init 58 = .ok (.aload_n 0, 1) := by decide +kernel
theorem dX12_init_59 : decode cX12_init 59 = .ok (.bipush 17, 2) := by decide +kernel
theorem dX12_init_61 : decode cX12_init 61 = .ok (.newarray .long, 2) := by decide +kernel
theorem dX12_init_63 : decode cX12_init 63 = .ok (.putfield 34, 3) := by decide +kernel
theorem dX12_init_66 : decode cX12_init 66 = .ok (.aload_n 0, 1) := by decide +kernel
theorem dX12_init_67 : decode cX12_init 67 = .ok (.iconst (-1), 1) := by decide +kernel
theorem dX12_init_68 : decode cX12_init 68 = .ok (.putfield 37, 3) := by decide +kernel
theorem dX12_init_71 : decode cX12_init 71 = .ok (.aload_n 0, 1) := by decide +kernel
theorem dX12_init_72 : decode cX12_init 72 = .ok (.bipush 6, 2) := by decide +kernel
theorem dX12_init_74 : decode cX12_init 74 = .ok (.newarray .long, 2) := by decide +kernel
theorem dX12_init_76 : decode cX12_init 76 = .ok (.putfield 40, 3) := by decide +kernel
theorem dX12_init_79 : decode cX12_init 79 = .ok (.aload_n 0, 1) := by decide +kernel
theorem dX12_init_80 : decode cX12_init 80 = .ok (.iconst 2, 1) := by decide +kernel
theorem dX12_init_81 : decode cX12_init 81 = .ok (.newarray .int, 2) := by decide +kernel
theorem dX12_init_83 : decode cX12_init 83 = .ok (.putfield 43, 3) := by decide +kernel
theorem dX12_init_86 : decode cX12_init 86 = .ok (.aload_n 0, 1) := by decide +kernel
theorem dX12_init_87 : decode cX12_init 87 = .ok (.bipush 12, 2) := by decide +kernel
theorem dX12_init_89 : decode cX12_init 89 = .ok (.newarray .int, 2) := by decide +kernel
theorem dX12_init_91 : decode cX12_init 91 = .ok (.putfield 46, 3) := by decide +kernel
theorem dX12_init_94 : decode cX12_init 94 = .ok (.aload_n 0, 1) := by decide +kernel
theorem dX12_init_95 : decode cX12_init 95 = .ok (.bipush 72, 2) := by decide +kernel
theorem dX12_init_97 : decode cX12_init 97 = .ok (.newarray .int, 2) := by decide +kernel
theorem dX12_init_99 : decode cX12_init 99 = .ok (.putfield 49, 3) := by decide +kernel
theorem dX12_init_102 : decode cX12_init 102 = .ok (.aload_n 0, 1) := by decide +kernel
theorem dX12_init_103 : decode cX12_init 103 = .ok (.iconst 2, 1) := by decide +kernel
theorem dX12_init_104 : decode cX12_init 104 = .ok (.newarray .int, 2) := by decide +kernel
theorem dX12_init_106 : decode cX12_init 106 = .ok (.putfield 52, 3) := by decide +kernel
theorem dX12_init_109 : decode cX12_init 109 = .ok (.aload_n 0, 1) := by decide +kernel
theorem dX12_init_110 : decode cX12_init 110 = .ok (.iconst 2, 1) := by decide +kernel
theorem dX12_init_111 : decode cX12_init 111 = .ok (.newarray .int, 2) := by decide +kernel
theorem dX12_init_113 : decode cX12_init 113 = .ok (.putfield 55, 3) := by decide +kernel
theorem dX12_init_116 : decode cX12_init 116 = .ok (.aload_n 0, 1) := by decide +kernel
theorem dX12_init_117 : decode cX12_init 117 = .ok (.bipush 16, 2) := by decide +kernel
theorem dX12_init_119 : decode cX12_init 119 = .ok (.newarray .int, 2) := by decide +kernel
theorem dX12_init_121 : decode cX12_init 121 = .ok (.putfield 58, 3) := by decide +kernel
theorem dX12_init_124 : decode cX12_init 124 = .ok (.aload_n 0, 1) := by decide +kernel
theorem dX12_init_125 : decode cX12_init 125 = .ok (.bipush 16, 2) := by decide +kernel
theorem dX12_init_127 : decode cX12_init 127 = .ok (.newarray .int, 2) := by decide +kernel
theorem dX12_init_129 : decode cX12_init 129 = .ok (.putfield 61, 3) := by decide +kernel
theorem dX12_init_132 : decode cX12_init 132 = .ok (.aload_n 0, 1) := by decide +kernel
theorem dX12_init_133 : decode cX12_init 133 = .ok (.bipush 16, 2) := by decide +kernel
theorem dX12_init_135 : decode cX12_init 135 = .ok (.newarray .int, 2) := by decide +kernel
theorem dX12_init_137 : decode cX12_init 137 = .ok (.putfield 64, 3) := by decide +kernel
theorem dX12_init_140 : decode cX12_init 140 = .ok (.aload_n 0, 1) := by decide +kernel
theorem dX12_init_141 : decode cX12_init 141 = .ok (.iconst 2, 1) := by decide +kernel
theorem dX12_init_142 : decode cX12_init 142 = .ok (.newarray .int, 2) := by decide +kernel
theorem dX12_init_144 : decode cX12_init 144 = .ok (.putfield 67, 3) := by decide +kernel
theorem dX12_init_147 : decode cX12_init 147 = .ok (.aload_n 0, 1) := by decide +kernel
theorem dX12_init_148 : decode cX12_init 148 = .ok (.bipush 18, 2) := by decide +kernel
theorem dX12_init_150 : decode cX12_init 150 = .ok (.newarray .int, 2) := by decide +kernel
theorem dX12_init_152 : decode cX12_init 152 = .ok (.putfield 70, 3) := by decide +kernel
theorem dX12_init_155 : decode cX12_init 155 = .ok (.aload_n 0, 1) := by decide +kernel
theorem dX12_init_156 : decode cX12_init 156 = .ok (.iconst 2, 1) := by decide +kernel
theorem dX12_init_157 : decode cX12_init 157 = .ok (.newarray .int, 2) := by decide +kernel
theorem dX12_init_159 : decode cX12_init 159 = .ok (.putfield 73, 3) := by decide +kernel
theorem dX12_init_162 : decode cX12_init 162 = .ok (.aload_n 0, 1) := by decide +kernel
theorem dX12_init_163 : decode cX12_init 163 = .ok (.iconst 2, 1) := by decide +kernel
theorem dX12_init_164 : decode cX12_init 164 = .ok (.newarray .int, 2) := by decide +kernel
theorem dX12_init_166 : decode cX12_init 166 = .ok (.putfield 76, 3) := by decide +kernel
theorem dX12_init_169 : decode cX12_init 169 = .ok (.aload_n 0, 1) := by decide +kernel
theorem dX12_init_170 : decode cX12_init 170 = .ok (.iconst 2, 1) := by decide +kernel
theorem dX12_init_171 : decode cX12_init 171 = .ok (.newarray .int, 2) := by decide +kernel
theorem dX12_init_173 : decode cX12_init 173 = .ok (.putfield 79, 3) := by decide +kernel
theorem dX12_init_176 : decode cX12_init 176 = .ok (.aload_n 0, 1) := by decide +kernel
theorem dX12_init_177 : decode cX12_init 177 = .ok (.iconst 4, 1) := by decide +kernel
theorem dX12_init_178 : decode cX12_init 178 = .ok (.newarray .int, 2) := by decide +kernel
theorem dX12_init_180 : decode cX12_init 180 = .ok (.putfield 82, 3) := by decide +kernel
theorem dX12_init_183 : decode cX12_init 183 = .ok (.aload_n 0, 1) := by decide +kernel
theorem dX12_init_184 : decode cX12_init 184 = .ok (.iconst 4, 1) := by decide +kernel
theorem dX12_init_185 : decode cX12_init 185 = .ok (.newarray .int, 2) := by decide +kernel
theorem dX12_init_187 : decode cX12_init 187 = .ok (.putfield 85, 3) := by decide +kernel
theorem dX12_init_190 : decode cX12_init 190 = .ok (.aload_n 0, 1) := by decide +kernel
theorem dX12_init_191 : decode cX12_init 191 = .ok (.sipush 260, 3) := by decide +kernel
theorem dX12_init_194 : decode cX12_init 194 = .ok (.newarray .boolean, 2) := by decide +kernel
theorem dX12_init_196 : decode cX12_init 196 = .ok (.putfield 88, 3) := by decide +kernel
theorem dX12_init_199 : decode cX12_init 199 = .ok (.aload_n 0, 1) := by decide +kernel
theorem dX12_init_200 : decode cX12_init 200 = .ok (.sipush 260, 3) := by decide +kernel
theorem dX12_init_203 : decode cX12_init 203 = .ok (.newarray .int, 2) := by decide +kernel
theorem dX12_init_205 : decode cX12_init 205 = .ok (.putfield 92, 3) := by decide +kernel
theorem dX12_init_208 : decode cX12_init 208 = .ok (.aload_n 0, 1) := by decide +kernel
theorem dX12_init_209 : decode cX12_init 209 = .ok (.sipush 260, 3) := by decide +kernel
theorem dX12_init_212 : decode cX12_init 212 = .ok (.newarray .int, 2) := by decide +kernel
theorem dX12_init_214 : decode cX12_init 214 = .ok (.putfield 95, 3) := by decide +kernel
theorem dX12_init_217 : decode cX12_init 217 = .ok (.aload_n 0, 1) := by decide +kernel
theorem dX12_init_218 : decode cX12_init 218 = .ok (.sipush 260, 3) := by decide +kernel
theorem dX12_init_221 : decode cX12_init 221 = .ok (.newarray .int, 2) := by decide +kernel
theorem dX12_init_223 : decode cX12_init 223 = .ok (.putfield 98, 3) := by decide +kernel
theorem dX12_init_226 : decode cX12_init 226 = .ok (.aload_n 0, 1) := by decide +kernel
theorem dX12_init_227 : decode cX12_init 227 = .ok (.sipush 260, 3) := by decide +kernel
theorem dX12_init_230 : decode cX12_init 230 = .ok (.newarray .int, 2) := by decide +kernel
theorem dX12_init_232 : decode cX12_init 232 = .ok (.putfield 101, 3) := by decide +kernel
theorem dX12_init_235 : decode cX12_init 235 = .ok (.aload_n 0, 1) := by decide +kernel
theorem dX12_init_236 : decode cX12_init 236 = .ok (.sipush 840, 3) := by decide +kernel
theorem dX12_init_239 : decode cX12_init 239 = .ok (.newarray .int, 2) := by decide +kernel
theorem dX12_init_241 : decode cX12_init 241 = .ok (.putfield 104, 3) := by decide +kernel
theorem dX12_init_244 : decode cX12_init 244 = .ok (.aload_n 0, 1) := by decide +kernel
theorem dX12_init_245 : decode cX12_init 245 = .ok (.sipush 840, 3) := by decide +kernel
theorem dX12_init_248 : decode cX12_init 248 = .ok (.newarray .int, 2) := by decide +kernel
theorem dX12_init_250 : decode cX12_init 250 = .ok (.putfield 107, 3) := by decide +kernel
theorem dX12_init_253 : decode cX12_init 253 = .ok (.aload_n 0, 1) := by decide +kernel
theorem dX12_init_254 : decode cX12_init 254 = .ok (.bipush 64, 2) := by decide +kernel
theorem dX12_init_256 : decode cX12_init 256 = .ok (.newarray .int, 2) := by decide +kernel
theorem dX12_init_258 : decode cX12_init 258 = .ok (.putfield 110, 3) := by decide +kernel
theorem dX12_init_261 : decode cX12_init 261 = .ok (.aload_n 0, 1) := by decide +kernel
theorem dX12_init_262 : decode cX12_init 262 = .ok (.bipush 6, 2) := by decide +kernel
theorem dX12_init_264 : decode cX12_init 264 = .ok (.newarray .int, 2) := by decide +kernel
theorem dX12_init_266 : decode cX12_init 266 = .ok (.putfield 113, 3) := by decide +kernel
theorem dX12_init_269 : decode cX12_init 269 = .ok (.aload_n 0, 1) := by decide +kernel
theorem dX12_init_270 : decode cX12_init 270 = .ok (.sipush 400, 3) := by decide +kernel
theorem dX12_init_273 : decode cX12_init 273 = .ok (.newarray .int, 2) := by decide +kernel
theorem dX12_init_275 : decode cX12_init 275 = .ok (.putfield 116, 3) := by decide +kernel
theorem dX12_init_278 : decode cX12_init 278 = .ok (.aload_n 0, 1) := by decide +kernel
theorem dX12_init_279 : decode cX12_init 279 = .ok (.ldc 119, 2) := by decide +kernel
theorem dX12_init_281 : decode cX12_init 281 = .ok (.newarray .long, 2) := by decide +kernel
theorem dX12_init_283 : decode cX12_init 283 = .ok (.putfield 120, 3) := by decide +kernel
theorem dX12_init_286 : decode cX12_init 286 = .ok (.aload_n 0, 1) := by decide +kernel
theorem dX12_init_287 : decode cX12_init 287 = .ok (.ldc 119, 2) := by decide +kernel
theorem dX12_init_289 : decode cX12_init 289 = .ok (.newarray .int, 2) := by decide +kernel
theorem dX12_init_291 : decode cX12_init 291 = .ok (.putfield 123, 3) := by decide +kernel
theorem dX12_init_294 : decode cX12_init 294 = .ok (.aload_n 0, 1) := by decide +kernel
theorem dX12_init_295 : decode cX12_init 295 = .ok (.ldc 119, 2) := by decide +kernel
theorem dX12_init_297 : decode cX12_init 297 = .ok (.newarray .int, 2) := by decide +kernel
theorem dX12_init_299 : decode cX12_init 299 = .ok (.putfield 126, 3) := by decide +kernel
theorem dX12_init_302 : decode cX12_init 302 = .ok (.aload_n 0, 1) := by decide +kernel
theorem dX12_init_303 : decode cX12_init 303 = .ok (.sipush 10000, 3) := by decide +kernel
theorem dX12_init_306 : decode cX12_init 306 = .ok (.newarray .int, 2) := by decide +kernel
theorem dX12_init_308 : decode cX12_init 308 = .ok (.putfield 129, 3) := by decide +kernel
theorem dX12_init_311 : decode cX12_init 311 = .ok (.aload_n 0, 1) := by decide +kernel
theorem dX12_init_312 : decode cX12_init 312 = .ok (.bipush 20, 2) := by decide +kernel
theorem dX12_init_314 : decode cX12_init 314 = .ok (.newarray .int, 2) := by decide +kernel
theorem dX12_init_316 : decode cX12_init 316 = .ok (.putfield 132, 3) := by decide +kernel
theorem dX12_init_319 : decode cX12_init 319 = .ok (.aload_n 0, 1) := by decide +kernel
theorem dX12_init_320 : decode cX12_init 320 = .ok (.bipush 20, 2) := by decide +kernel
theorem dX12_init_322 : decode cX12_init 322 = .ok (.newarray .long, 2) := by decide +kernel
theorem dX12_init_324 : decode cX12_init 324 = .ok (.putfield 135, 3) := by decide +kernel
theorem dX12_init_327 : decode cX12_init 327 = .ok (.aload_n 0, 1) := by decide +kernel
theorem dX12_init_328 : decode cX12_init 328 = .ok (.sipush 10000, 3) := by decide +kernel
theorem dX12_init_331 : decode cX12_init 331 = .ok (.newarray .boolean, 2) := by decide +kernel
theorem dX12_init_333 : decode cX12_init 333 = .ok (.putfield 138, 3) := by decide +kernel
theorem dX12_init_336 : decode cX12_init 336 = .ok (.aload_n 0, 1) := by decide +kernel
theorem dX12_init_337 : decode cX12_init 337 = .ok (.iconst (-1), 1) := by decide +kernel
theorem dX12_init_338 : decode cX12_init 338 = .ok (.putfield 141, 3) := by decide +kernel
theorem dX12_init_341 : decode cX12_init 341 = .ok (.aload_n 0, 1) := by decide +kernel
theorem dX12_init_342 : decode cX12_init 342 = .ok (.bipush 24, 2) := by decide +kernel
theorem dX12_init_344 : decode cX12_init 344 = .ok (.newarray .int, 2) := by decide +kernel
theorem dX12_init_346 : decode cX12_init 346 = .ok (.putfield 144, 3) := by decide +kernel
theorem dX12_init_349 : decode cX12_init 349 = .ok (.aload_n 0, 1) := by decide +kernel
theorem dX12_init_350 : decode cX12_init 350 = .ok (.bipush 24, 2) := by decide +kernel
theorem dX12_init_352 : decode cX12_init 352 = .ok (.newarray .boolean, 2) := by decide +kernel
theorem dX12_init_354 : decode cX12_init 354 = .ok (.putfield 147, 3) := by decide +kernel
theorem dX12_init_357 : decode cX12_init 357 = .ok (.aload_n 0, 1) := by decide +kernel
theorem dX12_init_358 : decode cX12_init 358 = .ok (.bipush 6, 2) := by decide +kernel
theorem dX12_init_360 : decode cX12_init 360 = .ok (.newarray .int, 2) := by decide +kernel
theorem dX12_init_362 : decode cX12_init 362 = .ok (.putfield 150, 3) := by decide +kernel
theorem dX12_init_365 : decode cX12_init 365 = .ok (.aload_n 0, 1) := by decide +kernel
theorem dX12_init_366 : decode cX12_init 366 = .ok (.bipush 7, 2) := by decide +kernel
theorem dX12_init_368 : decode cX12_init 368 = .ok (.newarray .int, 2) := by decide +kernel
theorem dX12_init_370 : decode cX12_init 370 = .ok (.putfield 153, 3) := by decide +kernel
theorem dX12_init_373 : decode cX12_init 373 = .ok (.aload_n 0, 1) := by decide +kernel
theorem dX12_init_374 : decode cX12_init 374 = .ok (.iconst 3, 1) := by decide +kernel
theorem dX12_init_375 : decode cX12_init 375 = .ok (.newarray .boolean, 2) := by decide +kernel
theorem dX12_init_377 : decode cX12_init 377 = .ok (.putfield 156, 3) := by decide +kernel
theorem dX12_init_380 : decode cX12_init 380 = .ok (.aload_n 0, 1) := by decide +kernel
theorem dX12_init_381 : decode cX12_init 381 = .ok (.iconst 3, 1) := by decide +kernel
theorem dX12_init_382 : decode cX12_init 382 = .ok (.newarray .int, 2) := by decide +kernel
theorem dX12_init_384 : decode cX12_init 384 = .ok (.putfield 159, 3) := by decide +kernel
theorem dX12_init_387 : decode cX12_init 387 = .ok (.aload_n 0, 1) := by decide +kernel
theorem dX12_init_388 : decode cX12_init 388 = .ok (.bipush 60, 2) := by decide +kernel
theorem dX12_init_390 : decode cX12_init 390 = .ok (.newarray .int, 2) := by decide +kernel
theorem dX12_init_392 : decode cX12_init 392 = .ok (.putfield 162, 3) := by decide +kernel
theorem dX12_init_395 : decode cX12_init 395 = .ok (.aload_n 0, 1) := by decide +kernel
theorem dX12_init_396 : decode cX12_init 396 = .ok (.bipush 60, 2) := by decide +kernel
theorem dX12_init_398 : decode cX12_init 398 = .ok (.newarray .long, 2) := by decide +kernel
theorem dX12_init_400 : decode cX12_init 400 = .ok (.putfield 165, 3) := by decide +kernel
theorem dX12_init_403 : decode cX12_init 403 = .ok (.aload_n 0, 1) := by decide +kernel
theorem dX12_init_404 : decode cX12_init 404 = .ok (.iconst 0, 1) := by decide +kernel
theorem dX12_init_405 : decode cX12_init 405 = .ok (.invokevirtual 168, 3) := by decide +kernel
theorem dX12_init_408 : decode cX12_init 408 = .ok (.aload_n 0, 1) := by decide +kernel
theorem dX12_init_409 : decode cX12_init 409 = .ok (.getfield 34, 3) := by decide +kernel
theorem dX12_init_412 : decode cX12_init 412 = .ok (.iconst 0, 1) := by decide +kernel
theorem dX12_init_413 : decode cX12_init 413 = .ok (.bipush 114, 2) := by decide +kernel
theorem dX12_init_415 : decode cX12_init 415 = .ok (.bipush 111, 2) := by decide +kernel
theorem dX12_init_417 : decode cX12_init 417 = .ok (.bipush 119, 2) := by decide +kernel
theorem dX12_init_419 : decode cX12_init 419 = .ok (.iconst 0, 1) := by decide +kernel
theorem dX12_init_420 : decode cX12_init 420 = .ok (.iconst 0, 1) := by decide +kernel
theorem dX12_init_421 : decode cX12_init 421 = .ok (.iconst 0, 1) := by decide +kernel
theorem dX12_init_422 : decode cX12_init 422 = .ok (.iconst 0, 1) := by decide +kernel
theorem dX12_init_423 : decode cX12_init 423 = .ok (.invokestatic 172, 3) := by decide +kernel
theorem dX12_init_426 : decode cX12_init 426 = .ok (.lastore, 1) := by decide +kernel
theorem dX12_init_427 : decode cX12_init 427 = .ok (.aload_n 0, 1) := by decide +kernel
theorem dX12_init_428 : decode cX12_init 428 = .ok (.getfield 34, 3) := by decide +kernel
theorem dX12_init_431 : decode cX12_init 431 = .ok (.iconst 1, 1) := by decide +kernel
theorem dX12_init_432 : decode cX12_init 432 = .ok (.bipush 108, 2) := by decide +kernel
theorem dX12_init_434 : decode cX12_init 434 = .ok (.bipush 105, 2) := by decide +kernel
theorem dX12_init_436 : decode cX12_init 436 = .ok (.bipush 115, 2) := by decide +kernel
theorem dX12_init_438 : decode cX12_init 438 = .ok (.bipush 116, 2) := by decide +kernel
theorem dX12_init_440 : decode cX12_init 440 = .ok (.iconst 0, 1) := by decide +kernel
theorem dX12_init_441 : decode cX12_init 441 = .ok (.iconst 0, 1) := by decide +kernel
theorem dX12_init_442 : decode cX12_init 442 = .ok (.iconst 0, 1) := by decide +kernel
theorem dX12_init_443 : decode cX12_init 443 = .ok (.invokestatic 172, 3) := by decide +kernel
theorem dX12_init_446 : decode cX12_init 446 = .ok (.lastore, 1) := by decide +kernel
theorem dX12_init_447 : decode cX12_init 447 = .ok (.aload_n 0, 1) := by decide +kernel
theorem dX12_init_448 : decode cX12_init 448 = .ok (.getfield 34, 3) := by decide +kernel
theorem dX12_init_451 : decode cX12_init 451 = .ok (.iconst 2, 1) := by decide +kernel
theorem dX12_init_452 : decode cX12_init 452 = .ok (.bipush 97, 2) := by decide +kernel
theorem dX12_init_454 : decode cX12_init 454 = .ok (.bipush 115, 2) := by decide +kernel
theorem dX12_init_456 : decode cX12_init 456 = .ok (.bipush 107, 2) := by decide +kernel
theorem dX12_init_458 : decode cX12_init 458 = .ok (.iconst 0, 1) := by decide +kernel
theorem dX12_init_459 : decode cX12_init 459 = .ok (.iconst 0, 1) := by decide +kernel
theorem dX12_init_460 : decode cX12_init 460 = .ok (.iconst 0, 1) := by decide +kernel
theorem dX12_init_461 : decode cX12_init 461 = .ok (.iconst 0, 1) := by decide +kernel
theorem dX12_init_462 : decode cX12_init 462 = .ok (.invokestatic 172, 3) := by decide +kernel
theorem dX12_init_465 : decode cX12_init 465 = .ok (.lastore, 1) := by decide +kernel
theorem dX12_init_466 : decode cX12_init 466 = .ok (.aload_n 0, 1) := by decide +kernel
theorem dX12_init_467 : decode cX12_init 467 = .ok (.getfield 34, 3) := by decide +kernel
theorem dX12_init_470 : decode cX12_init 470 = .ok (.iconst 3, 1) := by decide +kernel
theorem dX12_init_471 : decode cX12_init 471 = .ok (.bipush 112, 2) := by decide +kernel
theorem dX12_init_473 : decode cX12_init 473 = .ok (.bipush 114, 2) := by decide +kernel
theorem dX12_init_475 : decode cX12_init 475 = .ok (.bipush 105, 2) := by decide +kernel
theorem dX12_init_477 : decode cX12_init 477 = .ok (.bipush 109, 2) := by decide +kernel
theorem dX12_init_479 : decode cX12_init 479 = .ok (.bipush 101, 2) := by decide +kernel
theorem dX12_init_481 : decode cX12_init 481 = .ok (.iconst 0, 1) := by decide +kernel
theorem dX12_init_482 : decode cX12_init 482 = .ok (.iconst 0, 1) := by decide +kernel
theorem dX12_init_483 : decode cX12_init 483 = .ok (.invokestatic 172, 3) := by decide +kernel
theorem dX12_init_486 : decode cX12_init 486 = .ok (.lastore, 1) := by decide +kernel
theorem dX12_init_487 : decode cX12_init 487 = .ok (.aload_n 0, 1) := by decide +kernel
theorem dX12_init_488 : decode cX12_init 488 = .ok (.getfield 34, 3) := by decide +kernel
theorem dX12_init_491 : decode cX12_init 491 = .ok (.iconst 4, 1) := by decide +kernel
theorem dX12_init_492 : decode cX12_init 492 = .ok (.bipush 115, 2) := by decide +kernel
theorem dX12_init_494 : decode cX12_init 494 = .ok (.bipush 104, 2) := by decide +kernel
theorem dX12_init_496 : decode cX12_init 496 = .ok (.bipush 97, 2) := by decide +kernel
theorem dX12_init_498 : decode cX12_init 498 = .ok (.bipush 114, 2) := by decide +kernel
theorem dX12_init_500 : decode cX12_init 500 = .ok (.bipush 101, 2) := by decide +kernel
theorem dX12_init_502 : decode cX12_init 502 = .ok (.iconst 0, 1) := by decide +kernel
theorem dX12_init_503 : decode cX12_init 503 = .ok (.iconst 0, 1) := by decide +kernel
theorem dX12_init_504 : decode cX12_init 504 = .ok (.invokestatic 172, 3) := by decide +kernel
theorem dX12_init_507 : decode cX12_init 507 = .ok (.lastore, 1) := by decide +kernel
theorem dX12_init_508 : decode cX12_init 508 = .ok (.aload_n 0, 1) := by decide +kernel
theorem dX12_init_509 : decode cX12_init 509 = .ok (.getfield 34, 3) := by decide +kernel
theorem dX12_init_512 : decode cX12_init 512 = .ok (.iconst 5, 1) := by decide +kernel
theorem dX12_init_513 : decode cX12_init 513 = .ok (.bipush 98, 2) := by decide +kernel
theorem dX12_init_515 : decode cX12_init 515 = .ok (.bipush 97, 2) := by decide +kernel
theorem dX12_init_517 : decode cX12_init 517 = .ok (.bipush 103, 2) := by decide +kernel
theorem dX12_init_519 : decode cX12_init 519 = .ok (.iconst 0, 1) := by decide +kernel
theorem dX12_init_520 : decode cX12_init 520 = .ok (.iconst 0, 1) := by decide +kernel
theorem dX12_init_521 : decode cX12_init 521 = .ok (.iconst 0, 1) := by decide +kernel
theorem dX12_init_522 : decode cX12_init 522 = .ok (.iconst 0, 1) := by decide +kernel
theorem dX12_init_523 : decode cX12_init 523 = .ok (.invokestatic 172, 3) := by decide +kernel
theorem dX12_init_526 : decode cX12_init 526 = .ok (.lastore, 1) := by decide +kernel
theorem dX12_init_527 : decode cX12_init 527 = .ok (.aload_n 0, 1) := by decide +kernel
theorem dX12_init_528 : decode cX12_init 528 = .ok (.getfield 34, 3) := by decide +kernel
theorem dX12_init_531 : decode cX12_init 531 = .ok (.bipush 6, 2) := by decide +kernel
theorem dX12_init_533 : decode cX12_init 533 = .ok (.bipush 98, 2) := by decide +kernel
theorem dX12_init_535 : decode cX12_init 535 = .ok (.bipush 111, 2) := by decide +kernel
theorem dX12_init_537 : decode cX12_init 537 = .ok (.bipush 117, 2) := by decide +kernel
theorem dX12_init_539 : decode cX12_init 539 = .ok (.bipush 110, 2) := by decide +kernel
theorem dX12_init_541 : decode cX12_init 541 = .ok (.bipush 100, 2) := by decide +kernel
theorem dX12_init_543 : decode cX12_init 543 = .ok (.iconst 0, 1) := by decide +kernel
theorem dX12_init_544 : decode cX12_init 544 = .ok (.iconst 0, 1) := by decide +kernel
theorem dX12_init_545 : decode cX12_init 545 = .ok (.invokestatic 172, 3) := by decide +kernel
theorem dX12_init_548 : decode cX12_init 548 = .ok (.lastore, 1) := by decide +kernel
theorem dX12_init_549 : decode cX12_init 549 = .ok (.aload_n 0, 1) := by decide +kernel
theorem dX12_init_550 : decode cX12_init 550 = .ok (.getfield 34, 3) := by decide +kernel
theorem dX12_init_553 : decode cX12_init 553 = .ok (.bipush 7, 2) := by decide +kernel
theorem dX12_init_555 : decode cX12_init 555 = .ok (.bipush 108, 2) := by decide +kernel
theorem dX12_init_557 : decode cX12_init 557 = .ok (.bipush 105, 2) := by decide +kernel
theorem dX12_init_559 : decode cX12_init 559 = .ok (.bipush 97, 2) := by decide +kernel
theorem dX12_init_561 : decode cX12_init 561 = .ok (.bipush 114, 2) := by decide +kernel
theorem dX12_init_563 : decode cX12_init 563 = .ok (.iconst 0, 1) := by decide +kernel
theorem dX12_init_564 : decode cX12_init 564 = .ok (.iconst 0, 1) := by decide +kernel
theorem dX12_init_565 : decode cX12_init 565 = .ok (.iconst 0, 1) := by decide +kernel
theorem dX12_init_566 : decode cX12_init 566 = .ok (.invokestatic 172, 3) := by decide +kernel
theorem dX12_init_569 : decode cX12_init 569 = .ok (.lastore, 1) := by decide +kernel
theorem dX12_init_570 : decode cX12_init 570 = .ok (.aload_n 0, 1) := by decide +kernel
theorem dX12_init_571 : decode cX12_init 571 = .ok (.getfield 34, 3) := by decide +kernel
theorem dX12_init_574 : decode cX12_init 574 = .ok (.bipush 8, 2) := by decide +kernel
theorem dX12_init_576 : decode cX12_init 576 = .ok (.bipush 105, 2) := by decide +kernel
theorem dX12_init_578 : decode cX12_init 578 = .ok (.bipush 102, 2) := by decide +kernel
theorem dX12_init_580 : decode cX12_init 580 = .ok (.iconst 0, 1) := by decide +kernel
theorem dX12_init_581 : decode cX12_init 581 = .ok (.iconst 0, 1) := by decide +kernel
theorem dX12_init_582 : decode cX12_init 582 = .ok (.iconst 0, 1) := by decide +kernel
theorem dX12_init_583 : decode cX12_init 583 = .ok (.iconst 0, 1) := by decide +kernel
theorem dX12_init_584 : decode cX12_init 584 = .ok (.iconst 0, 1) := by decide +kernel
theorem dX12_init_585 : decode cX12_init 585 = .ok (.invokestatic 172, 3) := by decide +kernel
theorem dX12_init_588 : decode cX12_init 588 = .ok (.lastore, 1) := by decide +kernel
theorem dX12_init_589 : decode cX12_init 589 = .ok (.aload_n 0, 1) := by decide +kernel
theorem dX12_init_590 : decode cX12_init 590 = .ok (.getfield 34, 3) := by decide +kernel
theorem dX12_init_593 : decode cX12_init 593 = .ok (.bipush 9, 2) := by decide +kernel
theorem dX12_init_595 : decode cX12_init 595 = .ok (.bipush 116, 2) := by decide +kernel
theorem dX12_init_597 : decode cX12_init 597 = .ok (.bipush 104, 2) := by decide +kernel
theorem dX12_init_599 : decode cX12_init 599 = .ok (.bipush 101, 2) := by decide +kernel
theorem dX12_init_601 : decode cX12_init 601 = .ok (.bipush 110, 2) := by decide +kernel
theorem dX12_init_603 : decode cX12_init 603 = .ok (.iconst 0, 1) := by decide +kernel
theorem dX12_init_604 : decode cX12_init 604 = .ok (.iconst 0, 1) := by decide +kernel
theorem dX12_init_605 : decode cX12_init 605 = .ok (.iconst 0, 1) := by decide +kernel
theorem dX12_init_606 : decode cX12_init 606 = .ok (.invokestatic 172, 3) := by decide +kernel
theorem dX12_init_609 : decode cX12_init 609 = .ok (.lastore, 1) := by decide +kernel
theorem dX12_init_610 : decode cX12_init 610 = .ok (.aload_n 0, 1) := by decide +kernel
theorem dX12_init_611 : decode cX12_init 611 = .ok (.getfield 34, 3) := by decide +kernel
theorem dX12_init_614 : decode cX12_init 614 = .ok (.bipush 10, 2) := by decide +kernel
theorem dX12_init_616 : decode cX12_init 616 = .ok (.bipush 101, 2) := by decide +kernel
theorem dX12_init_618 : decode cX12_init 618 = .ok (.bipush 108, 2) := by decide +kernel
theorem dX12_init_620 : decode cX12_init 620 = .ok (.bipush 115, 2) := by decide +kernel
theorem dX12_init_622 : decode cX12_init 622 = .ok (.bipush 101, 2) := by decide +kernel
theorem dX12_init_624 : decode cX12_init 624 = .ok (.iconst 0, 1) := by decide +kernel
theorem dX12_init_625 : decode cX12_init 625 = .ok (.iconst 0, 1) := by decide +kernel
theorem dX12_init_626 : decode cX12_init 626 = .ok (.iconst 0, 1) := by decide +kernel
theorem dX12_init_627 : decode cX12_init 627 = .ok (.invokestatic 172, 3) := by decide +kernel
theorem dX12_init_630 : decode cX12_init 630 = .ok (.lastore, 1) := by decide +kernel
theorem dX12_init_631 : decode cX12_init 631 = .ok (.aload_n 0, 1) := by decide +kernel
theorem dX12_init_632 : decode cX12_init 632 = .ok (.getfield 34, 3) := by decide +kernel
theorem dX12_init_635 : decode cX12_init 635 = .ok (.bipush 11, 2) := by decide +kernel
theorem dX12_init_637 : decode cX12_init 637 = .ok (.bipush 112, 2) := by decide +kernel
theorem dX12_init_639 : decode cX12_init 639 = .ok (.bipush 108, 2) := by decide +kernel
theorem dX12_init_641 : decode cX12_init 641 = .ok (.bipush 97, 2) := by decide +kernel
theorem dX12_init_643 : decode cX12_init 643 = .ok (.bipush 99, 2) := by decide +kernel
theorem dX12_init_645 : decode cX12_init 645 = .ok (.bipush 101, 2) := by decide +kernel
theorem dX12_init_647 : decode cX12_init 647 = .ok (.iconst 0, 1) := by decide +kernel
theorem dX12_init_648 : decode cX12_init 648 = .ok (.iconst 0, 1) := by decide +kernel
theorem dX12_init_649 : decode cX12_init 649 = .ok (.invokestatic 172, 3) := by decide +kernel
theorem dX12_init_652 : decode cX12_init 652 = .ok (.lastore, 1) := by decide +kernel
theorem dX12_init_653 : decode cX12_init 653 = .ok (.aload_n 0, 1) := by decide +kernel
theorem dX12_init_654 : decode cX12_init 654 = .ok (.getfield 34, 3) := by decide +kernel
theorem dX12_init_657 : decode cX12_init 657 = .ok (.bipush 12, 2) := by decide +kernel
theorem dX12_init_659 : decode cX12_init 659 = .ok (.bipush 97, 2) := by decide +kernel
theorem dX12_init_661 : decode cX12_init 661 = .ok (.bipush 104, 2) := by decide +kernel
theorem dX12_init_663 : decode cX12_init 663 = .ok (.bipush 101, 2) := by decide +kernel
theorem dX12_init_665 : decode cX12_init 665 = .ok (.bipush 97, 2) := by decide +kernel
theorem dX12_init_667 : decode cX12_init 667 = .ok (.bipush 100, 2) := by decide +kernel
theorem dX12_init_669 : decode cX12_init 669 = .ok (.iconst 0, 1) := by decide +kernel
theorem dX12_init_670 : decode cX12_init 670 = .ok (.iconst 0, 1) := by decide +kernel
theorem dX12_init_671 : decode cX12_init 671 = .ok (.invokestatic 172, 3) := by decide +kernel
theorem dX12_init_674 : decode cX12_init 674 = .ok (.lastore, 1) := by decide +kernel
theorem dX12_init_675 : decode cX12_init 675 = .ok (.aload_n 0, 1) := by decide +kernel
theorem dX12_init_676 : decode cX12_init 676 = .ok (.getfield 34, 3) := by decide +kernel
theorem dX12_init_679 : decode cX12_init 679 = .ok (.bipush 13, 2) := by decide +kernel
theorem dX12_init_681 : decode cX12_init 681 = .ok (.bipush 109, 2) := by decide +kernel
theorem dX12_init_683 : decode cX12_init 683 = .ok (.bipush 97, 2) := by decide +kernel
theorem dX12_init_685 : decode cX12_init 685 = .ok (.bipush 110, 2) := by decide +kernel
theorem dX12_init_687 : decode cX12_init 687 = .ok (.bipush 121, 2) := by decide +kernel
theorem dX12_init_689 : decode cX12_init 689 = .ok (.iconst 0, 1) := by decide +kernel
theorem dX12_init_690 : decode cX12_init 690 = .ok (.iconst 0, 1) := by decide +kernel
theorem dX12_init_691 : decode cX12_init 691 = .ok (.iconst 0, 1) := by decide +kernel
theorem dX12_init_692 : decode cX12_init 692 = .ok (.invokestatic 172, 3) := by decide +kernel
theorem dX12_init_695 : decode cX12_init 695 = .ok (.lastore, 1) := by decide +kernel
theorem dX12_init_696 : decode cX12_init 696 = .ok (.aload_n 0, 1) := by decide +kernel
theorem dX12_init_697 : decode cX12_init 697 = .ok (.getfield 34, 3) := by decide +kernel
theorem dX12_init_700 : decode cX12_init 700 = .ok (.bipush 14, 2) := by decide +kernel
theorem dX12_init_702 : decode cX12_init 702 = .ok (.bipush 116, 2) := by decide +kernel
theorem dX12_init_704 : decode cX12_init 704 = .ok (.bipush 117, 2) := by decide +kernel
theorem dX12_init_706 : decode cX12_init 706 = .ok (.bipush 114, 2) := by decide +kernel
theorem dX12_init_708 : decode cX12_init 708 = .ok (.bipush 110, 2) := by decide +kernel
theorem dX12_init_710 : decode cX12_init 710 = .ok (.iconst 0, 1) := by decide +kernel
theorem dX12_init_711 : decode cX12_init 711 = .ok (.iconst 0, 1) := by decide +kernel
theorem dX12_init_712 : decode cX12_init 712 = .ok (.iconst 0, 1) := by decide +kernel
theorem dX12_init_713 : decode cX12_init 713 = .ok (.invokestatic 172, 3) := by decide +kernel
theorem dX12_init_716 : decode cX12_init 716 = .ok (.lastore, 1) := by decide +kernel
theorem dX12_init_717 : decode cX12_init 717 = .ok (.aload_n 0, 1) := by decide +kernel
theorem dX12_init_718 : decode cX12_init 718 = .ok (.getfield 34, 3) := by decide +kernel
theorem dX12_init_721 : decode cX12_init 721 = .ok (.bipush 15, 2) := by decide +kernel
theorem dX12_init_723 : decode cX12_init 723 = .ok (.bipush 116, 2) := by decide +kernel
theorem dX12_init_725 : decode cX12_init 725 = .ok (.bipush 111, 2) := by decide +kernel
theorem dX12_init_727 : decode cX12_init 727 = .ok (.bipush 108, 2) := by decide +kernel
theorem dX12_init_729 : decode cX12_init 729 = .ok (.bipush 100, 2) := by decide +kernel
theorem dX12_init_731 : decode cX12_init 731 = .ok (.iconst 0, 1) := by decide +kernel
theorem dX12_init_732 : decode cX12_init 732 = .ok (.iconst 0, 1) := by decide +kernel
theorem dX12_init_733 : decode cX12_init 733 = .ok (.iconst 0, 1) := by decide +kernel
theorem dX12_init_734 : decode cX12_init 734 = .ok (.invokestatic 172, 3) := by decide +kernel
theorem dX12_init_737 : decode cX12_init 737 = .ok (.lastore, 1) := by decide +kernel
theorem dX12_init_738 : decode cX12_init 738 = .ok (.aload_n 0, 1) := by decide +kernel
theorem dX12_init_739 : decode cX12_init 739 = .ok (.getfield 34, 3) := by decide +kernel
theorem dX12_init_742 : decode cX12_init 742 = .ok (.bipush 16, 2) := by decide +kernel
theorem dX12_init_744 : decode cX12_init 744 = .ok (.bipush 115, 2) := by decide +kernel
theorem dX12_init_746 : decode cX12_init 746 = .ok (.bipush 97, 2) := by decide +kernel
theorem dX12_init_748 : decode cX12_init 748 = .ok (.bipush 105, 2) := by decide +kernel
theorem dX12_init_750 : decode cX12_init 750 = .ok (.bipush 100, 2) := by decide +kernel
theorem dX12_init_752 : decode cX12_init 752 = .ok (.iconst 0, 1) := by decide +kernel
theorem dX12_init_753 : decode cX12_init 753 = .ok (.iconst 0, 1) := by decide +kernel
theorem dX12_init_754 : decode cX12_init 754 = .ok (.iconst 0, 1) := by decide +kernel
theorem dX12_init_755 : decode cX12_init 755 = .ok (.invokestatic 172, 3) := by decide +kernel
theorem dX12_init_758 : decode cX12_init 758 = .ok (.lastore, 1) := by decide +kernel
theorem dX12_init_759 : decode cX12_init 759 = .ok (.return_, 1) := by decide +kernel
theorem dX12_feed_0 : decode cX12_feed 0 = .ok (.aload_n 0, 1) := by decide +kernel
theorem dX12_feed_1 : decode cX12_feed 1 = .ok (.getfield 176, 3) := by decide +kernel
theorem dX12_feed_4 : decode cX12_feed 4 = .ok (.bipush 20, 2) := by decide +kernel
theorem dX12_feed_6 : decode cX12_feed 6 = .ok (.iadd, 1) := by decide +kernel
theorem dX12_feed_7 : decode cX12_feed 7 = .ok (.sipush 2000, 3) := by decide +kernel
theorem dX12_feed_10 : decode cX12_feed 10 = .ok (.if_icmp .le 5, 3) := by decide +kernel
theorem dX12_feed_13 : decode cX12_feed 13 = .ok (.iconst (-1), 1) := by decide +kernel
theorem dX12_feed_14 : decode cX12_feed 14 = .ok (.ireturn, 1) := by decide +kernel
theorem dX12_feed_15 : decode cX12_feed 15 = .ok (.aload_n 0, 1) := by decide +kernel
theorem dX12_feed_16 : decode cX12_feed 16 = .ok (.iload_n 1, 1) := by decide +kernel
theorem dX12_feed_17 : decode cX12_feed 17 = .ok (.invokevirtual 179, 3) := by decide +kernel
theorem dX12_feed_20 : decode cX12_feed 20 = .ok (.aload_n 0, 1) := by decide +kernel
theorem dX12_feed_21 : decode cX12_feed 21 = .ok (.iload_n 2, 1) := by decide +kernel
theorem dX12_feed_22 : decode cX12_feed 22 = .ok (.invokevirtual 179, 3) := by decide +kernel
theorem dX12_feed_25 : decode cX12_feed 25 = .ok (.aload_n 0, 1) := by decide +kernel
theorem dX12_feed_26 : decode cX12_feed 26 = .ok (.iload_n 3, 1) := by decide +kernel
theorem dX12_feed_27 : decode cX12_feed 27 = .ok (.invokevirtual 179, 3) := by decide +kernel
theorem dX12_feed_30 : decode cX12_feed 30 = .ok (.aload_n 0, 1) := by decide +kernel
theorem dX12_feed_31 : decode cX12_feed 31 = .ok (.iload 4, 2) := by decide +kernel
theorem dX12_feed_33 : decode cX12_feed 33 = .ok (.invokevirtual 179, 3) := by decide +kernel
theorem dX12_feed_36 : decode cX12_feed 36 = .ok (.aload_n 0, 1) := by decide +kernel
theorem dX12_feed_37 : decode cX12_feed 37 = .ok (.iload 5, 2) := by decide +kernel
theorem dX12_feed_39 : decode cX12_feed 39 = .ok (.invokevirtual 179, 3) := by decide +kernel
theorem dX12_feed_42 : decode cX12_feed 42 = .ok (.aload_n 0, 1) := by decide +kernel
theorem dX12_feed_43 : decode cX12_feed 43 = .ok (.getfield 176, 3) := by decide +kernel
theorem dX12_feed_46 : decode cX12_feed 46 = .ok (.ireturn, 1) := by decide +kernel
theorem dX12_put_0 : decode cX12_put 0 = .ok (.bipush 24, 2) := by decide +kernel
theorem dX12_put_2 : decode cX12_put 2 = .ok (.istore_n 2, 1) := by decide +kernel
theorem dX12_put_3 : decode cX12_put 3 = .ok (.iload_n 2, 1) := by decide +kernel
theorem dX12_put_4 : decode cX12_put 4 = .ok (.ifCond .lt 32, 3) := by decide +kernel
theorem dX12_put_7 : decode cX12_put 7 = .ok (.aload_n 0, 1) := by decide +kernel
theorem dX12_put_8 : decode cX12_put 8 = .ok (.getfield 13, 3) := by decide +kernel
theorem dX12_put_11 : decode cX12_put 11 = .ok (.aload_n 0, 1) := by decide +kernel
theorem dX12_put_12 : decode cX12_put 12 = .ok (.getfield 176, 3) := by decide +kernel
theorem dX12_put_15 : decode cX12_put 15 = .ok (.iload_n 1, 1) := by decide +kernel
theorem dX12_put_16 : decode cX12_put 16 = .ok (.iload_n 2, 1) := by decide +kernel
theorem dX12_put_17 : decode cX12_put 17 = .ok (.ishr, 1) := by decide +kernel
theorem dX12_put_18 : decode cX12_put 18 = .ok (.i2b, 1) := by decide +kernel
theorem dX12_put_19 : decode cX12_put 19 = .ok (.bastore, 1) := by decide +kernel
theorem dX12_put_20 : decode cX12_put 20 = .ok (.aload_n 0, 1) := by decide +kernel
theorem dX12_put_21 : decode cX12_put 21 = .ok (.dup, 1) := by decide +kernel
theorem dX12_put_22 : decode cX12_put 22 = .ok (.getfield 176, 3) := by decide +kernel
theorem dX12_put_25 : decode cX12_put 25 = .ok (.iconst 1, 1) := by decide +kernel
theorem dX12_put_26 : decode cX12_put 26 = .ok (.iadd, 1) := by decide +kernel
theorem dX12_put_27 : decode cX12_put 27 = .ok (.putfield 176, 3) := by decide +kernel
theorem dX12_put_30 : decode cX12_put 30 = .ok (.iinc 2 (-8), 3) := by decide +kernel
theorem dX12_put_33 : decode cX12_put 33 = .ok (.goto (-30), 3) := by decide +kernel
theorem dX12_put_36 : decode cX12_put 36 = .ok (.return_, 1) := by decide +kernel
theorem dX12_back_0 : decode cX12_back 0 = .ok (.iload_n 1, 1) := by decide +kernel
theorem dX12_back_1 : decode cX12_back 1 = .ok (.ifCond .lt 11, 3) := by decide +kernel
theorem dX12_back_4 : decode cX12_back 4 = .ok (.iload_n 1, 1) := by decide +kernel
theorem dX12_back_5 : decode cX12_back 5 = .ok (.aload_n 0, 1) := by decide +kernel
theorem dX12_back_6 : decode cX12_back 6 = .ok (.getfield 176, 3) := by decide +kernel
theorem dX12_back_9 : decode cX12_back 9 = .ok (.if_icmp .le 5, 3) := by decide +kernel
theorem dX12_back_12 : decode cX12_back 12 = .ok (.iconst (-1), 1) := by decide +kernel
theorem dX12_back_13 : decode cX12_back 13 = .ok (.ireturn, 1) := by decide +kernel
theorem dX12_back_14 : decode cX12_back 14 = .ok (.aload_n 0, 1) := by decide +kernel
theorem dX12_back_15 : decode cX12_back 15 = .ok (.dup, 1) := by decide +kernel
theorem dX12_back_16 : decode cX12_back 16 = .ok (.getfield 176, 3) := by decide +kernel
theorem dX12_back_19 : decode cX12_back 19 = .ok (.iload_n 1, 1) := by decide +kernel
theorem dX12_back_20 : decode cX12_back 20 = .ok (.isub, 1) := by decide +kernel
theorem dX12_back_21 : decode cX12_back 21 = .ok (.putfield 176, 3) := by decide +kernel
theorem dX12_back_24 : decode cX12_back 24 = .ok (.aload_n 0, 1) := by decide +kernel
theorem dX12_back_25 : decode cX12_back 25 = .ok (.getfield 176, 3) := by decide +kernel
theorem dX12_back_28 : decode cX12_back 28 = .ok (.ireturn, 1) := by decide +kernel
theorem dX12_byteAt_0 : decode cX12_byteAt 0 = .ok (.iload_n 1, 1) := by decide +kernel
theorem dX12_byteAt_1 : decode cX12_byteAt 1 = .ok (.aload_n 0, 1) := by decide +kernel
theorem dX12_byteAt_2 : decode cX12_byteAt 2 = .ok (.getfield 182, 3) := by decide +kernel
theorem dX12_byteAt_5 : decode cX12_byteAt 5 = .ok (.if_icmp .ge 16, 3) := by decide +kernel
theorem dX12_byteAt_8 : decode cX12_byteAt 8 = .ok (.aload_n 0, 1) := by decide +kernel
theorem dX12_byteAt_9 : decode cX12_byteAt 9 = .ok (.getfield 17, 3) := by decide +kernel
theorem dX12_byteAt_12 : decode cX12_byteAt 12 = .ok (.iload_n 1, 1) := by decide +kernel
theorem dX12_byteAt_13 : decode cX12_byteAt 13 = .ok (.baload, 1) := by decide +kernel
theorem dX12_byteAt_14 : decode cX12_byteAt 14 = .ok (.sipush 255, 3) := by decide +kernel
theorem dX12_byteAt_17 : decode cX12_byteAt 17 = .ok (.iand, 1) := by decide +kernel
theorem dX12_byteAt_18 : decode cX12_byteAt 18 = .ok (.goto 4, 3) := by decide +kernel
theorem dX12_byteAt_21 : decode cX12_byteAt 21 = .ok (.iconst 0, 1) := by decide +kernel
theorem dX12_byteAt_22 : decode cX12_byteAt 22 = .ok (.ireturn, 1) := by decide +kernel
theorem dX12_isDigit_0 : decode cX12_isDigit 0 = .ok (.iload_n 0, 1) := by decide +kernel
theorem dX12_isDigit_1 : decode cX12_isDigit 1 = .ok (.bipush 48, 2) := by decide +kernel
theorem dX12_isDigit_3 : decode cX12_isDigit 3 = .ok (.if_icmp .lt 13, 3) := by decide +kernel
theorem dX12_isDigit_6 : decode cX12_isDigit 6 = .ok (.iload_n 0, 1) := by decide +kernel
theorem dX12_isDigit_7 : decode cX12_isDigit 7 = .ok (.bipush 57, 2) := by decide +kernel
theorem dX12_isDigit_9 : decode cX12_isDigit 9 = .ok (.if_icmp .gt 7, 3) := by decide +kernel
theorem dX12_isDigit_12 : decode cX12_isDigit 12 = .ok (.iconst 1, 1) := by decide +kernel
theorem dX12_isDigit_13 : decode cX12_isDigit 13 = .ok (.goto 4, 3) := by decide +kernel
theorem dX12_isDigit_16 : decode cX12_isDigit 16 = .ok (.iconst 0, 1) := by decide +kernel
theorem dX12_isDigit_17 : decode cX12_isDigit 17 = .ok (.ireturn, 1) := by decide +kernel
theorem dX12_isLetter_0 : decode cX12_isLetter 0 = .ok (.iload_n 0, 1) := by decide +kernel
theorem dX12_isLetter_1 : decode cX12_isLetter 1 = .ok (.bipush 97, 2) := by decide +kernel
theorem dX12_isLetter_3 : decode cX12_isLetter 3 = .ok (.if_icmp .lt 13, 3) := by decide +kernel
theorem dX12_isLetter_6 : decode cX12_isLetter 6 = .ok (.iload_n 0, 1) := by decide +kernel
theorem dX12_isLetter_7 : decode cX12_isLetter 7 = .ok (.bipush 122, 2) := by decide +kernel
theorem dX12_isLetter_9 : decode cX12_isLetter 9 = .ok (.if_icmp .gt 7, 3) := by decide +kernel
theorem dX12_isLetter_12 : decode cX12_isLetter 12 = .ok (.iconst 1, 1) := by decide +kernel
theorem dX12_isLetter_13 : decode cX12_isLetter 13 = .ok (.goto 4, 3) := by decide +kernel
theorem dX12_isLetter_16 : decode cX12_isLetter 16 = .ok (.iconst 0, 1) := by decide +kernel
theorem dX12_isLetter_17 : decode cX12_isLetter 17 = .ok (.ireturn, 1) := by decide +kernel
theorem dX12_appends_0 : decode cX12_appends 0 = .ok (.iload_n 2, 1) := by decide +kernel
theorem dX12_appends_1 : decode cX12_appends 1 = .ok (.ifCond .ne 7, 3) := by decide +kernel
theorem dX12_appends_4 : decode cX12_appends 4 = .ok (.lload_n 0, 1) := by decide +kernel
theorem dX12_appends_5 : decode cX12_appends 5 = .ok (.goto 16, 3) := by decide +kernel
theorem dX12_appends_8 : decode cX12_appends 8 = .ok (.ldc2_w 185, 3) := by decide +kernel
theorem dX12_appends_11 : decode cX12_appends 11 = .ok (.lload_n 0, 1) := by decide +kernel
theorem dX12_appends_12 : decode cX12_appends 12 = .ok (.lmul, 1) := by decide +kernel
theorem dX12_appends_13 : decode cX12_appends 13 = .ok (.iload_n 2, 1) := by decide +kernel
theorem dX12_appends_14 : decode cX12_appends 14 = .ok (.bipush 97, 2) := by decide +kernel
theorem dX12_appends_16 : decode cX12_appends 16 = .ok (.isub, 1) := by decide +kernel
theorem dX12_appends_17 : decode cX12_appends 17 = .ok (.iconst 1, 1) := by decide +kernel
theorem dX12_appends_18 : decode cX12_appends 18 = .ok (.iadd, 1) := by decide +kernel
theorem dX12_appends_19 : decode cX12_appends 19 = .ok (.i2l, 1) := by decide +kernel
theorem dX12_appends_20 : decode cX12_appends 20 = .ok (.ladd, 1) := by decide +kernel
theorem dX12_appends_21 : decode cX12_appends 21 = .ok (.lreturn, 1) := by decide +kernel
theorem dX12_word_0 : decode cX12_word 0 = .ok (.lconst 0, 1) := by decide +kernel
theorem dX12_word_1 : decode cX12_word 1 = .ok (.iload_n 0, 1) := by decide +kernel
theorem dX12_word_2 : decode cX12_word 2 = .ok (.invokestatic 187, 3) := by decide +kernel
theorem dX12_word_5 : decode cX12_word 5 = .ok (.iload_n 1, 1) := by decide +kernel
theorem dX12_word_6 : decode cX12_word 6 = .ok (.invokestatic 187, 3) := by decide +kernel
theorem dX12_word_9 : decode cX12_word 9 = .ok (.iload_n 2, 1) := by decide +kernel
theorem dX12_word_10 : decode cX12_word 10 = .ok (.invokestatic 187, 3) := by decide +kernel
theorem dX12_word_13 : decode cX12_word 13 = .ok (.iload_n 3, 1) := by decide +kernel
theorem dX12_word_14 : decode cX12_word 14 = .ok (.invokestatic 187, 3) := by decide +kernel
theorem dX12_word_17 : decode cX12_word 17 = .ok (.iload 4, 2) := by decide +kernel
theorem dX12_word_19 : decode cX12_word 19 = .ok (.invokestatic 187, 3) := by decide +kernel
theorem dX12_word_22 : decode cX12_word 22 = .ok (.iload 5, 2) := by decide +kernel
theorem dX12_word_24 : decode cX12_word 24 = .ok (.invokestatic 187, 3) := by decide +kernel
theorem dX12_word_27 : decode cX12_word 27 = .ok (.iload 6, 2) := by decide +kernel
theorem dX12_word_29 : decode cX12_word 29 = .ok (.invokestatic 187, 3) := by decide +kernel
theorem dX12_word_32 : decode cX12_word 32 = .ok (.lreturn, 1) := by decide +kernel
theorem dX12_token_0 : decode cX12_token 0 = .ok (.aload_n 0, 1) := by decide +kernel
theorem dX12_token_1 : decode cX12_token 1 = .ok (.getfield 20, 3) := by decide +kernel
theorem dX12_token_4 : decode cX12_token 4 = .ok (.aload_n 0, 1) := by decide +kernel
theorem dX12_token_5 : decode cX12_token 5 = .ok (.getfield 191, 3) := by decide +kernel
theorem dX12_token_8 : decode cX12_token 8 = .ok (.iload_n 1, 1) := by decide +kernel
theorem dX12_token_9 : decode cX12_token 9 = .ok (.iastore, 1) := by decide +kernel
theorem dX12_token_10 : decode cX12_token 10 = .ok (.aload_n 0, 1) := by decide +kernel
theorem dX12_token_11 : decode cX12_token 11 = .ok (.getfield 24, 3) := by decide +kernel
theorem dX12_token_14 : decode cX12_token 14 = .ok (.aload_n 0, 1) := by decide +kernel
theorem dX12_token_15 : decode cX12_token 15 = .ok (.getfield 191, 3) := by decide +kernel
theorem dX12_token_18 : decode cX12_token 18 = .ok (.iload_n 2, 1) := by decide +kernel
theorem dX12_token_19 : decode cX12_token 19 = .ok (.iastore, 1) := by decide +kernel
theorem dX12_token_20 : decode cX12_token 20 = .ok (.aload_n 0, 1) := by decide +kernel
theorem dX12_token_21 : decode cX12_token 21 = .ok (.getfield 27, 3) := by decide +kernel
theorem dX12_token_24 : decode cX12_token 24 = .ok (.aload_n 0, 1) := by decide +kernel
theorem dX12_token_25 : decode cX12_token 25 = .ok (.getfield 191, 3) := by decide +kernel
theorem dX12_token_28 : decode cX12_token 28 = .ok (.iload_n 3, 1) := by decide +kernel
theorem dX12_token_29 : decode cX12_token 29 = .ok (.iastore, 1) := by decide +kernel
theorem dX12_token_30 : decode cX12_token 30 = .ok (.aload_n 0, 1) := by decide +kernel
theorem dX12_token_31 : decode cX12_token 31 = .ok (.getfield 30, 3) := by decide +kernel
theorem dX12_token_34 : decode cX12_token 34 = .ok (.aload_n 0, 1) := by decide +kernel
theorem dX12_token_35 : decode cX12_token 35 = .ok (.getfield 191, 3) := by decide +kernel
theorem dX12_token_38 : decode cX12_token 38 = .ok (.lload 4, 2) := by decide +kernel
theorem dX12_token_40 : decode cX12_token 40 = .ok (.lastore, 1) := by decide +kernel
theorem dX12_token_41 : decode cX12_token 41 = .ok (.aload_n 0, 1) := by decide +kernel
theorem dX12_token_42 : decode cX12_token 42 = .ok (.dup, 1) := by decide +kernel
theorem dX12_token_43 : decode cX12_token 43 = .ok (.getfield 191, 3) := by decide +kernel
theorem dX12_token_46 : decode cX12_token 46 = .ok (.iconst 1, 1) := by decide +kernel
theorem dX12_token_47 : decode cX12_token 47 = .ok (.iadd, 1) := by decide +kernel
theorem dX12_token_48 : decode cX12_token 48 = .ok (.putfield 191, 3) := by decide +kernel
theorem dX12_token_51 : decode cX12_token 51 = .ok (.return_, 1) := by decide +kernel
theorem dX12_cut_0 : decode cX12_cut 0 = .ok (.aload_n 0, 1) := by decide +kernel
theorem dX12_cut_1 : decode cX12_cut 1 = .ok (.iconst 0, 1) := by decide +kernel
theorem dX12_cut_2 : decode cX12_cut 2 = .ok (.putfield 191, 3) := by decide +kernel
theorem dX12_cut_5 : decode cX12_cut 5 = .ok (.iconst 0, 1) := by decide +kernel
theorem dX12_cut_6 : decode cX12_cut 6 = .ok (.istore_n 1, 1) := by decide +kernel
theorem dX12_cut_7 : decode cX12_cut 7 = .ok (.aload_n 0, 1) := by decide +kernel
theorem dX12_cut_8 : decode cX12_cut 8 = .ok (.getfield 191, 3) := by decide +kernel
theorem dX12_cut_11 : decode cX12_cut 11 = .ok (.sipush 400, 3) := by decide +kernel
theorem dX12_cut_14 : decode cX12_cut 14 = .ok (.if_icmp .gt 280, 3) := by decide +kernel
theorem dX12_cut_17 : decode cX12_cut 17 = .ok (.aload_n 0, 1) := by decide +kernel
theorem dX12_cut_18 : decode cX12_cut 18 = .ok (.iload_n 1, 1) := by decide +kernel
theorem dX12_cut_19 : decode cX12_cut 19 = .ok (.invokevirtual 194, 3) := by decide +kernel
theorem dX12_cut_22 : decode cX12_cut 22 = .ok (.istore_n 2, 1) := by decide +kernel
theorem dX12_cut_23 : decode cX12_cut 23 = .ok (.iload_n 1, 1) := by decide +kernel
theorem dX12_cut_24 : decode cX12_cut 24 = .ok (.aload_n 0, 1) := by decide +kernel
theorem dX12_cut_25 : decode cX12_cut 25 = .ok (.getfield 182, 3) := by decide +kernel
theorem dX12_cut_28 : decode cX12_cut 28 = .ok (.if_icmp .lt 15, 3) := by decide +kernel
theorem dX12_cut_31 : decode cX12_cut 31 = .ok (.aload_n 0, 1) := by decide +kernel
theorem dX12_cut_32 : decode cX12_cut 32 = .ok (.iconst 0, 1) := by decide +kernel
theorem dX12_cut_33 : decode cX12_cut 33 = .ok (.aload_n 0, 1) := by decide +kernel
theorem dX12_cut_34 : decode cX12_cut 34 = .ok (.getfield 182, 3) := by decide +kernel
theorem dX12_cut_37 : decode cX12_cut 37 = .ok (.iconst 0, 1) := by decide +kernel
theorem dX12_cut_38 : decode cX12_cut 38 = .ok (.lconst 0, 1) := by decide +kernel
theorem dX12_cut_39 : decode cX12_cut 39 = .ok (.invokevirtual 198, 3) := by decide +kernel
theorem dX12_cut_42 : decode cX12_cut 42 = .ok (.return_, 1) := by decide +kernel
theorem dX12_cut_43 : decode cX12_cut 43 = .ok (.iload_n 2, 1) := by decide +kernel
theorem dX12_cut_44 : decode cX12_cut 44 = .ok (.bipush 9, 2) := by decide +kernel
theorem dX12_cut_46 : decode cX12_cut 46 = .ok (.if_icmp .eq 21, 3) := by decide +kernel
theorem dX12_cut_49 : decode cX12_cut 49 = .ok (.iload_n 2, 1) := by decide +kernel
theorem dX12_cut_50 : decode cX12_cut 50 = .ok (.bipush 10, 2) := by decide +kernel
theorem dX12_cut_52 : decode cX12_cut 52 = .ok (.if_icmp .eq 15, 3) := by decide +kernel
theorem dX12_cut_55 : decode cX12_cut 55 = .ok (.iload_n 2, 1) := by decide +kernel
theorem dX12_cut_56 : decode cX12_cut 56 = .ok (.bipush 13, 2) := by decide +kernel
theorem dX12_cut_58 : decode cX12_cut 58 = .ok (.if_icmp .eq 9, 3) := by decide +kernel
theorem dX12_cut_61 : decode cX12_cut 61 = .ok (.iload_n 2, 1) := by decide +kernel
theorem dX12_cut_62 : decode cX12_cut 62 = .ok (.bipush 32, 2) := by decide +kernel
theorem dX12_cut_64 : decode cX12_cut 64 = .ok (.if_icmp .ne 9, 3) := by decide +kernel
theorem dX12_cut_67 : decode cX12_cut 67 = .ok (.iinc 1 1, 3) := by decide +kernel
theorem dX12_cut_70 : decode cX12_cut 70 = .ok (.goto 221, 3) := by decide +kernel
theorem dX12_cut_73 : decode cX12_cut 73 = .ok (.iload_n 2, 1) := by decide +kernel
theorem dX12_cut_74 : decode cX12_cut 74 = .ok (.invokestatic 202, 3) := by decide +kernel
theorem dX12_cut_77 : decode cX12_cut 77 = .ok (.ifCond .eq 119, 3) := by decide +kernel
theorem dX12_cut_80 : decode cX12_cut 80 = .ok (.iconst 0, 1) := by decide +kernel
theorem dX12_cut_81 : decode cX12_cut 81 = .ok (.istore_n 3, 1) := by decide +kernel
theorem dX12_cut_82 : decode cX12_cut 82 = .ok (.lconst 0, 1) := by decide +kernel
theorem dX12_cut_83 : decode cX12_cut 83 = .ok (.lstore 4, 2) := by decide +kernel
theorem dX12_cut_85 : decode cX12_cut 85 = .ok (.aload_n 0, 1) := by decide +kernel
theorem dX12_cut_86 : decode cX12_cut 86 = .ok (.iload_n 1, 1) := by decide +kernel
theorem dX12_cut_87 : decode cX12_cut 87 = .ok (.iload_n 3, 1) := by decide +kernel
theorem dX12_cut_88 : decode cX12_cut 88 = .ok (.iadd, 1) := by decide +kernel
theorem dX12_cut_89 : decode cX12_cut 89 = .ok (.invokevirtual 194, 3) := by decide +kernel
theorem dX12_cut_92 : decode cX12_cut 92 = .ok (.invokestatic 202, 3) := by decide +kernel
theorem dX12_cut_95 : decode cX12_cut 95 = .ok (.ifCond .eq 29, 3) := by decide +kernel
theorem dX12_cut_98 : decode cX12_cut 98 = .ok (.iload_n 3, 1) := by decide +kernel
theorem dX12_cut_99 : decode cX12_cut 99 = .ok (.bipush 8, 2) := by decide +kernel
theorem dX12_cut_101 : decode cX12_cut 101 = .ok (.if_icmp .ge 17, 3) := by decide +kernel
theorem dX12_cut_104 : decode cX12_cut 104 = .ok (.lload 4, 2) := by decide +kernel
theorem dX12_cut_106 : decode cX12_cut 106 = .ok (.aload_n 0, 1) := by decide +kernel
theorem dX12_cut_107 : decode cX12_cut 107 = .ok (.iload_n 1, 1) := by decide +kernel
theorem dX12_cut_108 : decode cX12_cut 108 = .ok (.iload_n 3, 1) := by decide +kernel
theorem dX12_cut_109 : decode cX12_cut 109 = .ok (.iadd, 1) := by decide +kernel
theorem dX12_cut_110 : decode cX12_cut 110 = .ok (.invokevirtual 194, 3) := by decide +kernel
theorem dX12_cut_113 : decode cX12_cut 113 = .ok (.invokestatic 187, 3) := by decide +kernel
theorem dX12_cut_116 : decode cX12_cut 116 = .ok (.lstore 4, 2) := by decide +kernel
theorem dX12_cut_118 : decode cX12_cut 118 = .ok (.iinc 3 1, 3) := by decide +kernel
theorem dX12_cut_121 : decode cX12_cut 121 = .ok (.goto (-36), 3) := by decide +kernel
theorem dX12_cut_124 : decode cX12_cut 124 = .ok (.iload_n 3, 1) := by decide +kernel
theorem dX12_cut_125 : decode cX12_cut 125 = .ok (.bipush 8, 2) := by decide +kernel
theorem dX12_cut_127 : decode cX12_cut 127 = .ok (.if_icmp .le 7, 3) := by decide +kernel
theorem dX12_cut_130 : decode cX12_cut 130 = .ok (.iconst 3, 1) := by decide +kernel
theorem dX12_cut_131 : decode cX12_cut 131 = .ok (.goto 4, 3) := by decide +kernel
theorem dX12_cut_134 : decode cX12_cut 134 = .ok (.iconst 1, 1) := by decide +kernel
theorem dX12_cut_135 : decode cX12_cut 135 = .ok (.istore 6, 2) := by decide +kernel
theorem dX12_cut_137 : decode cX12_cut 137 = .ok (.iload_n 3, 1) := by decide +kernel
theorem dX12_cut_138 : decode cX12_cut 138 = .ok (.bipush 7, 2) := by decide +kernel
theorem dX12_cut_140 : decode cX12_cut 140 = .ok (.if_icmp .gt 39, 3) := by decide +kernel
theorem dX12_cut_143 : decode cX12_cut 143 = .ok (.iconst 0, 1) := by decide +kernel
theorem dX12_cut_144 : decode cX12_cut 144 = .ok (.istore 7, 2) := by decide +kernel
theorem dX12_cut_146 : decode cX12_cut 146 = .ok (.iload 7, 2) := by decide +kernel
theorem dX12_cut_148 : decode cX12_cut 148 = .ok (.bipush 17, 2) := by decide +kernel
theorem dX12_cut_150 : decode cX12_cut 150 = .ok (.if_icmp .ge 29, 3) := by decide +kernel
theorem dX12_cut_153 : decode cX12_cut 153 = .ok (.aload_n 0, 1) := by decide +kernel
theorem dX12_cut_154 : decode cX12_cut 154 = .ok (.getfield 34, 3) := by decide +kernel
theorem dX12_cut_157 : decode cX12_cut 157 = .ok (.iload 7, 2) := by decide +kernel
theorem dX12_cut_159 : decode cX12_cut 159 = .ok (.laload, 1) := by decide +kernel
theorem dX12_cut_160 : decode cX12_cut 160 = .ok (.lload 4, 2) := by decide +kernel
theorem dX12_cut_162 : decode cX12_cut 162 = .ok (.lcmp, 1) := by decide +kernel
theorem dX12_cut_163 : decode cX12_cut 163 = .ok (.ifCond .ne 10, 3) := by decide +kernel
theorem dX12_cut_166 : decode cX12_cut 166 = .ok (.bipush 20, 2) := by decide +kernel
theorem dX12_cut_168 : decode cX12_cut 168 = .ok (.iload 7, 2) := by decide +kernel
theorem dX12_cut_170 : decode cX12_cut 170 = .ok (.iadd, 1) := by decide +kernel
theorem dX12_cut_171 : decode cX12_cut 171 = .ok (.istore 6, 2) := by decide +kernel
theorem dX12_cut_173 : decode cX12_cut 173 = .ok (.iinc 7 1, 3) := by decide +kernel
theorem dX12_cut_176 : decode cX12_cut 176 = .ok (.goto (-30), 3) := by decide +kernel
theorem dX12_cut_179 : decode cX12_cut 179 = .ok (.aload_n 0, 1) := by decide +kernel
theorem dX12_cut_180 : decode cX12_cut 180 = .ok (.iload 6, 2) := by decide +kernel
theorem dX12_cut_182 : decode cX12_cut 182 = .ok (.iload_n 1, 1) := by decide +kernel
theorem dX12_cut_183 : decode cX12_cut 183 = .ok (.iconst 0, 1) := by decide +kernel
theorem dX12_cut_184 : decode cX12_cut 184 = .ok (.lload 4, 2) := by decide +kernel
theorem dX12_cut_186 : decode cX12_cut 186 = .ok (.invokevirtual 198, 3) := by decide +kernel
theorem dX12_cut_189 : decode cX12_cut 189 = .ok (.iload_n 1, 1) := by decide +kernel
theorem dX12_cut_190 : decode cX12_cut 190 = .ok (.iload_n 3, 1) := by decide +kernel
theorem dX12_cut_191 : decode cX12_cut 191 = .ok (.iadd, 1) := by decide +kernel
theorem dX12_cut_192 : decode cX12_cut 192 = .ok (.istore_n 1, 1) := by decide +kernel
theorem dX12_cut_193 : decode cX12_cut 193 = .ok (.goto 98, 3) := by decide +kernel
theorem dX12_cut_196 : decode cX12_cut 196 = .ok (.iload_n 2, 1) := by decide +kernel
theorem dX12_cut_197 : decode cX12_cut 197 = .ok (.invokestatic 206, 3) := by decide +kernel
theorem dX12_cut_200 : decode cX12_cut 200 = .ok (.ifCond .eq 75, 3) := by decide +kernel
theorem dX12_cut_203 : decode cX12_cut 203 = .ok (.iconst 0, 1) := by decide +kernel
theorem dX12_cut_204 : decode cX12_cut 204 = .ok (.istore_n 3, 1) := by decide +kernel
theorem dX12_cut_205 : decode cX12_cut 205 = .ok (.iconst 0, 1) := by decide +kernel
theorem dX12_cut_206 : decode cX12_cut 206 = .ok (.istore 4, 2) := by decide +kernel
theorem dX12_cut_208 : decode cX12_cut 208 = .ok (.aload_n 0, 1) := by decide +kernel
theorem dX12_cut_209 : decode cX12_cut 209 = .ok (.iload_n 1, 1) := by decide +kernel
theorem dX12_cut_210 : decode cX12_cut 210 = .ok (.iload_n 3, 1) := by decide +kernel
theorem dX12_cut_211 : decode cX12_cut 211 = .ok (.iadd, 1) := by decide +kernel
theorem dX12_cut_212 : decode cX12_cut 212 = .ok (.invokevirtual 194, 3) := by decide +kernel
theorem dX12_cut_215 : decode cX12_cut 215 = .ok (.invokestatic 206, 3) := by decide +kernel
theorem dX12_cut_218 : decode cX12_cut 218 = .ok (.ifCond .eq 32, 3) := by decide +kernel
theorem dX12_cut_221 : decode cX12_cut 221 = .ok (.iload_n 3, 1) := by decide +kernel
theorem dX12_cut_222 : decode cX12_cut 222 = .ok (.iconst 4, 1) := by decide +kernel
theorem dX12_cut_223 : decode cX12_cut 223 = .ok (.if_icmp .ge 21, 3) := by decide +kernel
theorem dX12_cut_226 : decode cX12_cut 226 = .ok (.bipush 10, 2) := by decide +kernel
theorem dX12_cut_228 : decode cX12_cut 228 = .ok (.iload 4, 2) := by decide +kernel
theorem dX12_cut_230 : decode cX12_cut 230 = .ok (.imul, 1) := by decide +kernel
theorem dX12_cut_231 : decode cX12_cut 231 = .ok (.aload_n 0, 1) := by decide +kernel
theorem dX12_cut_232 : decode cX12_cut 232 = .ok (.iload_n 1, 1) := by decide +kernel
theorem dX12_cut_233 : decode cX12_cut 233 = .ok (.iload_n 3, 1) := by decide +kernel
theorem dX12_cut_234 : decode cX12_cut 234 = .ok (.iadd, 1) := by decide +kernel
theorem dX12_cut_235 : decode cX12_cut 235 = .ok (.invokevirtual 194, 3) := by decide +kernel
theorem dX12_cut_238 : decode cX12_cut 238 = .ok (.iadd, 1) := by decide +kernel
theorem dX12_cut_239 : decode cX12_cut 239 = .ok (.bipush 48, 2) := by decide +kernel
theorem dX12_cut_241 : decode cX12_cut 241 = .ok (.isub, 1) := by decide +kernel
theorem dX12_cut_242 : decode cX12_cut 242 = .ok (.istore 4, 2) := by decide +kernel
theorem dX12_cut_244 : decode cX12_cut 244 = .ok (.iinc 3 1, 3) := by decide +kernel
theorem dX12_cut_247 : decode cX12_cut 247 = .ok (.goto (-39), 3) := by decide +kernel
theorem dX12_cut_250 : decode cX12_cut 250 = .ok (.aload_n 0, 1) := by decide +kernel
theorem dX12_cut_251 : decode cX12_cut 251 = .ok (.iload_n 3, 1) := by decide +kernel
theorem dX12_cut_252 : decode cX12_cut 252 = .ok (.iconst 4, 1) := by decide +kernel
theorem dX12_cut_253 : decode cX12_cut 253 = .ok (.if_icmp .le 7, 3) := by decide +kernel
theorem dX12_cut_256 : decode cX12_cut 256 = .ok (.iconst 3, 1) := by decide +kernel
theorem dX12_cut_257 : decode cX12_cut 257 = .ok (.goto 4, 3) := by decide +kernel
theorem dX12_cut_260 : decode cX12_cut 260 = .ok (.iconst 2, 1) := by decide +kernel
theorem dX12_cut_261 : decode cX12_cut 261 = .ok (.iload_n 1, 1) := by decide +kernel
theorem dX12_cut_262 : decode cX12_cut 262 = .ok (.iload 4, 2) := by decide +kernel
theorem dX12_cut_264 : decode cX12_cut 264 = .ok (.lconst 0, 1) := by decide +kernel
theorem dX12_cut_265 : decode cX12_cut 265 = .ok (.invokevirtual 198, 3) := by decide +kernel
theorem dX12_cut_268 : decode cX12_cut 268 = .ok (.iload_n 1, 1) := by decide +kernel
theorem dX12_cut_269 : decode cX12_cut 269 = .ok (.iload_n 3, 1) := by decide +kernel
theorem dX12_cut_270 : decode cX12_cut 270 = .ok (.iadd, 1) := by decide +kernel
theorem dX12_cut_271 : decode cX12_cut 271 = .ok (.istore_n 1, 1) := by decide +kernel
theorem dX12_cut_272 : decode cX12_cut 272 = .ok (.goto 19, 3) := by decide +kernel
theorem dX12_cut_275 : decode cX12_cut 275 = .ok (.iload_n 1, 1) := by decide +kernel
theorem dX12_cut_276 : decode cX12_cut 276 = .ok (.aload_n 0, 1) := by decide +kernel
theorem dX12_cut_277 : decode cX12_cut 277 = .ok (.iload_n 1, 1) := by decide +kernel
theorem dX12_cut_278 : decode cX12_cut 278 = .ok (.iload_n 2, 1) := by decide +kernel
theorem dX12_cut_279 : decode cX12_cut 279 = .ok (.aload_n 0, 1) := by decide +kernel
theorem dX12_cut_280 : decode cX12_cut 280 = .ok (.iload_n 1, 1) := by decide +kernel
theorem dX12_cut_281 : decode cX12_cut 281 = .ok (.iconst 1, 1) := by decide +kernel
theorem dX12_cut_282 : decode cX12_cut 282 = .ok (.iadd, 1) := by decide +kernel
theorem dX12_cut_283 : decode cX12_cut 283 = .ok (.invokevirtual 194, 3) := by decide +kernel
theorem dX12_cut_286 : decode cX12_cut 286 = .ok (.invokevirtual 209, 3) := by decide +kernel
theorem dX12_cut_289 : decode cX12_cut 289 = .ok (.iadd, 1) := by decide +kernel
theorem dX12_cut_290 : decode cX12_cut 290 = .ok (.istore_n 1, 1) := by decide +kernel
theorem dX12_cut_291 : decode cX12_cut 291 = .ok (.goto (-284), 3) := by decide +kernel
theorem dX12_cut_294 : decode cX12_cut 294 = .ok (.return_, 1) := by decide +kernel
theorem dX12_sign_0 : decode cX12_sign 0 = .ok (.iload_n 2, 1) := by decide +kernel
theorem dX12_sign_1 : decode cX12_sign 1 = .ok (.bipush 59, 2) := by decide +kernel
theorem dX12_sign_3 : decode cX12_sign 3 = .ok (.if_icmp .ne 7, 3) := by decide +kernel
theorem dX12_sign_6 : decode cX12_sign 6 = .ok (.iconst 4, 1) := by decide +kernel
theorem dX12_sign_7 : decode cX12_sign 7 = .ok (.goto 36, 3) := by decide +kernel
theorem dX12_sign_10 : decode cX12_sign 10 = .ok (.iload_n 2, 1) := by decide +kernel
theorem dX12_sign_11 : decode cX12_sign 11 = .ok (.bipush 61, 2) := by decide +kernel
theorem dX12_sign_13 : decode cX12_sign 13 = .ok (.if_icmp .ne 7, 3) := by decide +kernel
theorem dX12_sign_16 : decode cX12_sign 16 = .ok (.iconst 5, 1) := by decide +kernel
theorem dX12_sign_17 : decode cX12_sign 17 = .ok (.goto 26, 3) := by decide +kernel
theorem dX12_sign_20 : decode cX12_sign 20 = .ok (.iload_n 2, 1) := by decide +kernel
theorem dX12_sign_21 : decode cX12_sign 21 = .ok (.bipush 40, 2) := by decide +kernel
theorem dX12_sign_23 : decode cX12_sign 23 = .ok (.if_icmp .ne 8, 3) := by decide +kernel
theorem dX12_sign_26 : decode cX12_sign 26 = .ok (.bipush 6, 2) := by decide +kernel
theorem dX12_sign_28 : decode cX12_sign 28 = .ok (.goto 15, 3) := by decide +kernel
theorem dX12_sign_31 : decode cX12_sign 31 = .ok (.iload_n 2, 1) := by decide +kernel
theorem dX12_sign_32 : decode cX12_sign 32 = .ok (.bipush 41, 2) := by decide +kernel
theorem dX12_sign_34 : decode cX12_sign 34 = .ok (.if_icmp .ne 8, 3) := by decide +kernel
theorem dX12_sign_37 : decode cX12_sign 37 = .ok (.bipush 7, 2) := by decide +kernel
theorem dX12_sign_39 : decode cX12_sign 39 = .ok (.goto 4, 3) := by decide +kernel
theorem dX12_sign_42 : decode cX12_sign 42 = .ok (.iconst 3, 1) := by decide +kernel
theorem dX12_sign_43 : decode cX12_sign 43 = .ok (.istore 4, 2) := by decide +kernel
theorem dX12_sign_45 : decode cX12_sign 45 = .ok (.iload_n 2, 1) := by decide +kernel
theorem dX12_sign_46 : decode cX12_sign 46 = .ok (.bipush 43, 2) := by decide +kernel
theorem dX12_sign_48 : decode cX12_sign 48 = .ok (.if_icmp .ne 7, 3) := by decide +kernel
theorem dX12_sign_51 : decode cX12_sign 51 = .ok (.bipush 8, 2) := by decide +kernel
theorem dX12_sign_53 : decode cX12_sign 53 = .ok (.istore 4, 2) := by decide +kernel
theorem dX12_sign_55 : decode cX12_sign 55 = .ok (.iload_n 2, 1) := by decide +kernel
theorem dX12_sign_56 : decode cX12_sign 56 = .ok (.bipush 45, 2) := by decide +kernel
theorem dX12_sign_58 : decode cX12_sign 58 = .ok (.if_icmp .ne 7, 3) := by decide +kernel
theorem dX12_sign_61 : decode cX12_sign 61 = .ok (.bipush 9, 2) := by decide +kernel
theorem dX12_sign_63 : decode cX12_sign 63 = .ok (.istore 4, 2) := by decide +kernel
theorem dX12_sign_65 : decode cX12_sign 65 = .ok (.iload_n 2, 1) := by decide +kernel
theorem dX12_sign_66 : decode cX12_sign 66 = .ok (.bipush 42, 2) := by decide +kernel
theorem dX12_sign_68 : decode cX12_sign 68 = .ok (.if_icmp .ne 7, 3) := by decide +kernel
theorem dX12_sign_71 : decode cX12_sign 71 = .ok (.bipush 10, 2) := by decide +kernel
theorem dX12_sign_73 : decode cX12_sign 73 = .ok (.istore 4, 2) := by decide +kernel
theorem dX12_sign_75 : decode cX12_sign 75 = .ok (.iload_n 2, 1) := by decide +kernel
theorem dX12_sign_76 : decode cX12_sign 76 = .ok (.bipush 47, 2) := by decide +kernel
theorem dX12_sign_78 : decode cX12_sign 78 = .ok (.if_icmp .ne 7, 3) := by decide +kernel
theorem dX12_sign_81 : decode cX12_sign 81 = .ok (.bipush 15, 2) := by decide +kernel
theorem dX12_sign_83 : decode cX12_sign 83 = .ok (.istore 4, 2) := by decide +kernel
theorem dX12_sign_85 : decode cX12_sign 85 = .ok (.iload_n 2, 1) := by decide +kernel
theorem dX12_sign_86 : decode cX12_sign 86 = .ok (.bipush 60, 2) := by decide +kernel
theorem dX12_sign_88 : decode cX12_sign 88 = .ok (.if_icmp .ne 7, 3) := by decide +kernel
theorem dX12_sign_91 : decode cX12_sign 91 = .ok (.bipush 13, 2) := by decide +kernel
theorem dX12_sign_93 : decode cX12_sign 93 = .ok (.istore 4, 2) := by decide +kernel
theorem dX12_sign_95 : decode cX12_sign 95 = .ok (.aload_n 0, 1) := by decide +kernel
theorem dX12_sign_96 : decode cX12_sign 96 = .ok (.iload 4, 2) := by decide +kernel
theorem dX12_sign_98 : decode cX12_sign 98 = .ok (.iload_n 1, 1) := by decide +kernel
theorem dX12_sign_99 : decode cX12_sign 99 = .ok (.iconst 0, 1) := by decide +kernel
theorem dX12_sign_100 : decode cX12_sign 100 = .ok (.lconst 0, 1) := by decide +kernel
theorem dX12_sign_101 : decode cX12_sign 101 = .ok (.invokevirtual 198, 3) := by decide +kernel
theorem dX12_sign_104 : decode cX12_sign 104 = .ok (.iconst 1, 1) := by decide +kernel
theorem dX12_sign_105 : decode cX12_sign 105 = .ok (.ireturn, 1) := by decide +kernel
theorem dX12_is_0 : decode cX12_is 0 = .ok (.aload_n 0, 1) := by decide +kernel
theorem dX12_is_1 : decode cX12_is 1 = .ok (.getfield 213, 3) := by decide +kernel
theorem dX12_is_4 : decode cX12_is 4 = .ok (.ifCond .ne 20, 3) := by decide +kernel
theorem dX12_is_7 : decode cX12_is 7 = .ok (.aload_n 0, 1) := by decide +kernel
theorem dX12_is_8 : decode cX12_is 8 = .ok (.getfield 20, 3) := by decide +kernel
theorem dX12_is_11 : decode cX12_is 11 = .ok (.aload_n 0, 1) := by decide +kernel
theorem dX12_is_12 : decode cX12_is 12 = .ok (.getfield 216, 3) := by decide +kernel
theorem dX12_is_15 : decode cX12_is 15 = .ok (.iaload, 1) := by decide +kernel
theorem dX12_is_16 : decode cX12_is 16 = .ok (.iload_n 1, 1) := by decide +kernel
theorem dX12_is_17 : decode cX12_is 17 = .ok (.if_icmp .ne 7, 3) := by decide +kernel
theorem dX12_is_20 : decode cX12_is 20 = .ok (.iconst 1, 1) := by decide +kernel
theorem dX12_is_21 : decode cX12_is 21 = .ok (.goto 4, 3) := by decide +kernel
theorem dX12_is_24 : decode cX12_is 24 = .ok (.iconst 0, 1) := by decide +kernel
theorem dX12_is_25 : decode cX12_is 25 = .ok (.ireturn, 1) := by decide +kernel
theorem dX12_fail_0 : decode cX12_fail 0 = .ok (.aload_n 0, 1) := by decide +kernel
theorem dX12_fail_1 : decode cX12_fail 1 = .ok (.getfield 213, 3) := by decide +kernel
theorem dX12_fail_4 : decode cX12_fail 4 = .ok (.ifCond .le 4, 3) := by decide +kernel
theorem dX12_fail_7 : decode cX12_fail 7 = .ok (.return_, 1) := by decide +kernel
theorem dX12_fail_8 : decode cX12_fail 8 = .ok (.aload_n 0, 1) := by decide +kernel
theorem dX12_fail_9 : decode cX12_fail 9 = .ok (.iload_n 1, 1) := by decide +kernel
theorem dX12_fail_10 : decode cX12_fail 10 = .ok (.putfield 213, 3) := by decide +kernel
theorem dX12_fail_13 : decode cX12_fail 13 = .ok (.aload_n 0, 1) := by decide +kernel
theorem dX12_fail_14 : decode cX12_fail 14 = .ok (.aload_n 0, 1) := by decide +kernel
theorem dX12_fail_15 : decode cX12_fail 15 = .ok (.getfield 24, 3) := by decide +kernel
theorem dX12_fail_18 : decode cX12_fail 18 = .ok (.aload_n 0, 1) := by decide +kernel
theorem dX12_fail_19 : decode cX12_fail 19 = .ok (.getfield 216, 3) := by decide +kernel
theorem dX12_fail_22 : decode cX12_fail 22 = .ok (.iaload, 1) := by decide +kernel
theorem dX12_fail_23 : decode cX12_fail 23 = .ok (.putfield 219, 3) := by decide +kernel
theorem dX12_fail_26 : decode cX12_fail 26 = .ok (.return_, 1) := by decide +kernel
theorem dX12_amiss_0 : decode cX12_amiss 0 = .ok (.aload_n 0, 1) := by decide +kernel
theorem dX12_amiss_1 : decode cX12_amiss 1 = .ok (.getfield 24, 3) := by decide +kernel
theorem dX12_amiss_4 : decode cX12_amiss 4 = .ok (.iload_n 2, 1) := by decide +kernel
theorem dX12_amiss_5 : decode cX12_amiss 5 = .ok (.iaload, 1) := by decide +kernel
theorem dX12_amiss_6 : decode cX12_amiss 6 = .ok (.istore_n 3, 1) := by decide +kernel
theorem dX12_amiss_7 : decode cX12_amiss 7 = .ok (.aload_n 0, 1) := by decide +kernel
theorem dX12_amiss_8 : decode cX12_amiss 8 = .ok (.getfield 213, 3) := by decide +kernel
theorem dX12_amiss_11 : decode cX12_amiss 11 = .ok (.ifCond .gt 34, 3) := by decide +kernel
theorem dX12_amiss_14 : decode cX12_amiss 14 = .ok (.aload_n 0, 1) := by decide +kernel
theorem dX12_amiss_15 : decode cX12_amiss 15 = .ok (.getfield 222, 3) := by decide +kernel
theorem dX12_amiss_18 : decode cX12_amiss 18 = .ok (.ifCond .eq 28, 3) := by decide +kernel
theorem dX12_amiss_21 : decode cX12_amiss 21 = .ok (.iload_n 3, 1) := by decide +kernel
theorem dX12_amiss_22 : decode cX12_amiss 22 = .ok (.aload_n 0, 1) := by decide +kernel
theorem dX12_amiss_23 : decode cX12_amiss 23 = .ok (.getfield 225, 3) := by decide +kernel
theorem dX12_amiss_26 : decode cX12_amiss 26 = .ok (.if_icmp .gt 19, 3) := by decide +kernel
theorem dX12_amiss_29 : decode cX12_amiss 29 = .ok (.iload_n 3, 1) := by decide +kernel
theorem dX12_amiss_30 : decode cX12_amiss 30 = .ok (.aload_n 0, 1) := by decide +kernel
theorem dX12_amiss_31 : decode cX12_amiss 31 = .ok (.getfield 225, 3) := by decide +kernel
theorem dX12_amiss_34 : decode cX12_amiss 34 = .ok (.if_icmp .ne 12, 3) := by decide +kernel
theorem dX12_amiss_37 : decode cX12_amiss 37 = .ok (.iload_n 1, 1) := by decide +kernel
theorem dX12_amiss_38 : decode cX12_amiss 38 = .ok (.aload_n 0, 1) := by decide +kernel
theorem dX12_amiss_39 : decode cX12_amiss 39 = .ok (.getfield 222, 3) := by decide +kernel
theorem dX12_amiss_42 : decode cX12_amiss 42 = .ok (.if_icmp .lt 4, 3) := by decide +kernel
theorem dX12_amiss_45 : decode cX12_amiss 45 = .ok (.return_, 1) := by decide +kernel
theorem dX12_amiss_46 : decode cX12_amiss 46 = .ok (.aload_n 0, 1) := by decide +kernel
theorem dX12_amiss_47 : decode cX12_amiss 47 = .ok (.iload_n 1, 1) := by decide +kernel
theorem dX12_amiss_48 : decode cX12_amiss 48 = .ok (.putfield 222, 3) := by decide +kernel
theorem dX12_amiss_51 : decode cX12_amiss 51 = .ok (.aload_n 0, 1) := by decide +kernel
theorem dX12_amiss_52 : decode cX12_amiss 52 = .ok (.iload_n 3, 1) := by decide +kernel
theorem dX12_amiss_53 : decode cX12_amiss 53 = .ok (.putfield 225, 3) := by decide +kernel
theorem dX12_amiss_56 : decode cX12_amiss 56 = .ok (.return_, 1) := by decide +kernel
theorem dX12_goesOn_0 : decode cX12_goesOn 0 = .ok (.aload_n 0, 1) := by decide +kernel
theorem dX12_goesOn_1 : decode cX12_goesOn 1 = .ok (.getfield 216, 3) := by decide +kernel
theorem dX12_goesOn_4 : decode cX12_goesOn 4 = .ok (.sipush 400, 3) := by decide +kernel
theorem dX12_goesOn_7 : decode cX12_goesOn 7 = .ok (.if_icmp .ne 11, 3) := by decide +kernel
theorem dX12_goesOn_10 : decode cX12_goesOn 10 = .ok (.aload_n 0, 1) := by decide +kernel
theorem dX12_goesOn_11 : decode cX12_goesOn 11 = .ok (.iconst 2, 1) := by decide +kernel
theorem dX12_goesOn_12 : decode cX12_goesOn 12 = .ok (.invokevirtual 228, 3) := by decide +kernel
theorem dX12_goesOn_15 : decode cX12_goesOn 15 = .ok (.goto 13, 3) := by decide +kernel
theorem dX12_goesOn_18 : decode cX12_goesOn 18 = .ok (.aload_n 0, 1) := by decide +kernel
theorem dX12_goesOn_19 : decode cX12_goesOn 19 = .ok (.dup, 1) := by decide +kernel
theorem dX12_goesOn_20 : decode cX12_goesOn 20 = .ok (.getfield 216, 3) := by decide +kernel
theorem dX12_goesOn_23 : decode cX12_goesOn 23 = .ok (.iconst 1, 1) := by decide +kernel
theorem dX12_goesOn_24 : decode cX12_goesOn 24 = .ok (.iadd, 1) := by decide +kernel
theorem dX12_goesOn_25 : decode cX12_goesOn 25 = .ok (.putfield 216, 3) := by decide +kernel
theorem dX12_goesOn_28 : decode cX12_goesOn 28 = .ok (.return_, 1) := by decide +kernel
theorem dX12_must_0 : decode cX12_must 0 = .ok (.aload_n 0, 1) := by decide +kernel
theorem dX12_must_1 : decode cX12_must 1 = .ok (.iload_n 1, 1) := by decide +kernel
theorem dX12_must_2 : decode cX12_must 2 = .ok (.invokevirtual 231, 3) := by decide +kernel
theorem dX12_must_5 : decode cX12_must 5 = .ok (.ifCond .eq 10, 3) := by decide +kernel
theorem dX12_must_8 : decode cX12_must 8 = .ok (.aload_n 0, 1) := by decide +kernel
theorem dX12_must_9 : decode cX12_must 9 = .ok (.invokevirtual 234, 3) := by decide +kernel
theorem dX12_must_12 : decode cX12_must 12 = .ok (.goto 8, 3) := by decide +kernel
theorem dX12_must_15 : decode cX12_must 15 = .ok (.aload_n 0, 1) := by decide +kernel
theorem dX12_must_16 : decode cX12_must 16 = .ok (.iconst 1, 1) := by decide +kernel
theorem dX12_must_17 : decode cX12_must 17 = .ok (.invokevirtual 228, 3) := by decide +kernel
theorem dX12_must_20 : decode cX12_must 20 = .ok (.return_, 1) := by decide +kernel
theorem dX12_plain_0 : decode cX12_plain 0 = .ok (.aload_n 0, 1) := by decide +kernel
theorem dX12_plain_1 : decode cX12_plain 1 = .ok (.getfield 43, 3) := by decide +kernel
theorem dX12_plain_4 : decode cX12_plain 4 = .ok (.iload_n 1, 1) := by decide +kernel
theorem dX12_plain_5 : decode cX12_plain 5 = .ok (.iconst 0, 1) := by decide +kernel
theorem dX12_plain_6 : decode cX12_plain 6 = .ok (.iastore, 1) := by decide +kernel
theorem dX12_plain_7 : decode cX12_plain 7 = .ok (.aload_n 0, 1) := by decide +kernel
theorem dX12_plain_8 : decode cX12_plain 8 = .ok (.getfield 52, 3) := by decide +kernel
theorem dX12_plain_11 : decode cX12_plain 11 = .ok (.iload_n 1, 1) := by decide +kernel
theorem dX12_plain_12 : decode cX12_plain 12 = .ok (.bipush 97, 2) := by decide +kernel
theorem dX12_plain_14 : decode cX12_plain 14 = .ok (.iastore, 1) := by decide +kernel
theorem dX12_plain_15 : decode cX12_plain 15 = .ok (.aload_n 0, 1) := by decide +kernel
theorem dX12_plain_16 : decode cX12_plain 16 = .ok (.getfield 55, 3) := by decide +kernel
theorem dX12_plain_19 : decode cX12_plain 19 = .ok (.iload_n 1, 1) := by decide +kernel
theorem dX12_plain_20 : decode cX12_plain 20 = .ok (.iconst 0, 1) := by decide +kernel
theorem dX12_plain_21 : decode cX12_plain 21 = .ok (.iastore, 1) := by decide +kernel
theorem dX12_plain_22 : decode cX12_plain 22 = .ok (.aload_n 0, 1) := by decide +kernel
theorem dX12_plain_23 : decode cX12_plain 23 = .ok (.getfield 67, 3) := by decide +kernel
theorem dX12_plain_26 : decode cX12_plain 26 = .ok (.iload_n 1, 1) := by decide +kernel
theorem dX12_plain_27 : decode cX12_plain 27 = .ok (.iconst 0, 1) := by decide +kernel
theorem dX12_plain_28 : decode cX12_plain 28 = .ok (.iastore, 1) := by decide +kernel
theorem dX12_plain_29 : decode cX12_plain 29 = .ok (.aload_n 0, 1) := by decide +kernel
theorem dX12_plain_30 : decode cX12_plain 30 = .ok (.getfield 73, 3) := by decide +kernel
theorem dX12_plain_33 : decode cX12_plain 33 = .ok (.iload_n 1, 1) := by decide +kernel
theorem dX12_plain_34 : decode cX12_plain 34 = .ok (.iconst 3, 1) := by decide +kernel
theorem dX12_plain_35 : decode cX12_plain 35 = .ok (.iastore, 1) := by decide +kernel
theorem dX12_plain_36 : decode cX12_plain 36 = .ok (.aload_n 0, 1) := by decide +kernel
theorem dX12_plain_37 : decode cX12_plain 37 = .ok (.getfield 76, 3) := by decide +kernel
theorem dX12_plain_40 : decode cX12_plain 40 = .ok (.iload_n 1, 1) := by decide +kernel
theorem dX12_plain_41 : decode cX12_plain 41 = .ok (.iconst 3, 1) := by decide +kernel
theorem dX12_plain_42 : decode cX12_plain 42 = .ok (.iastore, 1) := by decide +kernel
theorem dX12_plain_43 : decode cX12_plain 43 = .ok (.aload_n 0, 1) := by decide +kernel
theorem dX12_plain_44 : decode cX12_plain 44 = .ok (.getfield 79, 3) := by decide +kernel
theorem dX12_plain_47 : decode cX12_plain 47 = .ok (.iload_n 1, 1) := by decide +kernel
theorem dX12_plain_48 : decode cX12_plain 48 = .ok (.iconst 0, 1) := by decide +kernel
theorem dX12_plain_49 : decode cX12_plain 49 = .ok (.iastore, 1) := by decide +kernel
theorem dX12_plain_50 : decode cX12_plain 50 = .ok (.iconst 0, 1) := by decide +kernel
theorem dX12_plain_51 : decode cX12_plain 51 = .ok (.istore_n 2, 1) := by decide +kernel
theorem dX12_plain_52 : decode cX12_plain 52 = .ok (.iload_n 2, 1) := by decide +kernel
theorem dX12_plain_53 : decode cX12_plain 53 = .ok (.iconst 2, 1) := by decide +kernel
theorem dX12_plain_54 : decode cX12_plain 54 = .ok (.if_icmp .ge 31, 3) := by decide +kernel
theorem dX12_plain_57 : decode cX12_plain 57 = .ok (.aload_n 0, 1) := by decide +kernel
theorem dX12_plain_58 : decode cX12_plain 58 = .ok (.getfield 82, 3) := by decide +kernel
theorem dX12_plain_61 : decode cX12_plain 61 = .ok (.iconst 2, 1) := by decide +kernel
theorem dX12_plain_62 : decode cX12_plain 62 = .ok (.iload_n 1, 1) := by decide +kernel
theorem dX12_plain_63 : decode cX12_plain 63 = .ok (.imul, 1) := by decide +kernel
theorem dX12_plain_64 : decode cX12_plain 64 = .ok (.iload_n 2, 1) := by decide +kernel
theorem dX12_plain_65 : decode cX12_plain 65 = .ok (.iadd, 1) := by decide +kernel
theorem dX12_plain_66 : decode cX12_plain 66 = .ok (.iconst 0, 1) := by decide +kernel
theorem dX12_plain_67 : decode cX12_plain 67 = .ok (.iastore, 1) := by decide +kernel
theorem dX12_plain_68 : decode cX12_plain 68 = .ok (.aload_n 0, 1) := by decide +kernel
theorem dX12_plain_69 : decode cX12_plain 69 = .ok (.getfield 85, 3) := by decide +kernel
theorem dX12_plain_72 : decode cX12_plain 72 = .ok (.iconst 2, 1) := by decide +kernel
theorem dX12_plain_73 : decode cX12_plain 73 = .ok (.iload_n 1, 1) := by decide +kernel
theorem dX12_plain_74 : decode cX12_plain 74 = .ok (.imul, 1) := by decide +kernel
theorem dX12_plain_75 : decode cX12_plain 75 = .ok (.iload_n 2, 1) := by decide +kernel
theorem dX12_plain_76 : decode cX12_plain 76 = .ok (.iadd, 1) := by decide +kernel
theorem dX12_plain_77 : decode cX12_plain 77 = .ok (.iconst 0, 1) := by decide +kernel
theorem dX12_plain_78 : decode cX12_plain 78 = .ok (.iastore, 1) := by decide +kernel
theorem dX12_plain_79 : decode cX12_plain 79 = .ok (.iinc 2 1, 3) := by decide +kernel
theorem dX12_plain_82 : decode cX12_plain 82 = .ok (.goto (-30), 3) := by decide +kernel
theorem dX12_plain_85 : decode cX12_plain 85 = .ok (.return_, 1) := by decide +kernel
theorem dX12_read_0 : decode cX12_read 0 = .ok (.aload_n 0, 1) := by decide +kernel
theorem dX12_read_1 : decode cX12_read 1 = .ok (.aload_n 0, 1) := by decide +kernel
theorem dX12_read_2 : decode cX12_read 2 = .ok (.getfield 176, 3) := by decide +kernel
theorem dX12_read_5 : decode cX12_read 5 = .ok (.putfield 182, 3) := by decide +kernel
theorem dX12_read_8 : decode cX12_read 8 = .ok (.iconst 0, 1) := by decide +kernel
theorem dX12_read_9 : decode cX12_read 9 = .ok (.istore_n 1, 1) := by decide +kernel
theorem dX12_read_10 : decode cX12_read 10 = .ok (.iload_n 1, 1) := by decide +kernel
theorem dX12_read_11 : decode cX12_read 11 = .ok (.aload_n 0, 1) := by decide +kernel
theorem dX12_read_12 : decode cX12_read 12 = .ok (.getfield 182, 3) := by decide +kernel
theorem dX12_read_15 : decode cX12_read 15 = .ok (.if_icmp .ge 21, 3) := by decide +kernel
theorem dX12_read_18 : decode cX12_read 18 = .ok (.aload_n 0, 1) := by decide +kernel
theorem dX12_read_19 : decode cX12_read 19 = .ok (.getfield 17, 3) := by decide +kernel
theorem dX12_read_22 : decode cX12_read 22 = .ok (.iload_n 1, 1) := by decide +kernel
theorem dX12_read_23 : decode cX12_read 23 = .ok (.aload_n 0, 1) := by decide +kernel
theorem dX12_read_24 : decode cX12_read 24 = .ok (.getfield 13, 3) := by decide +kernel
theorem dX12_read_27 : decode cX12_read 27 = .ok (.iload_n 1, 1) := by decide +kernel
theorem dX12_read_28 : decode cX12_read 28 = .ok (.baload, 1) := by decide +kernel
theorem dX12_read_29 : decode cX12_read 29 = .ok (.bastore, 1) := by decide +kernel
theorem dX12_read_30 : decode cX12_read 30 = .ok (.iinc 1 1, 3) := by decide +kernel
theorem dX12_read_33 : decode cX12_read 33 = .ok (.goto (-23), 3) := by decide +kernel
theorem dX12_read_36 : decode cX12_read 36 = .ok (.aload_n 0, 1) := by decide +kernel
theorem dX12_read_37 : decode cX12_read 37 = .ok (.iconst 0, 1) := by decide +kernel
theorem dX12_read_38 : decode cX12_read 38 = .ok (.putfield 176, 3) := by decide +kernel
theorem dX12_read_41 : decode cX12_read 41 = .ok (.aload_n 0, 1) := by decide +kernel
theorem dX12_read_42 : decode cX12_read 42 = .ok (.invokevirtual 237, 3) := by decide +kernel
theorem dX12_read_45 : decode cX12_read 45 = .ok (.aload_n 0, 1) := by decide +kernel
theorem dX12_read_46 : decode cX12_read 46 = .ok (.iconst 0, 1) := by decide +kernel
theorem dX12_read_47 : decode cX12_read 47 = .ok (.putfield 216, 3) := by decide +kernel
theorem dX12_read_50 : decode cX12_read 50 = .ok (.aload_n 0, 1) := by decide +kernel
theorem dX12_read_51 : decode cX12_read 51 = .ok (.iconst 0, 1) := by decide +kernel
theorem dX12_read_52 : decode cX12_read 52 = .ok (.putfield 240, 3) := by decide +kernel
theorem dX12_read_55 : decode cX12_read 55 = .ok (.aload_n 0, 1) := by decide +kernel
theorem dX12_read_56 : decode cX12_read 56 = .ok (.iconst 0, 1) := by decide +kernel
theorem dX12_read_57 : decode cX12_read 57 = .ok (.putfield 213, 3) := by decide +kernel
theorem dX12_read_60 : decode cX12_read 60 = .ok (.aload_n 0, 1) := by decide +kernel
theorem dX12_read_61 : decode cX12_read 61 = .ok (.iconst 0, 1) := by decide +kernel
theorem dX12_read_62 : decode cX12_read 62 = .ok (.putfield 222, 3) := by decide +kernel
theorem dX12_read_65 : decode cX12_read 65 = .ok (.aload_n 0, 1) := by decide +kernel
theorem dX12_read_66 : decode cX12_read 66 = .ok (.iconst 1, 1) := by decide +kernel
theorem dX12_read_67 : decode cX12_read 67 = .ok (.aload_n 0, 1) := by decide +kernel
theorem dX12_read_68 : decode cX12_read 68 = .ok (.getfield 243, 3) := by decide +kernel
theorem dX12_read_71 : decode cX12_read 71 = .ok (.isub, 1) := by decide +kernel
theorem dX12_read_72 : decode cX12_read 72 = .ok (.putfield 246, 3) := by decide +kernel
theorem dX12_read_75 : decode cX12_read 75 = .ok (.aload_n 0, 1) := by decide +kernel
theorem dX12_read_76 : decode cX12_read 76 = .ok (.iconst 0, 1) := by decide +kernel
theorem dX12_read_77 : decode cX12_read 77 = .ok (.putfield 249, 3) := by decide +kernel
theorem dX12_read_80 : decode cX12_read 80 = .ok (.aload_n 0, 1) := by decide +kernel
theorem dX12_read_81 : decode cX12_read 81 = .ok (.aload_n 0, 1) := by decide +kernel
theorem dX12_read_82 : decode cX12_read 82 = .ok (.getfield 246, 3) := by decide +kernel
theorem dX12_read_85 : decode cX12_read 85 = .ok (.invokevirtual 168, 3) := by decide +kernel
theorem dX12_read_88 : decode cX12_read 88 = .ok (.aload_n 0, 1) := by decide +kernel
theorem dX12_read_89 : decode cX12_read 89 = .ok (.sipush 130, 3) := by decide +kernel
theorem dX12_read_92 : decode cX12_read 92 = .ok (.aload_n 0, 1) := by decide +kernel
theorem dX12_read_93 : decode cX12_read 93 = .ok (.getfield 246, 3) := by decide +kernel
theorem dX12_read_96 : decode cX12_read 96 = .ok (.imul, 1) := by decide +kernel
theorem dX12_read_97 : decode cX12_read 97 = .ok (.putfield 252, 3) := by decide +kernel
theorem dX12_read_100 : decode cX12_read 100 = .ok (.aload_n 0, 1) := by decide +kernel
theorem dX12_read_101 : decode cX12_read 101 = .ok (.sipush 420, 3) := by decide +kernel
theorem dX12_read_104 : decode cX12_read 104 = .ok (.aload_n 0, 1) := by decide +kernel
theorem dX12_read_105 : decode cX12_read 105 = .ok (.getfield 246, 3) := by decide +kernel
theorem dX12_read_108 : decode cX12_read 108 = .ok (.imul, 1) := by decide +kernel
theorem dX12_read_109 : decode cX12_read 109 = .ok (.putfield 255, 3) := by decide +kernel
theorem dX12_read_112 : decode cX12_read 112 = .ok (.aload_n 0, 1) := by decide +kernel
theorem dX12_read_113 : decode cX12_read 113 = .ok (.getfield 213, 3) := by decide +kernel
theorem dX12_read_116 : decode cX12_read 116 = .ok (.ifCond .ne 18, 3) := by decide +kernel
theorem dX12_read_119 : decode cX12_read 119 = .ok (.aload_n 0, 1) := by decide +kernel
theorem dX12_read_120 : decode cX12_read 120 = .ok (.iconst 0, 1) := by decide +kernel
theorem dX12_read_121 : decode cX12_read 121 = .ok (.invokevirtual 231, 3) := by decide +kernel
theorem dX12_read_124 : decode cX12_read 124 = .ok (.ifCond .ne 10, 3) := by decide +kernel
theorem dX12_read_127 : decode cX12_read 127 = .ok (.aload_n 0, 1) := by decide +kernel
theorem dX12_read_128 : decode cX12_read 128 = .ok (.invokevirtual 258, 3) := by decide +kernel
theorem dX12_read_131 : decode cX12_read 131 = .ok (.goto (-19), 3) := by decide +kernel
theorem dX12_read_134 : decode cX12_read 134 = .ok (.iconst 0, 1) := by decide +kernel
theorem dX12_read_135 : decode cX12_read 135 = .ok (.istore_n 1, 1) := by decide +kernel
theorem dX12_read_136 : decode cX12_read 136 = .ok (.iload_n 1, 1) := by decide +kernel
theorem dX12_read_137 : decode cX12_read 137 = .ok (.aload_n 0, 1) := by decide +kernel
theorem dX12_read_138 : decode cX12_read 138 = .ok (.getfield 55, 3) := by decide +kernel
theorem dX12_read_141 : decode cX12_read 141 = .ok (.aload_n 0, 1) := by decide +kernel
theorem dX12_read_142 : decode cX12_read 142 = .ok (.getfield 246, 3) := by decide +kernel
theorem dX12_read_145 : decode cX12_read 145 = .ok (.iaload, 1) := by decide +kernel
theorem dX12_read_146 : decode cX12_read 146 = .ok (.if_icmp .ge 69, 3) := by decide +kernel
theorem dX12_read_149 : decode cX12_read 149 = .ok (.aload_n 0, 1) := by decide +kernel
theorem dX12_read_150 : decode cX12_read 150 = .ok (.getfield 213, 3) := by decide +kernel
theorem dX12_read_153 : decode cX12_read 153 = .ok (.ifCond .ne 62, 3) := by decide +kernel
theorem dX12_read_156 : decode cX12_read 156 = .ok (.aload_n 0, 1) := by decide +kernel
theorem dX12_read_157 : decode cX12_read 157 = .ok (.getfield 222, 3) := by decide +kernel
theorem dX12_read_160 : decode cX12_read 160 = .ok (.ifCond .ne 55, 3) := by decide +kernel
theorem dX12_read_163 : decode cX12_read 163 = .ok (.aload_n 0, 1) := by decide +kernel
theorem dX12_read_164 : decode cX12_read 164 = .ok (.getfield 58, 3) := by decide +kernel
theorem dX12_read_167 : decode cX12_read 167 = .ok (.bipush 8, 2) := by decide +kernel
theorem dX12_read_169 : decode cX12_read 169 = .ok (.aload_n 0, 1) := by decide +kernel
theorem dX12_read_170 : decode cX12_read 170 = .ok (.getfield 246, 3) := by decide +kernel
theorem dX12_read_173 : decode cX12_read 173 = .ok (.imul, 1) := by decide +kernel
theorem dX12_read_174 : decode cX12_read 174 = .ok (.iload_n 1, 1) := by decide +kernel
theorem dX12_read_175 : decode cX12_read 175 = .ok (.iadd, 1) := by decide +kernel
theorem dX12_read_176 : decode cX12_read 176 = .ok (.iaload, 1) := by decide +kernel
theorem dX12_read_177 : decode cX12_read 177 = .ok (.aload_n 0, 1) := by decide +kernel
theorem dX12_read_178 : decode cX12_read 178 = .ok (.getfield 52, 3) := by decide +kernel
theorem dX12_read_181 : decode cX12_read 181 = .ok (.aload_n 0, 1) := by decide +kernel
theorem dX12_read_182 : decode cX12_read 182 = .ok (.getfield 246, 3) := by decide +kernel
theorem dX12_read_185 : decode cX12_read 185 = .ok (.iaload, 1) := by decide +kernel
theorem dX12_read_186 : decode cX12_read 186 = .ok (.if_icmp .lt 23, 3) := by decide +kernel
theorem dX12_read_189 : decode cX12_read 189 = .ok (.aload_n 0, 1) := by decide +kernel
theorem dX12_read_190 : decode cX12_read 190 = .ok (.bipush 6, 2) := by decide +kernel
theorem dX12_read_192 : decode cX12_read 192 = .ok (.aload_n 0, 1) := by decide +kernel
theorem dX12_read_193 : decode cX12_read 193 = .ok (.getfield 64, 3) := by decide +kernel
theorem dX12_read_196 : decode cX12_read 196 = .ok (.bipush 8, 2) := by decide +kernel
theorem dX12_read_198 : decode cX12_read 198 = .ok (.aload_n 0, 1) := by decide +kernel
theorem dX12_read_199 : decode cX12_read 199 = .ok (.getfield 246, 3) := by decide +kernel
theorem dX12_read_202 : decode cX12_read 202 = .ok (.imul, 1) := by decide +kernel
theorem dX12_read_203 : decode cX12_read 203 = .ok (.iload_n 1, 1) := by decide +kernel
theorem dX12_read_204 : decode cX12_read 204 = .ok (.iadd, 1) := by decide +kernel
theorem dX12_read_205 : decode cX12_read 205 = .ok (.iaload, 1) := by decide +kernel
theorem dX12_read_206 : decode cX12_read 206 = .ok (.invokevirtual 261, 3) := by decide +kernel
theorem dX12_read_209 : decode cX12_read 209 = .ok (.iinc 1 1, 3) := by decide +kernel
theorem dX12_read_212 : decode cX12_read 212 = .ok (.goto (-76), 3) := by decide +kernel
theorem dX12_read_215 : decode cX12_read 215 = .ok (.aload_n 0, 1) := by decide +kernel
theorem dX12_read_216 : decode cX12_read 216 = .ok (.aload_n 0, 1) := by decide +kernel
theorem dX12_read_217 : decode cX12_read 217 = .ok (.getfield 213, 3) := by decide +kernel
theorem dX12_read_220 : decode cX12_read 220 = .ok (.ifCond .le 10, 3) := by decide +kernel
theorem dX12_read_223 : decode cX12_read 223 = .ok (.aload_n 0, 1) := by decide +kernel
theorem dX12_read_224 : decode cX12_read 224 = .ok (.getfield 219, 3) := by decide +kernel
theorem dX12_read_227 : decode cX12_read 227 = .ok (.goto 18, 3) := by decide +kernel
theorem dX12_read_230 : decode cX12_read 230 = .ok (.aload_n 0, 1) := by decide +kernel
theorem dX12_read_231 : decode cX12_read 231 = .ok (.getfield 222, 3) := by decide +kernel
theorem dX12_read_234 : decode cX12_read 234 = .ok (.ifCond .le 10, 3) := by decide +kernel
theorem dX12_read_237 : decode cX12_read 237 = .ok (.aload_n 0, 1) := by decide +kernel
theorem dX12_read_238 : decode cX12_read 238 = .ok (.getfield 225, 3) := by decide +kernel
theorem dX12_read_241 : decode cX12_read 241 = .ok (.goto 4, 3) := by decide +kernel
theorem dX12_read_244 : decode cX12_read 244 = .ok (.iconst (-1), 1) := by decide +kernel
theorem dX12_read_245 : decode cX12_read 245 = .ok (.putfield 37, 3) := by decide +kernel
theorem dX12_read_248 : decode cX12_read 248 = .ok (.aload_n 0, 1) := by decide +kernel
theorem dX12_read_249 : decode cX12_read 249 = .ok (.getfield 213, 3) := by decide +kernel
theorem dX12_read_252 : decode cX12_read 252 = .ok (.ifCond .le 8, 3) := by decide +kernel
theorem dX12_read_255 : decode cX12_read 255 = .ok (.aload_n 0, 1) := by decide +kernel
theorem dX12_read_256 : decode cX12_read 256 = .ok (.getfield 213, 3) := by decide +kernel
theorem dX12_read_259 : decode cX12_read 259 = .ok (.ireturn, 1) := by decide +kernel
theorem dX12_read_260 : decode cX12_read 260 = .ok (.aload_n 0, 1) := by decide +kernel
theorem dX12_read_261 : decode cX12_read 261 = .ok (.getfield 222, 3) := by decide +kernel
theorem dX12_read_264 : decode cX12_read 264 = .ok (.ifCond .le 8, 3) := by decide +kernel
theorem dX12_read_267 : decode cX12_read 267 = .ok (.aload_n 0, 1) := by decide +kernel
theorem dX12_read_268 : decode cX12_read 268 = .ok (.getfield 222, 3) := by decide +kernel
theorem dX12_read_271 : decode cX12_read 271 = .ok (.ireturn, 1) := by decide +kernel
theorem dX12_read_272 : decode cX12_read 272 = .ok (.aload_n 0, 1) := by decide +kernel
theorem dX12_read_273 : decode cX12_read 273 = .ok (.aload_n 0, 1) := by decide +kernel
theorem dX12_read_274 : decode cX12_read 274 = .ok (.getfield 246, 3) := by decide +kernel
theorem dX12_read_277 : decode cX12_read 277 = .ok (.putfield 243, 3) := by decide +kernel
theorem dX12_read_280 : decode cX12_read 280 = .ok (.aload_n 0, 1) := by decide +kernel
theorem dX12_read_281 : decode cX12_read 281 = .ok (.iconst 0, 1) := by decide +kernel
theorem dX12_read_282 : decode cX12_read 282 = .ok (.putfield 265, 3) := by decide +kernel
theorem dX12_read_285 : decode cX12_read 285 = .ok (.aload_n 0, 1) := by decide +kernel
theorem dX12_read_286 : decode cX12_read 286 = .ok (.iconst (-1), 1) := by decide +kernel
theorem dX12_read_287 : decode cX12_read 287 = .ok (.putfield 141, 3) := by decide +kernel
theorem dX12_read_290 : decode cX12_read 290 = .ok (.aload_n 0, 1) := by decide +kernel
theorem dX12_read_291 : decode cX12_read 291 = .ok (.iconst 0, 1) := by decide +kernel
theorem dX12_read_292 : decode cX12_read 292 = .ok (.putfield 268, 3) := by decide +kernel
theorem dX12_read_295 : decode cX12_read 295 = .ok (.iconst 0, 1) := by decide +kernel
theorem dX12_read_296 : decode cX12_read 296 = .ok (.istore_n 1, 1) := by decide +kernel
theorem dX12_read_297 : decode cX12_read 297 = .ok (.iload_n 1, 1) := by decide +kernel
theorem dX12_read_298 : decode cX12_read 298 = .ok (.iconst 3, 1) := by decide +kernel
theorem dX12_read_299 : decode cX12_read 299 = .ok (.if_icmp .ge 16, 3) := by decide +kernel
theorem dX12_read_302 : decode cX12_read 302 = .ok (.aload_n 0, 1) := by decide +kernel
theorem dX12_read_303 : decode cX12_read 303 = .ok (.getfield 156, 3) := by decide +kernel
theorem dX12_read_306 : decode cX12_read 306 = .ok (.iload_n 1, 1) := by decide +kernel
theorem dX12_read_307 : decode cX12_read 307 = .ok (.iconst 0, 1) := by decide +kernel
theorem dX12_read_308 : decode cX12_read 308 = .ok (.bastore, 1) := by decide +kernel
theorem dX12_read_309 : decode cX12_read 309 = .ok (.iinc 1 1, 3) := by decide +kernel
theorem dX12_read_312 : decode cX12_read 312 = .ok (.goto (-15), 3) := by decide +kernel
theorem dX12_read_315 : decode cX12_read 315 = .ok (.iconst 0, 1) := by decide +kernel
theorem dX12_read_316 : decode cX12_read 316 = .ok (.ireturn, 1) := by decide +kernel
theorem dX12_place_0 : decode cX12_place 0 = .ok (.aload_n 0, 1) := by decide +kernel
theorem dX12_place_1 : decode cX12_place 1 = .ok (.getfield 37, 3) := by decide +kernel
theorem dX12_place_4 : decode cX12_place 4 = .ok (.ireturn, 1) := by decide +kernel
theorem dX12_roomFor_0 : decode cX12_roomFor 0 = .ok (.iload_n 1, 1) := by decide +kernel
theorem dX12_roomFor_1 : decode cX12_roomFor 1 = .ok (.iload_n 2, 1) := by decide +kernel
theorem dX12_roomFor_2 : decode cX12_roomFor 2 = .ok (.if_icmp .ne 8, 3) := by decide +kernel
theorem dX12_roomFor_5 : decode cX12_roomFor 5 = .ok (.aload_n 0, 1) := by decide +kernel
theorem dX12_roomFor_6 : decode cX12_roomFor 6 = .ok (.iconst 2, 1) := by decide +kernel
theorem dX12_roomFor_7 : decode cX12_roomFor 7 = .ok (.invokevirtual 228, 3) := by decide +kernel
theorem dX12_roomFor_10 : decode cX12_roomFor 10 = .ok (.aload_n 0, 1) := by decide +kernel
theorem dX12_roomFor_11 : decode cX12_roomFor 11 = .ok (.getfield 213, 3) := by decide +kernel
theorem dX12_roomFor_14 : decode cX12_roomFor 14 = .ok (.ifCond .ne 7, 3) := by decide +kernel
theorem dX12_roomFor_17 : decode cX12_roomFor 17 = .ok (.aload_n 0, 1) := by decide +kernel
theorem dX12_roomFor_18 : decode cX12_roomFor 18 = .ok (.invokevirtual 234, 3) := by decide +kernel
theorem dX12_roomFor_21 : decode cX12_roomFor 21 = .ok (.return_, 1) := by decide +kernel
theorem dX12_tell_0 : decode cX12_tell 0 = .ok (.aload_n 0, 1) := by decide +kernel
theorem dX12_tell_1 : decode cX12_tell 1 = .ok (.getfield 20, 3) := by decide +kernel
theorem dX12_tell_4 : decode cX12_tell 4 = .ok (.aload_n 0, 1) := by decide +kernel
theorem dX12_tell_5 : decode cX12_tell 5 = .ok (.getfield 216, 3) := by decide +kernel
theorem dX12_tell_8 : decode cX12_tell 8 = .ok (.iaload, 1) := by decide +kernel
theorem dX12_tell_9 : decode cX12_tell 9 = .ok (.tableswitch 302 20 27 #[47, 76, 105, 117, 128, 157, 231, 274], 47) := by decide +kernel
theorem dX12_tell_56 : decode cX12_tell 56 = .ok (.aload_n 0, 1) := by decide +kernel
theorem dX12_tell_57 : decode cX12_tell 57 = .ok (.aload_n 0, 1) := by decide +kernel
theorem dX12_tell_58 : decode cX12_tell 58 = .ok (.getfield 43, 3) := by decide +kernel
theorem dX12_tell_61 : decode cX12_tell 61 = .ok (.aload_n 0, 1) := by decide +kernel
theorem dX12_tell_62 : decode cX12_tell 62 = .ok (.getfield 246, 3) := by decide +kernel
theorem dX12_tell_65 : decode cX12_tell 65 = .ok (.iaload, 1) := by decide +kernel
theorem dX12_tell_66 : decode cX12_tell 66 = .ok (.bipush 6, 2) := by decide +kernel
theorem dX12_tell_68 : decode cX12_tell 68 = .ok (.invokevirtual 271, 3) := by decide +kernel
theorem dX12_tell_71 : decode cX12_tell 71 = .ok (.aload_n 0, 1) := by decide +kernel
theorem dX12_tell_72 : decode cX12_tell 72 = .ok (.getfield 213, 3) := by decide +kernel
theorem dX12_tell_75 : decode cX12_tell 75 = .ok (.ifCond .ne 241, 3) := by decide +kernel
theorem dX12_tell_78 : decode cX12_tell 78 = .ok (.aload_n 0, 1) := by decide +kernel
theorem dX12_tell_79 : decode cX12_tell 79 = .ok (.invokevirtual 274, 3) := by decide +kernel
theorem dX12_tell_82 : decode cX12_tell 82 = .ok (.goto 234, 3) := by decide +kernel
theorem dX12_tell_85 : decode cX12_tell 85 = .ok (.aload_n 0, 1) := by decide +kernel
theorem dX12_tell_86 : decode cX12_tell 86 = .ok (.aload_n 0, 1) := by decide +kernel
theorem dX12_tell_87 : decode cX12_tell 87 = .ok (.getfield 43, 3) := by decide +kernel
theorem dX12_tell_90 : decode cX12_tell 90 = .ok (.aload_n 0, 1) := by decide +kernel
theorem dX12_tell_91 : decode cX12_tell 91 = .ok (.getfield 246, 3) := by decide +kernel
theorem dX12_tell_94 : decode cX12_tell 94 = .ok (.iaload, 1) := by decide +kernel
theorem dX12_tell_95 : decode cX12_tell 95 = .ok (.bipush 6, 2) := by decide +kernel
theorem dX12_tell_97 : decode cX12_tell 97 = .ok (.invokevirtual 271, 3) := by decide +kernel
theorem dX12_tell_100 : decode cX12_tell 100 = .ok (.aload_n 0, 1) := by decide +kernel
theorem dX12_tell_101 : decode cX12_tell 101 = .ok (.getfield 213, 3) := by decide +kernel
theorem dX12_tell_104 : decode cX12_tell 104 = .ok (.ifCond .ne 212, 3) := by decide +kernel
theorem dX12_tell_107 : decode cX12_tell 107 = .ok (.aload_n 0, 1) := by decide +kernel
theorem dX12_tell_108 : decode cX12_tell 108 = .ok (.invokevirtual 277, 3) := by decide +kernel
theorem dX12_tell_111 : decode cX12_tell 111 = .ok (.goto 205, 3) := by decide +kernel
theorem dX12_tell_114 : decode cX12_tell 114 = .ok (.aload_n 0, 1) := by decide +kernel
theorem dX12_tell_115 : decode cX12_tell 115 = .ok (.invokevirtual 234, 3) := by decide +kernel
theorem dX12_tell_118 : decode cX12_tell 118 = .ok (.aload_n 0, 1) := by decide +kernel
theorem dX12_tell_119 : decode cX12_tell 119 = .ok (.iconst 0, 1) := by decide +kernel
theorem dX12_tell_120 : decode cX12_tell 120 = .ok (.invokevirtual 280, 3) := by decide +kernel
theorem dX12_tell_123 : decode cX12_tell 123 = .ok (.goto 193, 3) := by decide +kernel
theorem dX12_tell_126 : decode cX12_tell 126 = .ok (.aload_n 0, 1) := by decide +kernel
theorem dX12_tell_127 : decode cX12_tell 127 = .ok (.invokevirtual 234, 3) := by decide +kernel
theorem dX12_tell_130 : decode cX12_tell 130 = .ok (.aload_n 0, 1) := by decide +kernel
theorem dX12_tell_131 : decode cX12_tell 131 = .ok (.invokevirtual 283, 3) := by decide +kernel
theorem dX12_tell_134 : decode cX12_tell 134 = .ok (.goto 182, 3) := by decide +kernel
theorem dX12_tell_137 : decode cX12_tell 137 = .ok (.aload_n 0, 1) := by decide +kernel
theorem dX12_tell_138 : decode cX12_tell 138 = .ok (.aload_n 0, 1) := by decide +kernel
theorem dX12_tell_139 : decode cX12_tell 139 = .ok (.getfield 55, 3) := by decide +kernel
theorem dX12_tell_142 : decode cX12_tell 142 = .ok (.aload_n 0, 1) := by decide +kernel
theorem dX12_tell_143 : decode cX12_tell 143 = .ok (.getfield 246, 3) := by decide +kernel
theorem dX12_tell_146 : decode cX12_tell 146 = .ok (.iaload, 1) := by decide +kernel
theorem dX12_tell_147 : decode cX12_tell 147 = .ok (.bipush 8, 2) := by decide +kernel
theorem dX12_tell_149 : decode cX12_tell 149 = .ok (.invokevirtual 271, 3) := by decide +kernel
theorem dX12_tell_152 : decode cX12_tell 152 = .ok (.aload_n 0, 1) := by decide +kernel
theorem dX12_tell_153 : decode cX12_tell 153 = .ok (.getfield 213, 3) := by decide +kernel
theorem dX12_tell_156 : decode cX12_tell 156 = .ok (.ifCond .ne 160, 3) := by decide +kernel
theorem dX12_tell_159 : decode cX12_tell 159 = .ok (.aload_n 0, 1) := by decide +kernel
theorem dX12_tell_160 : decode cX12_tell 160 = .ok (.invokevirtual 286, 3) := by decide +kernel
theorem dX12_tell_163 : decode cX12_tell 163 = .ok (.goto 153, 3) := by decide +kernel
theorem dX12_tell_166 : decode cX12_tell 166 = .ok (.aload_n 0, 1) := by decide +kernel
theorem dX12_tell_167 : decode cX12_tell 167 = .ok (.aload_n 0, 1) := by decide +kernel
theorem dX12_tell_168 : decode cX12_tell 168 = .ok (.getfield 67, 3) := by decide +kernel
theorem dX12_tell_171 : decode cX12_tell 171 = .ok (.aload_n 0, 1) := by decide +kernel
theorem dX12_tell_172 : decode cX12_tell 172 = .ok (.getfield 246, 3) := by decide +kernel
theorem dX12_tell_175 : decode cX12_tell 175 = .ok (.iaload, 1) := by decide +kernel
theorem dX12_tell_176 : decode cX12_tell 176 = .ok (.bipush 9, 2) := by decide +kernel
theorem dX12_tell_178 : decode cX12_tell 178 = .ok (.invokevirtual 271, 3) := by decide +kernel
theorem dX12_tell_181 : decode cX12_tell 181 = .ok (.aload_n 0, 1) := by decide +kernel
theorem dX12_tell_182 : decode cX12_tell 182 = .ok (.getfield 213, 3) := by decide +kernel
theorem dX12_tell_185 : decode cX12_tell 185 = .ok (.ifCond .le 4, 3) := by decide +kernel
theorem dX12_tell_188 : decode cX12_tell 188 = .ok (.return_, 1) := by decide +kernel
theorem dX12_tell_189 : decode cX12_tell 189 = .ok (.aload_n 0, 1) := by decide +kernel
theorem dX12_tell_190 : decode cX12_tell 190 = .ok (.getfield 70, 3) := by decide +kernel
theorem dX12_tell_193 : decode cX12_tell 193 = .ok (.bipush 9, 2) := by decide +kernel
theorem dX12_tell_195 : decode cX12_tell 195 = .ok (.aload_n 0, 1) := by decide +kernel
theorem dX12_tell_196 : decode cX12_tell 196 = .ok (.getfield 246, 3) := by decide +kernel
theorem dX12_tell_199 : decode cX12_tell 199 = .ok (.imul, 1) := by decide +kernel
theorem dX12_tell_200 : decode cX12_tell 200 = .ok (.aload_n 0, 1) := by decide +kernel
theorem dX12_tell_201 : decode cX12_tell 201 = .ok (.getfield 67, 3) := by decide +kernel
theorem dX12_tell_204 : decode cX12_tell 204 = .ok (.aload_n 0, 1) := by decide +kernel
theorem dX12_tell_205 : decode cX12_tell 205 = .ok (.getfield 246, 3) := by decide +kernel
theorem dX12_tell_208 : decode cX12_tell 208 = .ok (.iaload, 1) := by decide +kernel
theorem dX12_tell_209 : decode cX12_tell 209 = .ok (.iadd, 1) := by decide +kernel
theorem dX12_tell_210 : decode cX12_tell 210 = .ok (.aload_n 0, 1) := by decide +kernel
theorem dX12_tell_211 : decode cX12_tell 211 = .ok (.iconst 0, 1) := by decide +kernel
theorem dX12_tell_212 : decode cX12_tell 212 = .ok (.sipush 999, 3) := by decide +kernel
theorem dX12_tell_215 : decode cX12_tell 215 = .ok (.invokevirtual 289, 3) := by decide +kernel
theorem dX12_tell_218 : decode cX12_tell 218 = .ok (.iastore, 1) := by decide +kernel
theorem dX12_tell_219 : decode cX12_tell 219 = .ok (.aload_n 0, 1) := by decide +kernel
theorem dX12_tell_220 : decode cX12_tell 220 = .ok (.iconst 4, 1) := by decide +kernel
theorem dX12_tell_221 : decode cX12_tell 221 = .ok (.invokevirtual 293, 3) := by decide +kernel
theorem dX12_tell_224 : decode cX12_tell 224 = .ok (.aload_n 0, 1) := by decide +kernel
theorem dX12_tell_225 : decode cX12_tell 225 = .ok (.getfield 67, 3) := by decide +kernel
theorem dX12_tell_228 : decode cX12_tell 228 = .ok (.aload_n 0, 1) := by decide +kernel
theorem dX12_tell_229 : decode cX12_tell 229 = .ok (.getfield 246, 3) := by decide +kernel
theorem dX12_tell_232 : decode cX12_tell 232 = .ok (.dup2, 1) := by decide +kernel
theorem dX12_tell_233 : decode cX12_tell 233 = .ok (.iaload, 1) := by decide +kernel
theorem dX12_tell_234 : decode cX12_tell 234 = .ok (.iconst 1, 1) := by decide +kernel
theorem dX12_tell_235 : decode cX12_tell 235 = .ok (.iadd, 1) := by decide +kernel
theorem dX12_tell_236 : decode cX12_tell 236 = .ok (.iastore, 1) := by decide +kernel
theorem dX12_tell_237 : decode cX12_tell 237 = .ok (.goto 79, 3) := by decide +kernel
theorem dX12_tell_240 : decode cX12_tell 240 = .ok (.aload_n 0, 1) := by decide +kernel
theorem dX12_tell_241 : decode cX12_tell 241 = .ok (.invokevirtual 234, 3) := by decide +kernel
theorem dX12_tell_244 : decode cX12_tell 244 = .ok (.aload_n 0, 1) := by decide +kernel
theorem dX12_tell_245 : decode cX12_tell 245 = .ok (.getfield 73, 3) := by decide +kernel
theorem dX12_tell_248 : decode cX12_tell 248 = .ok (.aload_n 0, 1) := by decide +kernel
theorem dX12_tell_249 : decode cX12_tell 249 = .ok (.getfield 246, 3) := by decide +kernel
theorem dX12_tell_252 : decode cX12_tell 252 = .ok (.aload_n 0, 1) := by decide +kernel
theorem dX12_tell_253 : decode cX12_tell 253 = .ok (.iconst 1, 1) := by decide +kernel
theorem dX12_tell_254 : decode cX12_tell 254 = .ok (.iconst 4, 1) := by decide +kernel
theorem dX12_tell_255 : decode cX12_tell 255 = .ok (.invokevirtual 289, 3) := by decide +kernel
theorem dX12_tell_258 : decode cX12_tell 258 = .ok (.iastore, 1) := by decide +kernel
theorem dX12_tell_259 : decode cX12_tell 259 = .ok (.aload_n 0, 1) := by decide +kernel
theorem dX12_tell_260 : decode cX12_tell 260 = .ok (.getfield 76, 3) := by decide +kernel
theorem dX12_tell_263 : decode cX12_tell 263 = .ok (.aload_n 0, 1) := by decide +kernel
theorem dX12_tell_264 : decode cX12_tell 264 = .ok (.getfield 246, 3) := by decide +kernel
theorem dX12_tell_267 : decode cX12_tell 267 = .ok (.aload_n 0, 1) := by decide +kernel
theorem dX12_tell_268 : decode cX12_tell 268 = .ok (.iconst 1, 1) := by decide +kernel
theorem dX12_tell_269 : decode cX12_tell 269 = .ok (.bipush 9, 2) := by decide +kernel
theorem dX12_tell_271 : decode cX12_tell 271 = .ok (.invokevirtual 289, 3) := by decide +kernel
theorem dX12_tell_274 : decode cX12_tell 274 = .ok (.iastore, 1) := by decide +kernel
theorem dX12_tell_275 : decode cX12_tell 275 = .ok (.aload_n 0, 1) := by decide +kernel
theorem dX12_tell_276 : decode cX12_tell 276 = .ok (.iconst 4, 1) := by decide +kernel
theorem dX12_tell_277 : decode cX12_tell 277 = .ok (.invokevirtual 293, 3) := by decide +kernel
theorem dX12_tell_280 : decode cX12_tell 280 = .ok (.goto 36, 3) := by decide +kernel
theorem dX12_tell_283 : decode cX12_tell 283 = .ok (.aload_n 0, 1) := by decide +kernel
theorem dX12_tell_284 : decode cX12_tell 284 = .ok (.invokevirtual 234, 3) := by decide +kernel
theorem dX12_tell_287 : decode cX12_tell 287 = .ok (.aload_n 0, 1) := by decide +kernel
theorem dX12_tell_288 : decode cX12_tell 288 = .ok (.getfield 79, 3) := by decide +kernel
theorem dX12_tell_291 : decode cX12_tell 291 = .ok (.aload_n 0, 1) := by decide +kernel
theorem dX12_tell_292 : decode cX12_tell 292 = .ok (.getfield 246, 3) := by decide +kernel
theorem dX12_tell_295 : decode cX12_tell 295 = .ok (.aload_n 0, 1) := by decide +kernel
theorem dX12_tell_296 : decode cX12_tell 296 = .ok (.iconst 0, 1) := by decide +kernel
theorem dX12_tell_297 : decode cX12_tell 297 = .ok (.bipush 9, 2) := by decide +kernel
theorem dX12_tell_299 : decode cX12_tell 299 = .ok (.invokevirtual 289, 3) := by decide +kernel
theorem dX12_tell_302 : decode cX12_tell 302 = .ok (.iastore, 1) := by decide +kernel
theorem dX12_tell_303 : decode cX12_tell 303 = .ok (.aload_n 0, 1) := by decide +kernel
theorem dX12_tell_304 : decode cX12_tell 304 = .ok (.iconst 4, 1) := by decide +kernel
theorem dX12_tell_305 : decode cX12_tell 305 = .ok (.invokevirtual 293, 3) := by decide +kernel
theorem dX12_tell_308 : decode cX12_tell 308 = .ok (.goto 8, 3) := by decide +kernel
theorem dX12_tell_311 : decode cX12_tell 311 = .ok (.aload_n 0, 1) := by decide +kernel
theorem dX12_tell_312 : decode cX12_tell 312 = .ok (.iconst 1, 1) := by decide +kernel
theorem dX12_tell_313 : decode cX12_tell 313 = .ok (.invokevirtual 228, 3) := by decide +kernel
theorem dX12_tell_316 : decode cX12_tell 316 = .ok (.return_, 1) := by decide +kernel
theorem dX12_bounded_0 : decode cX12_bounded 0 = .ok (.aload_n 0, 1) := by decide +kernel
theorem dX12_bounded_1 : decode cX12_bounded 1 = .ok (.getfield 213, 3) := by decide +kernel
theorem dX12_bounded_4 : decode cX12_bounded 4 = .ok (.ifCond .gt 11, 3) := by decide +kernel
theorem dX12_bounded_7 : decode cX12_bounded 7 = .ok (.aload_n 0, 1) := by decide +kernel
theorem dX12_bounded_8 : decode cX12_bounded 8 = .ok (.iconst 2, 1) := by decide +kernel
theorem dX12_bounded_9 : decode cX12_bounded 9 = .ok (.invokevirtual 231, 3) := by decide +kernel
theorem dX12_bounded_12 : decode cX12_bounded 12 = .ok (.ifCond .ne 10, 3) := by decide +kernel
theorem dX12_bounded_15 : decode cX12_bounded 15 = .ok (.aload_n 0, 1) := by decide +kernel
theorem dX12_bounded_16 : decode cX12_bounded 16 = .ok (.iconst 1, 1) := by decide +kernel
theorem dX12_bounded_17 : decode cX12_bounded 17 = .ok (.invokevirtual 228, 3) := by decide +kernel
theorem dX12_bounded_20 : decode cX12_bounded 20 = .ok (.iload_n 1, 1) := by decide +kernel
theorem dX12_bounded_21 : decode cX12_bounded 21 = .ok (.ireturn, 1) := by decide +kernel
theorem dX12_bounded_22 : decode cX12_bounded 22 = .ok (.aload_n 0, 1) := by decide +kernel
theorem dX12_bounded_23 : decode cX12_bounded 23 = .ok (.getfield 27, 3) := by decide +kernel
theorem dX12_bounded_26 : decode cX12_bounded 26 = .ok (.aload_n 0, 1) := by decide +kernel
theorem dX12_bounded_27 : decode cX12_bounded 27 = .ok (.getfield 216, 3) := by decide +kernel
theorem dX12_bounded_30 : decode cX12_bounded 30 = .ok (.iaload, 1) := by decide +kernel
theorem dX12_bounded_31 : decode cX12_bounded 31 = .ok (.istore_n 3, 1) := by decide +kernel
theorem dX12_bounded_32 : decode cX12_bounded 32 = .ok (.iload_n 3, 1) := by decide +kernel
theorem dX12_bounded_33 : decode cX12_bounded 33 = .ok (.iload_n 1, 1) := by decide +kernel
theorem dX12_bounded_34 : decode cX12_bounded 34 = .ok (.if_icmp .lt 8, 3) := by decide +kernel
theorem dX12_bounded_37 : decode cX12_bounded 37 = .ok (.iload_n 3, 1) := by decide +kernel
theorem dX12_bounded_38 : decode cX12_bounded 38 = .ok (.iload_n 2, 1) := by decide +kernel
theorem dX12_bounded_39 : decode cX12_bounded 39 = .ok (.if_icmp .le 12, 3) := by decide +kernel
theorem dX12_bounded_42 : decode cX12_bounded 42 = .ok (.aload_n 0, 1) := by decide +kernel
theorem dX12_bounded_43 : decode cX12_bounded 43 = .ok (.iconst 5, 1) := by decide +kernel
theorem dX12_bounded_44 : decode cX12_bounded 44 = .ok (.aload_n 0, 1) := by decide +kernel
theorem dX12_bounded_45 : decode cX12_bounded 45 = .ok (.getfield 216, 3) := by decide +kernel
theorem dX12_bounded_48 : decode cX12_bounded 48 = .ok (.invokevirtual 261, 3) := by decide +kernel
theorem dX12_bounded_51 : decode cX12_bounded 51 = .ok (.aload_n 0, 1) := by decide +kernel
theorem dX12_bounded_52 : decode cX12_bounded 52 = .ok (.invokevirtual 234, 3) := by decide +kernel
theorem dX12_bounded_55 : decode cX12_bounded 55 = .ok (.iload_n 3, 1) := by decide +kernel
theorem dX12_bounded_56 : decode cX12_bounded 56 = .ok (.ireturn, 1) := by decide +kernel
theorem dX12_named_0 : decode cX12_named 0 = .ok (.aload_n 0, 1) := by decide +kernel
theorem dX12_named_1 : decode cX12_named 1 = .ok (.getfield 216, 3) := by decide +kernel
theorem dX12_named_4 : decode cX12_named 4 = .ok (.istore_n 1, 1) := by decide +kernel
theorem dX12_named_5 : decode cX12_named 5 = .ok (.aload_n 0, 1) := by decide +kernel
theorem dX12_named_6 : decode cX12_named 6 = .ok (.iconst 1, 1) := by decide +kernel
theorem dX12_named_7 : decode cX12_named 7 = .ok (.invokevirtual 293, 3) := by decide +kernel
theorem dX12_named_10 : decode cX12_named 10 = .ok (.iconst 0, 1) := by decide +kernel
theorem dX12_named_11 : decode cX12_named 11 = .ok (.istore_n 2, 1) := by decide +kernel
theorem dX12_named_12 : decode cX12_named 12 = .ok (.iload_n 2, 1) := by decide +kernel
theorem dX12_named_13 : decode cX12_named 13 = .ok (.aload_n 0, 1) := by decide +kernel
theorem dX12_named_14 : decode cX12_named 14 = .ok (.getfield 249, 3) := by decide +kernel
theorem dX12_named_17 : decode cX12_named 17 = .ok (.if_icmp .ge 38, 3) := by decide +kernel
theorem dX12_named_20 : decode cX12_named 20 = .ok (.aload_n 0, 1) := by decide +kernel
theorem dX12_named_21 : decode cX12_named 21 = .ok (.getfield 213, 3) := by decide +kernel
theorem dX12_named_24 : decode cX12_named 24 = .ok (.ifCond .ne 31, 3) := by decide +kernel
theorem dX12_named_27 : decode cX12_named 27 = .ok (.aload_n 0, 1) := by decide +kernel
theorem dX12_named_28 : decode cX12_named 28 = .ok (.getfield 40, 3) := by decide +kernel
theorem dX12_named_31 : decode cX12_named 31 = .ok (.iload_n 2, 1) := by decide +kernel
theorem dX12_named_32 : decode cX12_named 32 = .ok (.laload, 1) := by decide +kernel
theorem dX12_named_33 : decode cX12_named 33 = .ok (.aload_n 0, 1) := by decide +kernel
theorem dX12_named_34 : decode cX12_named 34 = .ok (.getfield 30, 3) := by decide +kernel
theorem dX12_named_37 : decode cX12_named 37 = .ok (.iload_n 1, 1) := by decide +kernel
theorem dX12_named_38 : decode cX12_named 38 = .ok (.laload, 1) := by decide +kernel
theorem dX12_named_39 : decode cX12_named 39 = .ok (.lcmp, 1) := by decide +kernel
theorem dX12_named_40 : decode cX12_named 40 = .ok (.ifCond .ne 9, 3) := by decide +kernel
theorem dX12_named_43 : decode cX12_named 43 = .ok (.aload_n 0, 1) := by decide +kernel
theorem dX12_named_44 : decode cX12_named 44 = .ok (.iconst 3, 1) := by decide +kernel
theorem dX12_named_45 : decode cX12_named 45 = .ok (.iload_n 1, 1) := by decide +kernel
theorem dX12_named_46 : decode cX12_named 46 = .ok (.invokevirtual 261, 3) := by decide +kernel
theorem dX12_named_49 : decode cX12_named 49 = .ok (.iinc 2 1, 3) := by decide +kernel
theorem dX12_named_52 : decode cX12_named 52 = .ok (.goto (-40), 3) := by decide +kernel
theorem dX12_named_55 : decode cX12_named 55 = .ok (.iload_n 1, 1) := by decide +kernel
theorem dX12_named_56 : decode cX12_named 56 = .ok (.ireturn, 1) := by decide +kernel
theorem dX12_notes_0 : decode cX12_notes 0 = .ok (.aload_n 0, 1) := by decide +kernel
theorem dX12_notes_1 : decode cX12_notes 1 = .ok (.getfield 40, 3) := by decide +kernel
theorem dX12_notes_4 : decode cX12_notes 4 = .ok (.aload_n 0, 1) := by decide +kernel
theorem dX12_notes_5 : decode cX12_notes 5 = .ok (.getfield 249, 3) := by decide +kernel
theorem dX12_notes_8 : decode cX12_notes 8 = .ok (.aload_n 0, 1) := by decide +kernel
theorem dX12_notes_9 : decode cX12_notes 9 = .ok (.getfield 30, 3) := by decide +kernel
theorem dX12_notes_12 : decode cX12_notes 12 = .ok (.iload_n 1, 1) := by decide +kernel
theorem dX12_notes_13 : decode cX12_notes 13 = .ok (.laload, 1) := by decide +kernel
theorem dX12_notes_14 : decode cX12_notes 14 = .ok (.lastore, 1) := by decide +kernel
theorem dX12_notes_15 : decode cX12_notes 15 = .ok (.aload_n 0, 1) := by decide +kernel
theorem dX12_notes_16 : decode cX12_notes 16 = .ok (.dup, 1) := by decide +kernel
theorem dX12_notes_17 : decode cX12_notes 17 = .ok (.getfield 249, 3) := by decide +kernel
theorem dX12_notes_20 : decode cX12_notes 20 = .ok (.iconst 1, 1) := by decide +kernel
theorem dX12_notes_21 : decode cX12_notes 21 = .ok (.iadd, 1) := by decide +kernel
theorem dX12_notes_22 : decode cX12_notes 22 = .ok (.putfield 249, 3) := by decide +kernel
theorem dX12_notes_25 : decode cX12_notes 25 = .ok (.aload_n 0, 1) := by decide +kernel
theorem dX12_notes_26 : decode cX12_notes 26 = .ok (.getfield 43, 3) := by decide +kernel
theorem dX12_notes_29 : decode cX12_notes 29 = .ok (.aload_n 0, 1) := by decide +kernel
theorem dX12_notes_30 : decode cX12_notes 30 = .ok (.getfield 246, 3) := by decide +kernel
theorem dX12_notes_33 : decode cX12_notes 33 = .ok (.dup2, 1) := by decide +kernel
theorem dX12_notes_34 : decode cX12_notes 34 = .ok (.iaload, 1) := by decide +kernel
theorem dX12_notes_35 : decode cX12_notes 35 = .ok (.iconst 1, 1) := by decide +kernel
theorem dX12_notes_36 : decode cX12_notes 36 = .ok (.iadd, 1) := by decide +kernel
theorem dX12_notes_37 : decode cX12_notes 37 = .ok (.iastore, 1) := by decide +kernel
theorem dX12_notes_38 : decode cX12_notes 38 = .ok (.return_, 1) := by decide +kernel
theorem dX12_tellRow_0 : decode cX12_tellRow 0 = .ok (.aload_n 0, 1) := by decide +kernel
theorem dX12_tellRow_1 : decode cX12_tellRow 1 = .ok (.getfield 43, 3) := by decide +kernel
theorem dX12_tellRow_4 : decode cX12_tellRow 4 = .ok (.aload_n 0, 1) := by decide +kernel
theorem dX12_tellRow_5 : decode cX12_tellRow 5 = .ok (.getfield 246, 3) := by decide +kernel
theorem dX12_tellRow_8 : decode cX12_tellRow 8 = .ok (.iaload, 1) := by decide +kernel
theorem dX12_tellRow_9 : decode cX12_tellRow 9 = .ok (.istore_n 1, 1) := by decide +kernel
theorem dX12_tellRow_10 : decode cX12_tellRow 10 = .ok (.aload_n 0, 1) := by decide +kernel
theorem dX12_tellRow_11 : decode cX12_tellRow 11 = .ok (.invokevirtual 296, 3) := by decide +kernel
theorem dX12_tellRow_14 : decode cX12_tellRow 14 = .ok (.istore_n 2, 1) := by decide +kernel
theorem dX12_tellRow_15 : decode cX12_tellRow 15 = .ok (.aload_n 0, 1) := by decide +kernel
theorem dX12_tellRow_16 : decode cX12_tellRow 16 = .ok (.iconst 1, 1) := by decide +kernel
theorem dX12_tellRow_17 : decode cX12_tellRow 17 = .ok (.bipush 6, 2) := by decide +kernel
theorem dX12_tellRow_19 : decode cX12_tellRow 19 = .ok (.invokevirtual 289, 3) := by decide +kernel
theorem dX12_tellRow_22 : decode cX12_tellRow 22 = .ok (.istore_n 3, 1) := by decide +kernel
theorem dX12_tellRow_23 : decode cX12_tellRow 23 = .ok (.aload_n 0, 1) := by decide +kernel
theorem dX12_tellRow_24 : decode cX12_tellRow 24 = .ok (.iconst 1, 1) := by decide +kernel
theorem dX12_tellRow_25 : decode cX12_tellRow 25 = .ok (.invokevirtual 280, 3) := by decide +kernel
theorem dX12_tellRow_28 : decode cX12_tellRow 28 = .ok (.aload_n 0, 1) := by decide +kernel
theorem dX12_tellRow_29 : decode cX12_tellRow 29 = .ok (.getfield 213, 3) := by decide +kernel
theorem dX12_tellRow_32 : decode cX12_tellRow 32 = .ok (.ifCond .le 4, 3) := by decide +kernel
theorem dX12_tellRow_35 : decode cX12_tellRow 35 = .ok (.return_, 1) := by decide +kernel
theorem dX12_tellRow_36 : decode cX12_tellRow 36 = .ok (.iload_n 3, 1) := by decide +kernel
theorem dX12_tellRow_37 : decode cX12_tellRow 37 = .ok (.iconst 1, 1) := by decide +kernel
theorem dX12_tellRow_38 : decode cX12_tellRow 38 = .ok (.if_icmp .lt 9, 3) := by decide +kernel
theorem dX12_tellRow_41 : decode cX12_tellRow 41 = .ok (.iload_n 3, 1) := by decide +kernel
theorem dX12_tellRow_42 : decode cX12_tellRow 42 = .ok (.bipush 6, 2) := by decide +kernel
theorem dX12_tellRow_44 : decode cX12_tellRow 44 = .ok (.if_icmp .le 5, 3) := by decide +kernel
theorem dX12_tellRow_47 : decode cX12_tellRow 47 = .ok (.iconst 0, 1) := by decide +kernel
theorem dX12_tellRow_48 : decode cX12_tellRow 48 = .ok (.istore_n 3, 1) := by decide +kernel
theorem dX12_tellRow_49 : decode cX12_tellRow 49 = .ok (.aload_n 0, 1) := by decide +kernel
theorem dX12_tellRow_50 : decode cX12_tellRow 50 = .ok (.getfield 46, 3) := by decide +kernel
theorem dX12_tellRow_53 : decode cX12_tellRow 53 = .ok (.bipush 6, 2) := by decide +kernel
theorem dX12_tellRow_55 : decode cX12_tellRow 55 = .ok (.aload_n 0, 1) := by decide +kernel
theorem dX12_tellRow_56 : decode cX12_tellRow 56 = .ok (.getfield 246, 3) := by decide +kernel
theorem dX12_tellRow_59 : decode cX12_tellRow 59 = .ok (.imul, 1) := by decide +kernel
theorem dX12_tellRow_60 : decode cX12_tellRow 60 = .ok (.iload_n 1, 1) := by decide +kernel
theorem dX12_tellRow_61 : decode cX12_tellRow 61 = .ok (.iadd, 1) := by decide +kernel
theorem dX12_tellRow_62 : decode cX12_tellRow 62 = .ok (.iload_n 3, 1) := by decide +kernel
theorem dX12_tellRow_63 : decode cX12_tellRow 63 = .ok (.iastore, 1) := by decide +kernel
theorem dX12_tellRow_64 : decode cX12_tellRow 64 = .ok (.iconst 0, 1) := by decide +kernel
theorem dX12_tellRow_65 : decode cX12_tellRow 65 = .ok (.istore 4, 2) := by decide +kernel
theorem dX12_tellRow_67 : decode cX12_tellRow 67 = .ok (.iload 4, 2) := by decide +kernel
theorem dX12_tellRow_69 : decode cX12_tellRow 69 = .ok (.bipush 6, 2) := by decide +kernel
theorem dX12_tellRow_71 : decode cX12_tellRow 71 = .ok (.if_icmp .ge 17, 3) := by decide +kernel
theorem dX12_tellRow_74 : decode cX12_tellRow 74 = .ok (.aload_n 0, 1) := by decide +kernel
theorem dX12_tellRow_75 : decode cX12_tellRow 75 = .ok (.getfield 113, 3) := by decide +kernel
theorem dX12_tellRow_78 : decode cX12_tellRow 78 = .ok (.iload 4, 2) := by decide +kernel
theorem dX12_tellRow_80 : decode cX12_tellRow 80 = .ok (.iconst 0, 1) := by decide +kernel
theorem dX12_tellRow_81 : decode cX12_tellRow 81 = .ok (.iastore, 1) := by decide +kernel
theorem dX12_tellRow_82 : decode cX12_tellRow 82 = .ok (.iinc 4 1, 3) := by decide +kernel
theorem dX12_tellRow_85 : decode cX12_tellRow 85 = .ok (.goto (-18), 3) := by decide +kernel
theorem dX12_tellRow_88 : decode cX12_tellRow 88 = .ok (.iconst 0, 1) := by decide +kernel
theorem dX12_tellRow_89 : decode cX12_tellRow 89 = .ok (.istore 4, 2) := by decide +kernel
theorem dX12_tellRow_91 : decode cX12_tellRow 91 = .ok (.iload 4, 2) := by decide +kernel
theorem dX12_tellRow_93 : decode cX12_tellRow 93 = .ok (.iload_n 3, 1) := by decide +kernel
theorem dX12_tellRow_94 : decode cX12_tellRow 94 = .ok (.if_icmp .ge 93, 3) := by decide +kernel
theorem dX12_tellRow_97 : decode cX12_tellRow 97 = .ok (.aload_n 0, 1) := by decide +kernel
theorem dX12_tellRow_98 : decode cX12_tellRow 98 = .ok (.getfield 113, 3) := by decide +kernel
theorem dX12_tellRow_101 : decode cX12_tellRow 101 = .ok (.iconst 0, 1) := by decide +kernel
theorem dX12_tellRow_102 : decode cX12_tellRow 102 = .ok (.iload 4, 2) := by decide +kernel
theorem dX12_tellRow_104 : decode cX12_tellRow 104 = .ok (.iastore, 1) := by decide +kernel
theorem dX12_tellRow_105 : decode cX12_tellRow 105 = .ok (.aload_n 0, 1) := by decide +kernel
theorem dX12_tellRow_106 : decode cX12_tellRow 106 = .ok (.getfield 113, 3) := by decide +kernel
theorem dX12_tellRow_109 : decode cX12_tellRow 109 = .ok (.iconst 1, 1) := by decide +kernel
theorem dX12_tellRow_110 : decode cX12_tellRow 110 = .ok (.iload 4, 2) := by decide +kernel
theorem dX12_tellRow_112 : decode cX12_tellRow 112 = .ok (.ifCond .ne 7, 3) := by decide +kernel
theorem dX12_tellRow_115 : decode cX12_tellRow 115 = .ok (.iconst 0, 1) := by decide +kernel
theorem dX12_tellRow_116 : decode cX12_tellRow 116 = .ok (.goto 25, 3) := by decide +kernel
theorem dX12_tellRow_119 : decode cX12_tellRow 119 = .ok (.aload_n 0, 1) := by decide +kernel
theorem dX12_tellRow_120 : decode cX12_tellRow 120 = .ok (.getfield 49, 3) := by decide +kernel
theorem dX12_tellRow_123 : decode cX12_tellRow 123 = .ok (.bipush 36, 2) := by decide +kernel
theorem dX12_tellRow_125 : decode cX12_tellRow 125 = .ok (.aload_n 0, 1) := by decide +kernel
theorem dX12_tellRow_126 : decode cX12_tellRow 126 = .ok (.getfield 246, 3) := by decide +kernel
theorem dX12_tellRow_129 : decode cX12_tellRow 129 = .ok (.imul, 1) := by decide +kernel
theorem dX12_tellRow_130 : decode cX12_tellRow 130 = .ok (.bipush 6, 2) := by decide +kernel
theorem dX12_tellRow_132 : decode cX12_tellRow 132 = .ok (.iload_n 1, 1) := by decide +kernel
theorem dX12_tellRow_133 : decode cX12_tellRow 133 = .ok (.imul, 1) := by decide +kernel
theorem dX12_tellRow_134 : decode cX12_tellRow 134 = .ok (.iadd, 1) := by decide +kernel
theorem dX12_tellRow_135 : decode cX12_tellRow 135 = .ok (.iload 4, 2) := by decide +kernel
theorem dX12_tellRow_137 : decode cX12_tellRow 137 = .ok (.iadd, 1) := by decide +kernel
theorem dX12_tellRow_138 : decode cX12_tellRow 138 = .ok (.iconst 1, 1) := by decide +kernel
theorem dX12_tellRow_139 : decode cX12_tellRow 139 = .ok (.isub, 1) := by decide +kernel
theorem dX12_tellRow_140 : decode cX12_tellRow 140 = .ok (.iaload, 1) := by decide +kernel
theorem dX12_tellRow_141 : decode cX12_tellRow 141 = .ok (.iastore, 1) := by decide +kernel
theorem dX12_tellRow_142 : decode cX12_tellRow 142 = .ok (.aload_n 0, 1) := by decide +kernel
theorem dX12_tellRow_143 : decode cX12_tellRow 143 = .ok (.getfield 113, 3) := by decide +kernel
theorem dX12_tellRow_146 : decode cX12_tellRow 146 = .ok (.iconst 2, 1) := by decide +kernel
theorem dX12_tellRow_147 : decode cX12_tellRow 147 = .ok (.iload_n 3, 1) := by decide +kernel
theorem dX12_tellRow_148 : decode cX12_tellRow 148 = .ok (.iastore, 1) := by decide +kernel
theorem dX12_tellRow_149 : decode cX12_tellRow 149 = .ok (.aload_n 0, 1) := by decide +kernel
theorem dX12_tellRow_150 : decode cX12_tellRow 150 = .ok (.getfield 49, 3) := by decide +kernel
theorem dX12_tellRow_153 : decode cX12_tellRow 153 = .ok (.bipush 36, 2) := by decide +kernel
theorem dX12_tellRow_155 : decode cX12_tellRow 155 = .ok (.aload_n 0, 1) := by decide +kernel
theorem dX12_tellRow_156 : decode cX12_tellRow 156 = .ok (.getfield 246, 3) := by decide +kernel
theorem dX12_tellRow_159 : decode cX12_tellRow 159 = .ok (.imul, 1) := by decide +kernel
theorem dX12_tellRow_160 : decode cX12_tellRow 160 = .ok (.bipush 6, 2) := by decide +kernel
theorem dX12_tellRow_162 : decode cX12_tellRow 162 = .ok (.iload_n 1, 1) := by decide +kernel
theorem dX12_tellRow_163 : decode cX12_tellRow 163 = .ok (.imul, 1) := by decide +kernel
theorem dX12_tellRow_164 : decode cX12_tellRow 164 = .ok (.iadd, 1) := by decide +kernel
theorem dX12_tellRow_165 : decode cX12_tellRow 165 = .ok (.iload 4, 2) := by decide +kernel
theorem dX12_tellRow_167 : decode cX12_tellRow 167 = .ok (.iadd, 1) := by decide +kernel
theorem dX12_tellRow_168 : decode cX12_tellRow 168 = .ok (.aload_n 0, 1) := by decide +kernel
theorem dX12_tellRow_169 : decode cX12_tellRow 169 = .ok (.iconst 2, 1) := by decide +kernel
theorem dX12_tellRow_170 : decode cX12_tellRow 170 = .ok (.aload_n 0, 1) := by decide +kernel
theorem dX12_tellRow_171 : decode cX12_tellRow 171 = .ok (.getfield 246, 3) := by decide +kernel
theorem dX12_tellRow_174 : decode cX12_tellRow 174 = .ok (.imul, 1) := by decide +kernel
theorem dX12_tellRow_175 : decode cX12_tellRow 175 = .ok (.iconst 1, 1) := by decide +kernel
theorem dX12_tellRow_176 : decode cX12_tellRow 176 = .ok (.iadd, 1) := by decide +kernel
theorem dX12_tellRow_177 : decode cX12_tellRow 177 = .ok (.invokevirtual 300, 3) := by decide +kernel
theorem dX12_tellRow_180 : decode cX12_tellRow 180 = .ok (.iastore, 1) := by decide +kernel
theorem dX12_tellRow_181 : decode cX12_tellRow 181 = .ok (.iinc 4 1, 3) := by decide +kernel
theorem dX12_tellRow_184 : decode cX12_tellRow 184 = .ok (.goto (-93), 3) := by decide +kernel
theorem dX12_tellRow_187 : decode cX12_tellRow 187 = .ok (.aload_n 0, 1) := by decide +kernel
theorem dX12_tellRow_188 : decode cX12_tellRow 188 = .ok (.iload_n 2, 1) := by decide +kernel
theorem dX12_tellRow_189 : decode cX12_tellRow 189 = .ok (.invokevirtual 303, 3) := by decide +kernel
theorem dX12_tellRow_192 : decode cX12_tellRow 192 = .ok (.return_, 1) := by decide +kernel
theorem dX12_tellList_0 : decode cX12_tellList 0 = .ok (.aload_n 0, 1) := by decide +kernel
theorem dX12_tellList_1 : decode cX12_tellList 1 = .ok (.getfield 43, 3) := by decide +kernel
theorem dX12_tellList_4 : decode cX12_tellList 4 = .ok (.aload_n 0, 1) := by decide +kernel
theorem dX12_tellList_5 : decode cX12_tellList 5 = .ok (.getfield 246, 3) := by decide +kernel
theorem dX12_tellList_8 : decode cX12_tellList 8 = .ok (.iaload, 1) := by decide +kernel
theorem dX12_tellList_9 : decode cX12_tellList 9 = .ok (.istore_n 1, 1) := by decide +kernel
theorem dX12_tellList_10 : decode cX12_tellList 10 = .ok (.aload_n 0, 1) := by decide +kernel
theorem dX12_tellList_11 : decode cX12_tellList 11 = .ok (.invokevirtual 296, 3) := by decide +kernel
theorem dX12_tellList_14 : decode cX12_tellList 14 = .ok (.istore_n 2, 1) := by decide +kernel
theorem dX12_tellList_15 : decode cX12_tellList 15 = .ok (.iconst 0, 1) := by decide +kernel
theorem dX12_tellList_16 : decode cX12_tellList 16 = .ok (.istore_n 3, 1) := by decide +kernel
theorem dX12_tellList_17 : decode cX12_tellList 17 = .ok (.aload_n 0, 1) := by decide +kernel
theorem dX12_tellList_18 : decode cX12_tellList 18 = .ok (.getfield 213, 3) := by decide +kernel
