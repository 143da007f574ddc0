set_option maxRecDepth 20000 in
theorem ggX11_init_X5_init : GoodIn wsX11_init wsX5_init := goodIn_r _ [32, 33, 2, 3, 34, 35, 36, 37, 38, 13, 14, 39, 40, 41, 42, 43, 44, 45, 46, 47, 48, 49, 50, 51, 52, 53, 54, 55, 56, 57, 58, 59, 60, 61, 62, 63, 64, 65, 66, 67, 68, 69, 70, 71, 72, 73, 74, 75, 76, 77, 78, 79, 80, 81, 82, 83, 84, 85, 86, 87, 88, 89, 90, 91, 92, 93, 94, 95, 4, 96, 97, 98, 99, 100, 101, 102, 103, 104, 105, 106, 107, 108, 109, 110, 111, 112, 113, 114, 115, 116, 117, 118, 119, 120, 121, 122, 123, 124, 125, 126, 127, 128, 129, 130, 131, 132, 133, 134, 135, 136, 137, 138, 139, 140, 141, 142, 143, 144, 145, 146, 147, 148, 149, 150, 151, 152, 153, 154, 155, 156, 157, 158, 159, 160, 161, 162, 163, 164, 165, 166, 167, 168, 169, 170, 171, 172, 173, 174, 175, 176, 177, 178, 179, 180, 181, 182, 183, 184, 185, 186, 187, 188, 189, 190, 191, 192, 193, 194, 195, 262, 263, 264, 265, 266, 267, 268, 269, 270, 271, 272, 273, 274, 275, 276, 277, 278, 297, 298, 299, 300, 301, 302, 303, 304, 305, 306, 307, 308, 309, 310, 311, 312, 313, 314, 315, 316, 317, 318, 319, 320, 321, 322, 323, 324, 325, 326] (by decide +kernel) (by decide +kernel)
set_option maxRecDepth 20000 in
theorem gX11_init_X5_init_n22 : GoodIn wsX11_init (wsX5_init) := ggX11_init_X5_init
set_option maxRecDepth 20000 in
theorem ggX11_init_X7_init : GoodIn wsX11_init wsX7_init := goodIn_r _ [50, 51, 2, 3, 52, 53, 54, 55, 56, 57, 58, 59, 60, 61, 62, 63, 64, 65, 66, 67, 68, 69, 70, 71, 72, 73, 74, 75, 76, 77, 78, 79, 80, 81, 82, 83, 84, 85, 86, 87, 88, 89, 90, 91, 92, 93, 94, 95, 4, 96, 97, 98, 99, 14, 100, 101, 102, 103, 104, 105, 106, 107, 108, 109, 110, 111, 112, 113, 114, 115, 116, 269, 270, 271, 272, 273, 274, 275, 276, 277, 278, 312, 313, 314, 315, 316, 317, 318, 319, 320, 321, 322, 323, 324, 325, 326] (by decide +kernel) (by decide +kernel)
set_option maxRecDepth 20000 in
theorem gX11_init_X7_init : GoodIn wsX11_init (wsX7_init) := ggX11_init_X7_init
set_option maxRecDepth 20000 in
theorem ggX11_init_X9_init : GoodIn wsX11_init wsX9_init := goodIn_r _ [198, 199, 2, 3, 200, 53, 201, 55, 202, 203, 279, 280, 281, 282] (by decide +kernel) (by decide +kernel)
set_option maxRecDepth 20000 in
theorem gX11_init_X9_init_n36 : GoodIn wsX11_init (wsX9_init) := ggX11_init_X9_init
set_option maxRecDepth 20000 in
theorem ggX11_init_X10_init : GoodIn wsX11_init wsX10_init := goodIn_r _ [205, 206, 2, 3, 207, 208, 209, 55, 210, 53, 211, 212, 213, 214, 215, 216, 217, 218, 219, 220, 221, 222, 283, 284, 285, 286, 287, 288, 289, 327, 328, 329] (by decide +kernel) (by decide +kernel)
set_option maxRecDepth 20000 in
theorem gX11_init_X10_init_n53 : GoodIn wsX11_init (wsX10_init) := ggX11_init_X10_init
set_option maxRecDepth 20000 in
theorem ggX11_init_X1_init : GoodIn wsX11_init wsX1_init := goodIn_r _ [225, 226, 2, 3, 53, 227, 228, 229, 230, 231, 232, 55, 233, 234, 290, 291, 292, 293, 294, 295, 296] (by decide +kernel) (by decide +kernel)
set_option maxRecDepth 20000 in
theorem gX11_init_X1_init : GoodIn wsX11_init (wsX1_init) := ggX11_init_X1_init
set_option maxRecDepth 20000 in
theorem ggX11_init_X11_begin : GoodIn wsX11_init wsX11_begin := goodIn_r _ [239, 19, 20, 240, 21, 22, 26, 15, 241, 242, 243, 244, 245, 18, 246, 200, 247, 248, 249, 25, 250, 207, 209, 211, 208, 251, 252, 253, 254, 255, 256, 257, 258, 259, 260, 261, 279, 280, 281, 282, 269, 270, 271, 272, 273, 274, 275, 276, 277, 278, 283, 284, 285, 286, 287, 288, 289] (by decide +kernel) (by decide +kernel)
set_option maxRecDepth 20000 in
theorem gX11_init_X11_begin : GoodIn wsX11_init (wsV RX11 67 RX11 yX11_begin wsX11_begin) := goodIn_app (goodIn_of _ (by decide +kernel)) ggX11_init_X11_begin
theorem dX11_init_0 : decode cX11_init 0 = .ok (.aload_n 0, 1) := by decide +kernel
theorem dX11_init_1 : decode cX11_init 1 = .ok (.invokespecial 1, 3) := by decide +kernel
theorem dX11_init_4 : decode cX11_init 4 = .ok (.aload_n 0, 1) := by decide +kernel
theorem dX11_init_5 : decode cX11_init 5 = .ok (.sipush 2000, 3) := by decide +kernel
theorem dX11_init_8 : decode cX11_init 8 = .ok (.newarray .byte, 2) := by decide +kernel
theorem dX11_init_10 : decode cX11_init 10 = .ok (.putfield 9, 3) := by decide +kernel
theorem dX11_init_13 : decode cX11_init 13 = .ok (.aload_n 0, 1) := by decide +kernel
theorem dX11_init_14 : decode cX11_init 14 = .ok (.iconst 0, 1) := by decide +kernel
theorem dX11_init_15 : decode cX11_init 15 = .ok (.putfield 13, 3) := by decide +kernel
theorem dX11_init_18 : decode cX11_init 18 = .ok (.aload_n 0, 1) := by decide +kernel
theorem dX11_init_19 : decode cX11_init 19 = .ok (.iconst (-1), 1) := by decide +kernel
theorem dX11_init_20 : decode cX11_init 20 = .ok (.putfield 17, 3) := by decide +kernel
theorem dX11_init_23 : decode cX11_init 23 = .ok (.aload_n 0, 1) := by decide +kernel
theorem dX11_init_24 : decode cX11_init 24 = .ok (.new 20, 3) := by decide +kernel
theorem dX11_init_27 : decode cX11_init 27 = .ok (.dup, 1) := by decide +kernel
theorem dX11_init_28 : decode cX11_init 28 = .ok (.invokespecial 22, 3) := by decide +kernel
theorem dX11_init_31 : decode cX11_init 31 = .ok (.putfield 23, 3) := by decide +kernel
theorem dX11_init_34 : decode cX11_init 34 = .ok (.aload_n 0, 1) := by decide +kernel
theorem dX11_init_35 : decode cX11_init 35 = .ok (.new 27, 3) := by decide +kernel
theorem dX11_init_38 : decode cX11_init 38 = .ok (.dup, 1) := by decide +kernel
theorem dX11_init_39 : decode cX11_init 39 = .ok (.invokespecial 29, 3) := by decide +kernel
theorem dX11_init_42 : decode cX11_init 42 = .ok (.putfield 30, 3) := by decide +kernel
theorem dX11_init_45 : decode cX11_init 45 = .ok (.aload_n 0, 1) := by decide +kernel
theorem dX11_init_46 : decode cX11_init 46 = .ok (.new 34, 3) := by decide +kernel
theorem dX11_init_49 : decode cX11_init 49 = .ok (.dup, 1) := by decide +kernel
theorem dX11_init_50 : decode cX11_init 50 = .ok (.invokespecial 36, 3) := by decide +kernel
theorem dX11_init_53 : decode cX11_init 53 = .ok (.putfield 37, 3) := by decide +kernel
theorem dX11_init_56 : decode cX11_init 56 = .ok (.aload_n 0, 1) := by decide +kernel
theorem dX11_init_57 : decode cX11_init 57 = .ok (.iconst 3, 1) := by decide +kernel
theorem dX11_init_58 : decode cX11_init 58 = .ok (.anewarray 34, 3) := by decide +kernel
theorem dX11_init_61 : decode cX11_init 61 = .ok (.putfield 41, 3) := by decide +kernel
theorem dX11_init_64 : decode cX11_init 64 = .ok (.aload_n 0, 1) := by decide +kernel
theorem dX11_init_65 : decode cX11_init 65 = .ok (.bipush (-2), 2) := by decide +kernel
theorem dX11_init_67 : decode cX11_init 67 = .ok (.putfield 45, 3) := by decide +kernel
theorem dX11_init_70 : decode cX11_init 70 = .ok (.aload_n 0, 1) := by decide +kernel
theorem dX11_init_71 : decode cX11_init 71 = .ok (.iconst 0, 1) := by decide +kernel
theorem dX11_init_72 : decode cX11_init 72 = .ok (.putfield 48, 3) := by decide +kernel
theorem dX11_init_75 : decode cX11_init 75 = .ok (.aload_n 0, 1) := by decide +kernel
theorem dX11_init_76 : decode cX11_init 76 = .ok (.new 51, 3) := by decide +kernel
theorem dX11_init_79 : decode cX11_init 79 = .ok (.dup, 1) := by decide +kernel
theorem dX11_init_80 : decode cX11_init 80 = .ok (.invokespecial 53, 3) := by decide +kernel
theorem dX11_init_83 : decode cX11_init 83 = .ok (.putfield 54, 3) := by decide +kernel
theorem dX11_init_86 : decode cX11_init 86 = .ok (.aload_n 0, 1) := by decide +kernel
theorem dX11_init_87 : decode cX11_init 87 = .ok (.new 58, 3) := by decide +kernel
theorem dX11_init_90 : decode cX11_init 90 = .ok (.dup, 1) := by decide +kernel
theorem dX11_init_91 : decode cX11_init 91 = .ok (.aload_n 0, 1) := by decide +kernel
theorem dX11_init_92 : decode cX11_init 92 = .ok (.getfield 54, 3) := by decide +kernel
theorem dX11_init_95 : decode cX11_init 95 = .ok (.invokespecial 60, 3) := by decide +kernel
theorem dX11_init_98 : decode cX11_init 98 = .ok (.putfield 63, 3) := by decide +kernel
theorem dX11_init_101 : decode cX11_init 101 = .ok (.iconst 0, 1) := by decide +kernel
theorem dX11_init_102 : decode cX11_init 102 = .ok (.istore_n 1, 1) := by decide +kernel
theorem dX11_init_103 : decode cX11_init 103 = .ok (.iload_n 1, 1) := by decide +kernel
theorem dX11_init_104 : decode cX11_init 104 = .ok (.iconst 3, 1) := by decide +kernel
theorem dX11_init_105 : decode cX11_init 105 = .ok (.if_icmp .ge 22, 3) := by decide +kernel
theorem dX11_init_108 : decode cX11_init 108 = .ok (.aload_n 0, 1) := by decide +kernel
theorem dX11_init_109 : decode cX11_init 109 = .ok (.getfield 41, 3) := by decide +kernel
theorem dX11_init_112 : decode cX11_init 112 = .ok (.iload_n 1, 1) := by decide +kernel
theorem dX11_init_113 : decode cX11_init 113 = .ok (.new 34, 3) := by decide +kernel
theorem dX11_init_116 : decode cX11_init 116 = .ok (.dup, 1) := by decide +kernel
theorem dX11_init_117 : decode cX11_init 117 = .ok (.invokespecial 36, 3) := by decide +kernel
theorem dX11_init_120 : decode cX11_init 120 = .ok (.aastore, 1) := by decide +kernel
theorem dX11_init_121 : decode cX11_init 121 = .ok (.iinc 1 1, 3) := by decide +kernel
theorem dX11_init_124 : decode cX11_init 124 = .ok (.goto (-21), 3) := by decide +kernel
theorem dX11_init_127 : decode cX11_init 127 = .ok (.aload_n 0, 1) := by decide +kernel
theorem dX11_init_128 : decode cX11_init 128 = .ok (.invokevirtual 67, 3) := by decide +kernel
theorem dX11_init_131 : decode cX11_init 131 = .ok (.return_, 1) := by decide +kernel
set_option maxRecDepth 20000 in
theorem ggX11_begin_X9_clear : GoodIn wsX11_begin wsX9_clear := goodIn_r _ [14, 15, 36, 37, 38, 39] (by decide +kernel) (by decide +kernel)
set_option maxRecDepth 20000 in
theorem gX11_begin_X9_clear : GoodIn wsX11_begin (wsV RX11 70 RX9 yX9_clear wsX9_clear) := goodIn_app (goodIn_of _ (by decide +kernel)) ggX11_begin_X9_clear
set_option maxRecDepth 20000 in
theorem ggX11_begin_X10_settle : GoodIn wsX11_begin wsX10_settle := goodIn_r _ [20, 21, 22, 23, 24, 50, 51, 52, 53, 54, 55, 56] (by decide +kernel) (by decide +kernel)
set_option maxRecDepth 20000 in
theorem gX11_begin_X10_settle : GoodIn wsX11_begin (wsV RX11 83 RX10 yX10_settle wsX10_settle) := goodIn_app (goodIn_of _ (by decide +kernel)) ggX11_begin_X10_settle
theorem dX11_begin_0 : decode cX11_begin 0 = .ok (.aload_n 0, 1) := by decide +kernel
theorem dX11_begin_1 : decode cX11_begin 1 = .ok (.getfield 37, 3) := by decide +kernel
theorem dX11_begin_4 : decode cX11_begin 4 = .ok (.invokevirtual 70, 3) := by decide +kernel
theorem dX11_begin_7 : decode cX11_begin 7 = .ok (.iconst 0, 1) := by decide +kernel
theorem dX11_begin_8 : decode cX11_begin 8 = .ok (.istore_n 1, 1) := by decide +kernel
theorem dX11_begin_9 : decode cX11_begin 9 = .ok (.iload_n 1, 1) := by decide +kernel
theorem dX11_begin_10 : decode cX11_begin 10 = .ok (.iconst 3, 1) := by decide +kernel
theorem dX11_begin_11 : decode cX11_begin 11 = .ok (.if_icmp .ge 28, 3) := by decide +kernel
theorem dX11_begin_14 : decode cX11_begin 14 = .ok (.aload_n 0, 1) := by decide +kernel
theorem dX11_begin_15 : decode cX11_begin 15 = .ok (.getfield 41, 3) := by decide +kernel
theorem dX11_begin_18 : decode cX11_begin 18 = .ok (.iload_n 1, 1) := by decide +kernel
theorem dX11_begin_19 : decode cX11_begin 19 = .ok (.aaload, 1) := by decide +kernel
theorem dX11_begin_20 : decode cX11_begin 20 = .ok (.invokevirtual 70, 3) := by decide +kernel
theorem dX11_begin_23 : decode cX11_begin 23 = .ok (.aload_n 0, 1) := by decide +kernel
theorem dX11_begin_24 : decode cX11_begin 24 = .ok (.getfield 41, 3) := by decide +kernel
theorem dX11_begin_27 : decode cX11_begin 27 = .ok (.iload_n 1, 1) := by decide +kernel
theorem dX11_begin_28 : decode cX11_begin 28 = .ok (.aaload, 1) := by decide +kernel
theorem dX11_begin_29 : decode cX11_begin 29 = .ok (.iconst 0, 1) := by decide +kernel
theorem dX11_begin_30 : decode cX11_begin 30 = .ok (.putfield 73, 3) := by decide +kernel
theorem dX11_begin_33 : decode cX11_begin 33 = .ok (.iinc 1 1, 3) := by decide +kernel
theorem dX11_begin_36 : decode cX11_begin 36 = .ok (.goto (-27), 3) := by decide +kernel
theorem dX11_begin_39 : decode cX11_begin 39 = .ok (.aload_n 0, 1) := by decide +kernel
theorem dX11_begin_40 : decode cX11_begin 40 = .ok (.bipush (-2), 2) := by decide +kernel
theorem dX11_begin_42 : decode cX11_begin 42 = .ok (.putfield 45, 3) := by decide +kernel
theorem dX11_begin_45 : decode cX11_begin 45 = .ok (.aload_n 0, 1) := by decide +kernel
theorem dX11_begin_46 : decode cX11_begin 46 = .ok (.iconst 0, 1) := by decide +kernel
theorem dX11_begin_47 : decode cX11_begin 47 = .ok (.putfield 48, 3) := by decide +kernel
theorem dX11_begin_50 : decode cX11_begin 50 = .ok (.aload_n 0, 1) := by decide +kernel
theorem dX11_begin_51 : decode cX11_begin 51 = .ok (.getfield 54, 3) := by decide +kernel
theorem dX11_begin_54 : decode cX11_begin 54 = .ok (.aload_n 0, 1) := by decide +kernel
theorem dX11_begin_55 : decode cX11_begin 55 = .ok (.getfield 30, 3) := by decide +kernel
theorem dX11_begin_58 : decode cX11_begin 58 = .ok (.getfield 77, 3) := by decide +kernel
theorem dX11_begin_61 : decode cX11_begin 61 = .ok (.aload_n 0, 1) := by decide +kernel
theorem dX11_begin_62 : decode cX11_begin 62 = .ok (.getfield 30, 3) := by decide +kernel
theorem dX11_begin_65 : decode cX11_begin 65 = .ok (.getfield 80, 3) := by decide +kernel
theorem dX11_begin_68 : decode cX11_begin 68 = .ok (.invokevirtual 83, 3) := by decide +kernel
theorem dX11_begin_71 : decode cX11_begin 71 = .ok (.return_, 1) := by decide +kernel
set_option maxRecDepth 20000 in
theorem ggX11_feed_X11_putFour : GoodIn wsX11_feed wsX11_putFour := goodIn_r _ [6, 1, 7, 8, 9, 10, 11, 12, 13, 14, 15, 16, 17, 18] (by decide +kernel) (by decide +kernel)
set_option maxRecDepth 20000 in
theorem gX11_feed_X11_putFour : GoodIn wsX11_feed (wsV RX11 87 RX11 yX11_putFour wsX11_putFour) := goodIn_app (goodIn_of _ (by decide +kernel)) ggX11_feed_X11_putFour
theorem dX11_feed_0 : decode cX11_feed 0 = .ok (.aload_n 0, 1) := by decide +kernel
theorem dX11_feed_1 : decode cX11_feed 1 = .ok (.getfield 13, 3) := by decide +kernel
theorem dX11_feed_4 : decode cX11_feed 4 = .ok (.sipush 1980, 3) := by decide +kernel
theorem dX11_feed_7 : decode cX11_feed 7 = .ok (.if_icmp .le 5, 3) := by decide +kernel
theorem dX11_feed_10 : decode cX11_feed 10 = .ok (.iconst (-1), 1) := by decide +kernel
theorem dX11_feed_11 : decode cX11_feed 11 = .ok (.ireturn, 1) := by decide +kernel
theorem dX11_feed_12 : decode cX11_feed 12 = .ok (.aload_n 0, 1) := by decide +kernel
theorem dX11_feed_13 : decode cX11_feed 13 = .ok (.iload_n 1, 1) := by decide +kernel
theorem dX11_feed_14 : decode cX11_feed 14 = .ok (.invokevirtual 87, 3) := by decide +kernel
theorem dX11_feed_17 : decode cX11_feed 17 = .ok (.aload_n 0, 1) := by decide +kernel
theorem dX11_feed_18 : decode cX11_feed 18 = .ok (.iload_n 2, 1) := by decide +kernel
theorem dX11_feed_19 : decode cX11_feed 19 = .ok (.invokevirtual 87, 3) := by decide +kernel
theorem dX11_feed_22 : decode cX11_feed 22 = .ok (.aload_n 0, 1) := by decide +kernel
theorem dX11_feed_23 : decode cX11_feed 23 = .ok (.iload_n 3, 1) := by decide +kernel
theorem dX11_feed_24 : decode cX11_feed 24 = .ok (.invokevirtual 87, 3) := by decide +kernel
theorem dX11_feed_27 : decode cX11_feed 27 = .ok (.aload_n 0, 1) := by decide +kernel
theorem dX11_feed_28 : decode cX11_feed 28 = .ok (.iload 4, 2) := by decide +kernel
theorem dX11_feed_30 : decode cX11_feed 30 = .ok (.invokevirtual 87, 3) := by decide +kernel
theorem dX11_feed_33 : decode cX11_feed 33 = .ok (.aload_n 0, 1) := by decide +kernel
theorem dX11_feed_34 : decode cX11_feed 34 = .ok (.iload 5, 2) := by decide +kernel
theorem dX11_feed_36 : decode cX11_feed 36 = .ok (.invokevirtual 87, 3) := by decide +kernel
theorem dX11_feed_39 : decode cX11_feed 39 = .ok (.aload_n 0, 1) := by decide +kernel
theorem dX11_feed_40 : decode cX11_feed 40 = .ok (.getfield 13, 3) := by decide +kernel
theorem dX11_feed_43 : decode cX11_feed 43 = .ok (.ireturn, 1) := by decide +kernel
theorem dX11_putFour_0 : decode cX11_putFour 0 = .ok (.bipush 24, 2) := by decide +kernel
theorem dX11_putFour_2 : decode cX11_putFour 2 = .ok (.istore_n 2, 1) := by decide +kernel
theorem dX11_putFour_3 : decode cX11_putFour 3 = .ok (.iload_n 2, 1) := by decide +kernel
theorem dX11_putFour_4 : decode cX11_putFour 4 = .ok (.ifCond .lt 42, 3) := by decide +kernel
theorem dX11_putFour_7 : decode cX11_putFour 7 = .ok (.aload_n 0, 1) := by decide +kernel
theorem dX11_putFour_8 : decode cX11_putFour 8 = .ok (.getfield 13, 3) := by decide +kernel
theorem dX11_putFour_11 : decode cX11_putFour 11 = .ok (.sipush 2000, 3) := by decide +kernel
theorem dX11_putFour_14 : decode cX11_putFour 14 = .ok (.if_icmp .ge 32, 3) := by decide +kernel
theorem dX11_putFour_17 : decode cX11_putFour 17 = .ok (.aload_n 0, 1) := by decide +kernel
theorem dX11_putFour_18 : decode cX11_putFour 18 = .ok (.getfield 9, 3) := by decide +kernel
theorem dX11_putFour_21 : decode cX11_putFour 21 = .ok (.aload_n 0, 1) := by decide +kernel
theorem dX11_putFour_22 : decode cX11_putFour 22 = .ok (.getfield 13, 3) := by decide +kernel
theorem dX11_putFour_25 : decode cX11_putFour 25 = .ok (.iload_n 1, 1) := by decide +kernel
theorem dX11_putFour_26 : decode cX11_putFour 26 = .ok (.iload_n 2, 1) := by decide +kernel
theorem dX11_putFour_27 : decode cX11_putFour 27 = .ok (.iushr, 1) := by decide +kernel
theorem dX11_putFour_28 : decode cX11_putFour 28 = .ok (.i2b, 1) := by decide +kernel
theorem dX11_putFour_29 : decode cX11_putFour 29 = .ok (.bastore, 1) := by decide +kernel
theorem dX11_putFour_30 : decode cX11_putFour 30 = .ok (.aload_n 0, 1) := by decide +kernel
theorem dX11_putFour_31 : decode cX11_putFour 31 = .ok (.dup, 1) := by decide +kernel
theorem dX11_putFour_32 : decode cX11_putFour 32 = .ok (.getfield 13, 3) := by decide +kernel
theorem dX11_putFour_35 : decode cX11_putFour 35 = .ok (.iconst 1, 1) := by decide +kernel
theorem dX11_putFour_36 : decode cX11_putFour 36 = .ok (.iadd, 1) := by decide +kernel
theorem dX11_putFour_37 : decode cX11_putFour 37 = .ok (.putfield 13, 3) := by decide +kernel
theorem dX11_putFour_40 : decode cX11_putFour 40 = .ok (.iinc 2 (-8), 3) := by decide +kernel
theorem dX11_putFour_43 : decode cX11_putFour 43 = .ok (.goto (-40), 3) := by decide +kernel
theorem dX11_putFour_46 : decode cX11_putFour 46 = .ok (.return_, 1) := by decide +kernel
theorem dX11_back_0 : decode cX11_back 0 = .ok (.iload_n 1, 1) := by decide +kernel
theorem dX11_back_1 : decode cX11_back 1 = .ok (.ifCond .lt 11, 3) := by decide +kernel
theorem dX11_back_4 : decode cX11_back 4 = .ok (.iload_n 1, 1) := by decide +kernel
theorem dX11_back_5 : decode cX11_back 5 = .ok (.aload_n 0, 1) := by decide +kernel
theorem dX11_back_6 : decode cX11_back 6 = .ok (.getfield 13, 3) := by decide +kernel
theorem dX11_back_9 : decode cX11_back 9 = .ok (.if_icmp .le 5, 3) := by decide +kernel
theorem dX11_back_12 : decode cX11_back 12 = .ok (.iconst (-1), 1) := by decide +kernel
theorem dX11_back_13 : decode cX11_back 13 = .ok (.ireturn, 1) := by decide +kernel
theorem dX11_back_14 : decode cX11_back 14 = .ok (.aload_n 0, 1) := by decide +kernel
theorem dX11_back_15 : decode cX11_back 15 = .ok (.dup, 1) := by decide +kernel
theorem dX11_back_16 : decode cX11_back 16 = .ok (.getfield 13, 3) := by decide +kernel
theorem dX11_back_19 : decode cX11_back 19 = .ok (.iload_n 1, 1) := by decide +kernel
theorem dX11_back_20 : decode cX11_back 20 = .ok (.isub, 1) := by decide +kernel
theorem dX11_back_21 : decode cX11_back 21 = .ok (.putfield 13, 3) := by decide +kernel
theorem dX11_back_24 : decode cX11_back 24 = .ok (.aload_n 0, 1) := by decide +kernel
theorem dX11_back_25 : decode cX11_back 25 = .ok (.getfield 13, 3) := by decide +kernel
theorem dX11_back_28 : decode cX11_back 28 = .ok (.ireturn, 1) := by decide +kernel
set_option maxRecDepth 20000 in
theorem ggX11_read_X5_readDraft : GoodIn wsX11_read wsX5_readDraft := goodIn_r _ [11, 12, 13, 14, 15, 16, 17, 18, 19, 20, 21, 22, 23, 24, 25, 26, 27, 28, 29, 30, 31, 32, 33, 34, 35, 36, 37, 38, 39, 40, 41, 42, 43, 44, 45, 46, 47, 48, 49, 50, 51, 52, 53, 54, 55, 56, 57, 58, 59, 60, 61, 62, 63, 64, 65, 66, 67, 68, 69, 70, 71, 72, 73, 74, 75, 76, 77, 78, 79, 80, 81, 82, 83, 84, 85, 86, 87, 88, 89, 90, 91, 92, 93, 94, 95, 96, 97, 98, 99, 100, 101, 102, 103, 10, 104, 105, 106, 107, 108, 109, 110, 111, 112, 113, 114, 115, 116, 117, 118, 119, 120, 121, 122, 123, 124, 125, 126, 127, 128, 129, 130, 131, 132, 133, 134, 135, 136, 137, 138, 139, 140, 141, 142, 143, 144, 145, 146, 147, 148, 149, 150, 151, 152, 153, 154, 155, 156, 157, 158, 159, 160, 161, 162, 163, 164, 165, 166, 167, 168, 169, 170, 171, 172, 173, 174, 175, 176, 177, 178, 179, 180, 181, 182, 183, 184, 185, 186, 187, 188, 189, 190, 191, 192, 193, 194, 195, 196, 197, 198, 199, 200, 201, 202, 203, 204, 205, 206, 207, 208, 209, 210, 211, 212, 213, 214, 215, 216, 217, 218, 219, 220, 221, 222, 223, 224, 225, 226, 227, 228, 229, 230, 231, 232, 233, 234, 235, 236, 237, 238, 239, 240, 241, 242, 243, 244, 245, 246, 247, 248, 249, 250, 251, 252, 253, 254, 255, 256, 257, 258, 259, 260, 261, 262, 263, 264, 265, 266, 267, 268, 269, 270, 271, 272, 273, 274, 275, 276, 277, 278, 279, 280, 281, 282, 283, 284, 285, 286, 287, 288, 289, 290, 291, 292, 293, 294, 295, 296, 297, 298, 299, 300, 301, 302, 303, 304, 305, 306, 307, 308, 309, 310, 311, 312, 313, 314, 315, 316, 317, 318, 319, 320, 321, 322, 365, 366, 367, 368, 369, 370, 371, 372, 373, 374, 375, 376, 377, 378, 379, 380, 381, 382, 383, 384, 385, 386, 387, 388, 389, 390, 391, 392, 393, 394, 395, 396, 397, 398, 399, 400, 401, 402, 403, 404, 405, 406, 407, 408, 409, 410, 411] (by decide +kernel) (by decide +kernel)
set_option maxRecDepth 20000 in
theorem gX11_read_X5_readDraft : GoodIn wsX11_read (wsV RX11 91 RX5 yX5_readDraft wsX5_readDraft) := goodIn_app (goodIn_of _ (by decide +kernel)) ggX11_read_X5_readDraft
set_option maxRecDepth 20000 in
theorem ggX11_read_X5_exchange : GoodIn wsX11_read wsX5_exchange := goodIn_r _ [326, 12, 365, 366, 367, 368, 369, 370, 371] (by decide +kernel) (by decide +kernel)
set_option maxRecDepth 20000 in
theorem gX11_read_X5_exchange : GoodIn wsX11_read (wsV RX11 96 RX5 yX5_exchange wsX5_exchange) := goodIn_app (goodIn_of _ (by decide +kernel)) ggX11_read_X5_exchange
set_option maxRecDepth 20000 in
theorem ggX11_read_X11_begin : GoodIn wsX11_read wsX11_begin := goodIn_r _ [330, 331, 332, 333, 334, 335, 336, 6, 337, 338, 339, 340, 341, 342, 343, 344, 345, 346, 347, 348, 349, 350, 351, 352, 353, 354, 355, 356, 357, 358, 359, 360, 361, 362, 363, 364, 412, 413, 414, 415, 372, 373, 374, 375, 376, 377, 378, 379, 380, 381, 416, 417, 418, 419, 420, 421, 422] (by decide +kernel) (by decide +kernel)
set_option maxRecDepth 20000 in
theorem gX11_read_X11_begin : GoodIn wsX11_read (wsV RX11 67 RX11 yX11_begin wsX11_begin) := goodIn_app (goodIn_of _ (by decide +kernel)) ggX11_read_X11_begin
theorem dX11_read_0 : decode cX11_read 0 = .ok (.aload_n 0, 1) := by decide +kernel
theorem dX11_read_1 : decode cX11_read 1 = .ok (.getfield 23, 3) := by decide +kernel
theorem dX11_read_4 : decode cX11_read 4 = .ok (.aload_n 0, 1) := by decide +kernel
theorem dX11_read_5 : decode cX11_read 5 = .ok (.getfield 9, 3) := by decide +kernel
theorem dX11_read_8 : decode cX11_read 8 = .ok (.aload_n 0, 1) := by decide +kernel
theorem dX11_read_9 : decode cX11_read 9 = .ok (.getfield 13, 3) := by decide +kernel
theorem dX11_read_12 : decode cX11_read 12 = .ok (.invokevirtual 91, 3) := by decide +kernel
theorem dX11_read_15 : decode cX11_read 15 = .ok (.istore_n 1, 1) := by decide +kernel
theorem dX11_read_16 : decode cX11_read 16 = .ok (.aload_n 0, 1) := by decide +kernel
theorem dX11_read_17 : decode cX11_read 17 = .ok (.iconst 0, 1) := by decide +kernel
theorem dX11_read_18 : decode cX11_read 18 = .ok (.putfield 13, 3) := by decide +kernel
theorem dX11_read_21 : decode cX11_read 21 = .ok (.aload_n 0, 1) := by decide +kernel
theorem dX11_read_22 : decode cX11_read 22 = .ok (.iload_n 1, 1) := by decide +kernel
theorem dX11_read_23 : decode cX11_read 23 = .ok (.ifCond .ne 7, 3) := by decide +kernel
theorem dX11_read_26 : decode cX11_read 26 = .ok (.iconst (-1), 1) := by decide +kernel
theorem dX11_read_27 : decode cX11_read 27 = .ok (.goto 10, 3) := by decide +kernel
theorem dX11_read_30 : decode cX11_read 30 = .ok (.aload_n 0, 1) := by decide +kernel
theorem dX11_read_31 : decode cX11_read 31 = .ok (.getfield 23, 3) := by decide +kernel
theorem dX11_read_34 : decode cX11_read 34 = .ok (.getfield 95, 3) := by decide +kernel
theorem dX11_read_37 : decode cX11_read 37 = .ok (.putfield 17, 3) := by decide +kernel
theorem dX11_read_40 : decode cX11_read 40 = .ok (.iload_n 1, 1) := by decide +kernel
theorem dX11_read_41 : decode cX11_read 41 = .ok (.ifCond .ne 22, 3) := by decide +kernel
theorem dX11_read_44 : decode cX11_read 44 = .ok (.aload_n 0, 1) := by decide +kernel
theorem dX11_read_45 : decode cX11_read 45 = .ok (.aload_n 0, 1) := by decide +kernel
theorem dX11_read_46 : decode cX11_read 46 = .ok (.getfield 23, 3) := by decide +kernel
theorem dX11_read_49 : decode cX11_read 49 = .ok (.aload_n 0, 1) := by decide +kernel
theorem dX11_read_50 : decode cX11_read 50 = .ok (.getfield 30, 3) := by decide +kernel
theorem dX11_read_53 : decode cX11_read 53 = .ok (.invokevirtual 96, 3) := by decide +kernel
theorem dX11_read_56 : decode cX11_read 56 = .ok (.putfield 30, 3) := by decide +kernel
theorem dX11_read_59 : decode cX11_read 59 = .ok (.aload_n 0, 1) := by decide +kernel
theorem dX11_read_60 : decode cX11_read 60 = .ok (.invokevirtual 67, 3) := by decide +kernel
theorem dX11_read_63 : decode cX11_read 63 = .ok (.iload_n 1, 1) := by decide +kernel
theorem dX11_read_64 : decode cX11_read 64 = .ok (.ireturn, 1) := by decide +kernel
theorem dX11_place_0 : decode cX11_place 0 = .ok (.aload_n 0, 1) := by decide +kernel
theorem dX11_place_1 : decode cX11_place 1 = .ok (.getfield 17, 3) := by decide +kernel
theorem dX11_place_4 : decode cX11_place 4 = .ok (.ireturn, 1) := by decide +kernel
theorem dX11_within_0 : decode cX11_within 0 = .ok (.lload_n 0, 1) := by decide +kernel
theorem dX11_within_1 : decode cX11_within 1 = .ok (.lload_n 2, 1) := by decide +kernel
theorem dX11_within_2 : decode cX11_within 2 = .ok (.lcmp, 1) := by decide +kernel
theorem dX11_within_3 : decode cX11_within 3 = .ok (.ifCond .lt 14, 3) := by decide +kernel
theorem dX11_within_6 : decode cX11_within 6 = .ok (.lload_n 0, 1) := by decide +kernel
theorem dX11_within_7 : decode cX11_within 7 = .ok (.lload 4, 2) := by decide +kernel
theorem dX11_within_9 : decode cX11_within 9 = .ok (.lcmp, 1) := by decide +kernel
theorem dX11_within_10 : decode cX11_within 10 = .ok (.ifCond .gt 7, 3) := by decide +kernel
theorem dX11_within_13 : decode cX11_within 13 = .ok (.iconst 1, 1) := by decide +kernel
theorem dX11_within_14 : decode cX11_within 14 = .ok (.goto 4, 3) := by decide +kernel
theorem dX11_within_17 : decode cX11_within 17 = .ok (.iconst 0, 1) := by decide +kernel
theorem dX11_within_18 : decode cX11_within 18 = .ok (.ireturn, 1) := by decide +kernel
theorem dX11_isRow_0 : decode cX11_isRow 0 = .ok (.iload_n 1, 1) := by decide +kernel
theorem dX11_isRow_1 : decode cX11_isRow 1 = .ok (.ifCond .lt 18, 3) := by decide +kernel
theorem dX11_isRow_4 : decode cX11_isRow 4 = .ok (.iload_n 1, 1) := by decide +kernel
theorem dX11_isRow_5 : decode cX11_isRow 5 = .ok (.aload_n 0, 1) := by decide +kernel
theorem dX11_isRow_6 : decode cX11_isRow 6 = .ok (.getfield 30, 3) := by decide +kernel
theorem dX11_isRow_9 : decode cX11_isRow 9 = .ok (.getfield 100, 3) := by decide +kernel
theorem dX11_isRow_12 : decode cX11_isRow 12 = .ok (.if_icmp .ge 7, 3) := by decide +kernel
theorem dX11_isRow_15 : decode cX11_isRow 15 = .ok (.iconst 1, 1) := by decide +kernel
theorem dX11_isRow_16 : decode cX11_isRow 16 = .ok (.goto 4, 3) := by decide +kernel
theorem dX11_isRow_19 : decode cX11_isRow 19 = .ok (.iconst 0, 1) := by decide +kernel
theorem dX11_isRow_20 : decode cX11_isRow 20 = .ok (.ireturn, 1) := by decide +kernel
set_option maxRecDepth 20000 in
theorem ggX11_areTwoRows_X11_isRow : GoodIn wsX11_areTwoRows wsX11_isRow := goodIn_r _ [5, 6, 7, 8, 9, 10, 11, 12, 13, 14, 15, 16, 17, 18, 19, 20, 21, 22, 23, 24, 25, 26, 27, 28] (by decide +kernel) (by decide +kernel)
set_option maxRecDepth 20000 in
theorem gX11_areTwoRows_X11_isRow : GoodIn wsX11_areTwoRows (wsV RX11 103 RX11 yX11_isRow wsX11_isRow) := goodIn_app (goodIn_of _ (by decide +kernel)) ggX11_areTwoRows_X11_isRow
theorem dX11_areTwoRows_0 : decode cX11_areTwoRows 0 = .ok (.aload_n 0, 1) := by decide +kernel
theorem dX11_areTwoRows_1 : decode cX11_areTwoRows 1 = .ok (.iload_n 1, 1) := by decide +kernel
theorem dX11_areTwoRows_2 : decode cX11_areTwoRows 2 = .ok (.invokevirtual 103, 3) := by decide +kernel
theorem dX11_areTwoRows_5 : decode cX11_areTwoRows 5 = .ok (.ifCond .eq 20, 3) := by decide +kernel
theorem dX11_areTwoRows_8 : decode cX11_areTwoRows 8 = .ok (.aload_n 0, 1) := by decide +kernel
theorem dX11_areTwoRows_9 : decode cX11_areTwoRows 9 = .ok (.iload_n 2, 1) := by decide +kernel
theorem dX11_areTwoRows_10 : decode cX11_areTwoRows 10 = .ok (.invokevirtual 103, 3) := by decide +kernel
theorem dX11_areTwoRows_13 : decode cX11_areTwoRows 13 = .ok (.ifCond .eq 12, 3) := by decide +kernel
theorem dX11_areTwoRows_16 : decode cX11_areTwoRows 16 = .ok (.iload_n 1, 1) := by decide +kernel
theorem dX11_areTwoRows_17 : decode cX11_areTwoRows 17 = .ok (.iload_n 2, 1) := by decide +kernel
theorem dX11_areTwoRows_18 : decode cX11_areTwoRows 18 = .ok (.if_icmp .eq 7, 3) := by decide +kernel
theorem dX11_areTwoRows_21 : decode cX11_areTwoRows 21 = .ok (.iconst 1, 1) := by decide +kernel
theorem dX11_areTwoRows_22 : decode cX11_areTwoRows 22 = .ok (.goto 4, 3) := by decide +kernel
theorem dX11_areTwoRows_25 : decode cX11_areTwoRows 25 = .ok (.iconst 0, 1) := by decide +kernel
theorem dX11_areTwoRows_26 : decode cX11_areTwoRows 26 = .ok (.ireturn, 1) := by decide +kernel
set_option maxRecDepth 20000 in
theorem ggX11_row_X11_isRow : GoodIn wsX11_row wsX11_isRow := goodIn_r _ [7, 1, 8, 17, 18, 19, 20, 21, 22, 23, 24, 25, 26, 27, 28, 29, 30, 31, 32, 33, 34, 35, 36, 37] (by decide +kernel) (by decide +kernel)
set_option maxRecDepth 20000 in
theorem gX11_row_X11_isRow : GoodIn wsX11_row (wsV RX11 103 RX11 yX11_isRow wsX11_isRow) := goodIn_app (goodIn_of _ (by decide +kernel)) ggX11_row_X11_isRow
set_option maxRecDepth 20000 in
theorem ggX11_row_X7_numberAt : GoodIn wsX11_row wsX7_numberAt := goodIn_r _ [13, 14, 15, 16, 28, 29, 30, 31, 32, 33, 34, 35, 36, 37] (by decide +kernel) (by decide +kernel)
set_option maxRecDepth 20000 in
theorem gX11_row_X7_numberAt : GoodIn wsX11_row (wsV RX11 111 RX7 yX7_numberAt wsX7_numberAt) := goodIn_app (goodIn_of _ (by decide +kernel)) ggX11_row_X7_numberAt
theorem dX11_row_0 : decode cX11_row 0 = .ok (.aload_n 0, 1) := by decide +kernel
theorem dX11_row_1 : decode cX11_row 1 = .ok (.iload_n 1, 1) := by decide +kernel
theorem dX11_row_2 : decode cX11_row 2 = .ok (.invokevirtual 103, 3) := by decide +kernel
theorem dX11_row_5 : decode cX11_row 5 = .ok (.ifCond .ne 7, 3) := by decide +kernel
theorem dX11_row_8 : decode cX11_row 8 = .ok (.sipush (-1000), 3) := by decide +kernel
theorem dX11_row_11 : decode cX11_row 11 = .ok (.ireturn, 1) := by decide +kernel
theorem dX11_row_12 : decode cX11_row 12 = .ok (.aload_n 0, 1) := by decide +kernel
theorem dX11_row_13 : decode cX11_row 13 = .ok (.getfield 30, 3) := by decide +kernel
theorem dX11_row_16 : decode cX11_row 16 = .ok (.getfield 107, 3) := by decide +kernel
theorem dX11_row_19 : decode cX11_row 19 = .ok (.iload_n 1, 1) := by decide +kernel
theorem dX11_row_20 : decode cX11_row 20 = .ok (.iaload, 1) := by decide +kernel
theorem dX11_row_21 : decode cX11_row 21 = .ok (.istore_n 3, 1) := by decide +kernel
theorem dX11_row_22 : decode cX11_row 22 = .ok (.iload_n 2, 1) := by decide +kernel
theorem dX11_row_23 : decode cX11_row 23 = .ok (.iconst (-1), 1) := by decide +kernel
theorem dX11_row_24 : decode cX11_row 24 = .ok (.if_icmp .ne 5, 3) := by decide +kernel
theorem dX11_row_27 : decode cX11_row 27 = .ok (.iload_n 3, 1) := by decide +kernel
theorem dX11_row_28 : decode cX11_row 28 = .ok (.ireturn, 1) := by decide +kernel
theorem dX11_row_29 : decode cX11_row 29 = .ok (.iload_n 2, 1) := by decide +kernel
theorem dX11_row_30 : decode cX11_row 30 = .ok (.ifCond .lt 20, 3) := by decide +kernel
theorem dX11_row_33 : decode cX11_row 33 = .ok (.iload_n 2, 1) := by decide +kernel
theorem dX11_row_34 : decode cX11_row 34 = .ok (.iload_n 3, 1) := by decide +kernel
theorem dX11_row_35 : decode cX11_row 35 = .ok (.if_icmp .ge 15, 3) := by decide +kernel
theorem dX11_row_38 : decode cX11_row 38 = .ok (.aload_n 0, 1) := by decide +kernel
theorem dX11_row_39 : decode cX11_row 39 = .ok (.getfield 30, 3) := by decide +kernel
theorem dX11_row_42 : decode cX11_row 42 = .ok (.iload_n 1, 1) := by decide +kernel
theorem dX11_row_43 : decode cX11_row 43 = .ok (.iload_n 2, 1) := by decide +kernel
theorem dX11_row_44 : decode cX11_row 44 = .ok (.invokevirtual 111, 3) := by decide +kernel
theorem dX11_row_47 : decode cX11_row 47 = .ok (.goto 6, 3) := by decide +kernel
theorem dX11_row_50 : decode cX11_row 50 = .ok (.sipush (-1000), 3) := by decide +kernel
theorem dX11_row_53 : decode cX11_row 53 = .ok (.ireturn, 1) := by decide +kernel
set_option maxRecDepth 20000 in
theorem ggX11_comes_X11_isRow : GoodIn wsX11_comes wsX11_isRow := goodIn_r _ [9, 4, 10, 26, 27, 28, 29, 30, 31, 32, 33, 34, 35, 36, 37, 38, 39, 40, 41, 42, 43, 44, 45, 46] (by decide +kernel) (by decide +kernel)
set_option maxRecDepth 20000 in
theorem gX11_comes_X11_isRow : GoodIn wsX11_comes (wsV RX11 103 RX11 yX11_isRow wsX11_isRow) := goodIn_app (goodIn_of _ (by decide +kernel)) ggX11_comes_X11_isRow
set_option maxRecDepth 20000 in
theorem ggX11_comes_X11_within : GoodIn wsX11_comes wsX11_within := goodIn_r _ [13] (by decide +kernel) (by decide +kernel)
set_option maxRecDepth 20000 in
theorem gX11_comes_X11_within : GoodIn wsX11_comes (va_wsS RX11 119 yX11_within wsX11_within) := goodIn_app (goodIn_of _ (by decide +kernel)) ggX11_comes_X11_within
set_option maxRecDepth 20000 in
theorem ggX11_comes_X7_comesTo : GoodIn wsX11_comes wsX7_comesTo := goodIn_r _ [18, 19, 20, 21, 17, 22, 23, 24, 25, 37, 38, 39, 40, 41, 42, 43, 44, 45, 46] (by decide +kernel) (by decide +kernel)
set_option maxRecDepth 20000 in
theorem gX11_comes_X7_comesTo : GoodIn wsX11_comes (wsV RX11 125 RX7 yX7_comesTo wsX7_comesTo) := goodIn_app (goodIn_of _ (by decide +kernel)) ggX11_comes_X7_comesTo
theorem dX11_comes_0 : decode cX11_comes 0 = .ok (.aload_n 0, 1) := by decide +kernel
theorem dX11_comes_1 : decode cX11_comes 1 = .ok (.iload_n 1, 1) := by decide +kernel
theorem dX11_comes_2 : decode cX11_comes 2 = .ok (.invokevirtual 103, 3) := by decide +kernel
theorem dX11_comes_5 : decode cX11_comes 5 = .ok (.ifCond .eq 17, 3) := by decide +kernel
theorem dX11_comes_8 : decode cX11_comes 8 = .ok (.iload_n 2, 1) := by decide +kernel
theorem dX11_comes_9 : decode cX11_comes 9 = .ok (.i2l, 1) := by decide +kernel
theorem dX11_comes_10 : decode cX11_comes 10 = .ok (.ldc2_w 115, 3) := by decide +kernel
theorem dX11_comes_13 : decode cX11_comes 13 = .ok (.ldc2_w 117, 3) := by decide +kernel
theorem dX11_comes_16 : decode cX11_comes 16 = .ok (.invokestatic 119, 3) := by decide +kernel
theorem dX11_comes_19 : decode cX11_comes 19 = .ok (.ifCond .ne 7, 3) := by decide +kernel
theorem dX11_comes_22 : decode cX11_comes 22 = .ok (.ldc2_w 123, 3) := by decide +kernel
theorem dX11_comes_25 : decode cX11_comes 25 = .ok (.lreturn, 1) := by decide +kernel
theorem dX11_comes_26 : decode cX11_comes 26 = .ok (.aload_n 0, 1) := by decide +kernel
theorem dX11_comes_27 : decode cX11_comes 27 = .ok (.getfield 30, 3) := by decide +kernel
theorem dX11_comes_30 : decode cX11_comes 30 = .ok (.iload_n 1, 1) := by decide +kernel
theorem dX11_comes_31 : decode cX11_comes 31 = .ok (.iload_n 2, 1) := by decide +kernel
theorem dX11_comes_32 : decode cX11_comes 32 = .ok (.i2l, 1) := by decide +kernel
theorem dX11_comes_33 : decode cX11_comes 33 = .ok (.invokevirtual 125, 3) := by decide +kernel
theorem dX11_comes_36 : decode cX11_comes 36 = .ok (.lreturn, 1) := by decide +kernel
set_option maxRecDepth 20000 in
theorem ggX11_two_X11_isRow : GoodIn wsX11_two wsX11_isRow := goodIn_r _ [9, 3, 10, 38, 39, 40, 41, 42, 43, 44, 45, 46, 47, 48, 49, 50, 51, 52, 53, 54, 55, 56, 57, 58] (by decide +kernel) (by decide +kernel)
set_option maxRecDepth 20000 in
theorem gX11_two_X11_isRow : GoodIn wsX11_two (wsV RX11 103 RX11 yX11_isRow wsX11_isRow) := goodIn_app (goodIn_of _ (by decide +kernel)) ggX11_two_X11_isRow
set_option maxRecDepth 20000 in
theorem ggX11_two_X11_within : GoodIn wsX11_two wsX11_within := goodIn_r _ [13] (by decide +kernel) (by decide +kernel)
set_option maxRecDepth 20000 in
theorem gX11_two_X11_within : GoodIn wsX11_two (va_wsS RX11 119 yX11_within wsX11_within) := goodIn_app (goodIn_of _ (by decide +kernel)) ggX11_two_X11_within
set_option maxRecDepth 20000 in
theorem ggX11_two_X7_isSomeBelowZero : GoodIn wsX11_two wsX7_isSomeBelowZero := goodIn_r _ [18, 19, 20, 21, 17, 22, 23, 24, 25, 49, 50, 51, 52, 53, 54, 55, 56, 57, 58] (by decide +kernel) (by decide +kernel)
set_option maxRecDepth 20000 in
theorem gX11_two_X7_isSomeBelowZero : GoodIn wsX11_two (wsV RX11 133 RX7 yX7_isSomeBelowZero wsX7_isSomeBelowZero) := goodIn_app (goodIn_of _ (by decide +kernel)) ggX11_two_X7_isSomeBelowZero
set_option maxRecDepth 20000 in
theorem ggX11_two_X7_comesTo : GoodIn wsX11_two wsX7_comesTo := goodIn_r _ [29, 19, 20, 21, 17, 22, 23, 24, 25, 49, 50, 51, 52, 53, 54, 55, 56, 57, 58] (by decide +kernel) (by decide +kernel)
set_option maxRecDepth 20000 in
theorem gX11_two_X7_comesTo : GoodIn wsX11_two (wsV RX11 125 RX7 yX7_comesTo wsX7_comesTo) := goodIn_app (goodIn_of _ (by decide +kernel)) ggX11_two_X7_comesTo
set_option maxRecDepth 20000 in
theorem ggX11_two_X11_figuresOf : GoodIn wsX11_two wsX11_figuresOf := goodIn_r _ [32, 33, 34, 35, 36, 37] (by decide +kernel) (by decide +kernel)
set_option maxRecDepth 20000 in
theorem gX11_two_X11_figuresOf : GoodIn wsX11_two (va_wsS RX11 138 yX11_figuresOf wsX11_figuresOf) := goodIn_app (goodIn_of _ (by decide +kernel)) ggX11_two_X11_figuresOf
theorem dX11_two_0 : decode cX11_two 0 = .ok (.aload_n 0, 1) := by decide +kernel
theorem dX11_two_1 : decode cX11_two 1 = .ok (.iload_n 1, 1) := by decide +kernel
theorem dX11_two_2 : decode cX11_two 2 = .ok (.invokevirtual 103, 3) := by decide +kernel
theorem dX11_two_5 : decode cX11_two 5 = .ok (.ifCond .eq 15, 3) := by decide +kernel
theorem dX11_two_8 : decode cX11_two 8 = .ok (.iload_n 2, 1) := by decide +kernel
theorem dX11_two_9 : decode cX11_two 9 = .ok (.i2l, 1) := by decide +kernel
theorem dX11_two_10 : decode cX11_two 10 = .ok (.lconst 0, 1) := by decide +kernel
theorem dX11_two_11 : decode cX11_two 11 = .ok (.ldc2_w 129, 3) := by decide +kernel
theorem dX11_two_14 : decode cX11_two 14 = .ok (.invokestatic 119, 3) := by decide +kernel
theorem dX11_two_17 : decode cX11_two 17 = .ok (.ifCond .ne 7, 3) := by decide +kernel
theorem dX11_two_20 : decode cX11_two 20 = .ok (.ldc2_w 131, 3) := by decide +kernel
theorem dX11_two_23 : decode cX11_two 23 = .ok (.lreturn, 1) := by decide +kernel
theorem dX11_two_24 : decode cX11_two 24 = .ok (.aload_n 0, 1) := by decide +kernel
theorem dX11_two_25 : decode cX11_two 25 = .ok (.getfield 30, 3) := by decide +kernel
theorem dX11_two_28 : decode cX11_two 28 = .ok (.iload_n 1, 1) := by decide +kernel
theorem dX11_two_29 : decode cX11_two 29 = .ok (.invokevirtual 133, 3) := by decide +kernel
theorem dX11_two_32 : decode cX11_two 32 = .ok (.ifCond .eq 7, 3) := by decide +kernel
theorem dX11_two_35 : decode cX11_two 35 = .ok (.ldc2_w 136, 3) := by decide +kernel
theorem dX11_two_38 : decode cX11_two 38 = .ok (.lreturn, 1) := by decide +kernel
theorem dX11_two_39 : decode cX11_two 39 = .ok (.aload_n 0, 1) := by decide +kernel
theorem dX11_two_40 : decode cX11_two 40 = .ok (.getfield 30, 3) := by decide +kernel
theorem dX11_two_43 : decode cX11_two 43 = .ok (.iload_n 1, 1) := by decide +kernel
theorem dX11_two_44 : decode cX11_two 44 = .ok (.lconst 1, 1) := by decide +kernel
theorem dX11_two_45 : decode cX11_two 45 = .ok (.invokevirtual 125, 3) := by decide +kernel
theorem dX11_two_48 : decode cX11_two 48 = .ok (.lstore_n 3, 1) := by decide +kernel
theorem dX11_two_49 : decode cX11_two 49 = .ok (.iload_n 2, 1) := by decide +kernel
theorem dX11_two_50 : decode cX11_two 50 = .ok (.tableswitch 44 0 2 #[26, 28, 32], 26) := by decide +kernel
theorem dX11_two_76 : decode cX11_two 76 = .ok (.lload_n 3, 1) := by decide +kernel
theorem dX11_two_77 : decode cX11_two 77 = .ok (.lreturn, 1) := by decide +kernel
theorem dX11_two_78 : decode cX11_two 78 = .ok (.lload_n 3, 1) := by decide +kernel
theorem dX11_two_79 : decode cX11_two 79 = .ok (.lconst 1, 1) := by decide +kernel
theorem dX11_two_80 : decode cX11_two 80 = .ok (.ladd, 1) := by decide +kernel
theorem dX11_two_81 : decode cX11_two 81 = .ok (.lreturn, 1) := by decide +kernel
theorem dX11_two_82 : decode cX11_two 82 = .ok (.aload_n 0, 1) := by decide +kernel
theorem dX11_two_83 : decode cX11_two 83 = .ok (.getfield 30, 3) := by decide +kernel
theorem dX11_two_86 : decode cX11_two 86 = .ok (.iload_n 1, 1) := by decide +kernel
theorem dX11_two_87 : decode cX11_two 87 = .ok (.lload_n 3, 1) := by decide +kernel
theorem dX11_two_88 : decode cX11_two 88 = .ok (.lconst 1, 1) := by decide +kernel
theorem dX11_two_89 : decode cX11_two 89 = .ok (.ladd, 1) := by decide +kernel
theorem dX11_two_90 : decode cX11_two 90 = .ok (.invokevirtual 125, 3) := by decide +kernel
theorem dX11_two_93 : decode cX11_two 93 = .ok (.lreturn, 1) := by decide +kernel
theorem dX11_two_94 : decode cX11_two 94 = .ok (.lconst 1, 1) := by decide +kernel
theorem dX11_two_95 : decode cX11_two 95 = .ok (.invokestatic 138, 3) := by decide +kernel
theorem dX11_two_98 : decode cX11_two 98 = .ok (.lload_n 3, 1) := by decide +kernel
theorem dX11_two_99 : decode cX11_two 99 = .ok (.lconst 1, 1) := by decide +kernel
theorem dX11_two_100 : decode cX11_two 100 = .ok (.ladd, 1) := by decide +kernel
theorem dX11_two_101 : decode cX11_two 101 = .ok (.invokestatic 138, 3) := by decide +kernel
theorem dX11_two_104 : decode cX11_two 104 = .ok (.iadd, 1) := by decide +kernel
theorem dX11_two_105 : decode cX11_two 105 = .ok (.i2l, 1) := by decide +kernel
theorem dX11_two_106 : decode cX11_two 106 = .ok (.lreturn, 1) := by decide +kernel
theorem dX11_figuresOf_0 : decode cX11_figuresOf 0 = .ok (.lload_n 0, 1) := by decide +kernel
theorem dX11_figuresOf_1 : decode cX11_figuresOf 1 = .ok (.lconst 0, 1) := by decide +kernel
theorem dX11_figuresOf_2 : decode cX11_figuresOf 2 = .ok (.lcmp, 1) := by decide +kernel
theorem dX11_figuresOf_3 : decode cX11_figuresOf 3 = .ok (.ifCond .ge 7, 3) := by decide +kernel
theorem dX11_figuresOf_6 : decode cX11_figuresOf 6 = .ok (.iconst 2, 1) := by decide +kernel
theorem dX11_figuresOf_7 : decode cX11_figuresOf 7 = .ok (.goto 4, 3) := by decide +kernel
theorem dX11_figuresOf_10 : decode cX11_figuresOf 10 = .ok (.iconst 1, 1) := by decide +kernel
theorem dX11_figuresOf_11 : decode cX11_figuresOf 11 = .ok (.istore_n 2, 1) := by decide +kernel
theorem dX11_figuresOf_12 : decode cX11_figuresOf 12 = .ok (.lload_n 0, 1) := by decide +kernel
theorem dX11_figuresOf_13 : decode cX11_figuresOf 13 = .ok (.invokestatic 142, 3) := by decide +kernel
theorem dX11_figuresOf_16 : decode cX11_figuresOf 16 = .ok (.ldc2_w 148, 3) := by decide +kernel
theorem dX11_figuresOf_19 : decode cX11_figuresOf 19 = .ok (.ldiv, 1) := by decide +kernel
theorem dX11_figuresOf_20 : decode cX11_figuresOf 20 = .ok (.lstore_n 3, 1) := by decide +kernel
theorem dX11_figuresOf_21 : decode cX11_figuresOf 21 = .ok (.lload_n 3, 1) := by decide +kernel
theorem dX11_figuresOf_22 : decode cX11_figuresOf 22 = .ok (.lconst 0, 1) := by decide +kernel
theorem dX11_figuresOf_23 : decode cX11_figuresOf 23 = .ok (.lcmp, 1) := by decide +kernel
theorem dX11_figuresOf_24 : decode cX11_figuresOf 24 = .ok (.ifCond .le 15, 3) := by decide +kernel
theorem dX11_figuresOf_27 : decode cX11_figuresOf 27 = .ok (.iinc 2 1, 3) := by decide +kernel
theorem dX11_figuresOf_30 : decode cX11_figuresOf 30 = .ok (.lload_n 3, 1) := by decide +kernel
theorem dX11_figuresOf_31 : decode cX11_figuresOf 31 = .ok (.ldc2_w 148, 3) := by decide +kernel
theorem dX11_figuresOf_34 : decode cX11_figuresOf 34 = .ok (.ldiv, 1) := by decide +kernel
theorem dX11_figuresOf_35 : decode cX11_figuresOf 35 = .ok (.lstore_n 3, 1) := by decide +kernel
theorem dX11_figuresOf_36 : decode cX11_figuresOf 36 = .ok (.goto (-15), 3) := by decide +kernel
theorem dX11_figuresOf_39 : decode cX11_figuresOf 39 = .ok (.iload_n 2, 1) := by decide +kernel
theorem dX11_figuresOf_40 : decode cX11_figuresOf 40 = .ok (.ireturn, 1) := by decide +kernel
set_option maxRecDepth 20000 in
theorem ggX11_figure_X11_within : GoodIn wsX11_figure wsX11_within := goodIn_r _ [8] (by decide +kernel) (by decide +kernel)
set_option maxRecDepth 20000 in
theorem gX11_figure_X11_within : GoodIn wsX11_figure (va_wsS RX11 119 yX11_within wsX11_within) := goodIn_app (goodIn_of _ (by decide +kernel)) ggX11_figure_X11_within
theorem dX11_figure_0 : decode cX11_figure 0 = .ok (.lload_n 1, 1) := by decide +kernel
theorem dX11_figure_1 : decode cX11_figure 1 = .ok (.lconst 0, 1) := by decide +kernel
theorem dX11_figure_2 : decode cX11_figure 2 = .ok (.ldc2_w 150, 3) := by decide +kernel
theorem dX11_figure_5 : decode cX11_figure 5 = .ok (.invokestatic 119, 3) := by decide +kernel
theorem dX11_figure_8 : decode cX11_figure 8 = .ok (.ifCond .eq 30, 3) := by decide +kernel
theorem dX11_figure_11 : decode cX11_figure 11 = .ok (.iload_n 3, 1) := by decide +kernel
theorem dX11_figure_12 : decode cX11_figure 12 = .ok (.i2l, 1) := by decide +kernel
theorem dX11_figure_13 : decode cX11_figure 13 = .ok (.ldc2_w 152, 3) := by decide +kernel
theorem dX11_figure_16 : decode cX11_figure 16 = .ok (.ldc2_w 154, 3) := by decide +kernel
theorem dX11_figure_19 : decode cX11_figure 19 = .ok (.invokestatic 119, 3) := by decide +kernel
theorem dX11_figure_22 : decode cX11_figure 22 = .ok (.ifCond .eq 16, 3) := by decide +kernel
theorem dX11_figure_25 : decode cX11_figure 25 = .ok (.iload 4, 2) := by decide +kernel
theorem dX11_figure_27 : decode cX11_figure 27 = .ok (.i2l, 1) := by decide +kernel
theorem dX11_figure_28 : decode cX11_figure 28 = .ok (.lconst 0, 1) := by decide +kernel
theorem dX11_figure_29 : decode cX11_figure 29 = .ok (.ldc2_w 156, 3) := by decide +kernel
theorem dX11_figure_32 : decode cX11_figure 32 = .ok (.invokestatic 119, 3) := by decide +kernel
theorem dX11_figure_35 : decode cX11_figure 35 = .ok (.ifCond .ne 5, 3) := by decide +kernel
theorem dX11_figure_38 : decode cX11_figure 38 = .ok (.iconst (-1), 1) := by decide +kernel
theorem dX11_figure_39 : decode cX11_figure 39 = .ok (.ireturn, 1) := by decide +kernel
theorem dX11_figure_40 : decode cX11_figure 40 = .ok (.iconst 1, 1) := by decide +kernel
theorem dX11_figure_41 : decode cX11_figure 41 = .ok (.istore 5, 2) := by decide +kernel
theorem dX11_figure_43 : decode cX11_figure 43 = .ok (.iconst 0, 1) := by decide +kernel
theorem dX11_figure_44 : decode cX11_figure 44 = .ok (.istore 6, 2) := by decide +kernel
theorem dX11_figure_46 : decode cX11_figure 46 = .ok (.lload_n 1, 1) := by decide +kernel
theorem dX11_figure_47 : decode cX11_figure 47 = .ok (.lstore 7, 2) := by decide +kernel
theorem dX11_figure_49 : decode cX11_figure 49 = .ok (.iconst 0, 1) := by decide +kernel
theorem dX11_figure_50 : decode cX11_figure 50 = .ok (.istore 9, 2) := by decide +kernel
theorem dX11_figure_52 : decode cX11_figure 52 = .ok (.iload 9, 2) := by decide +kernel
theorem dX11_figure_54 : decode cX11_figure 54 = .ok (.bipush 6, 2) := by decide +kernel
theorem dX11_figure_56 : decode cX11_figure 56 = .ok (.if_icmp .ge 44, 3) := by decide +kernel
theorem dX11_figure_59 : decode cX11_figure 59 = .ok (.lload 7, 2) := by decide +kernel
theorem dX11_figure_61 : decode cX11_figure 61 = .ok (.lconst 0, 1) := by decide +kernel
theorem dX11_figure_62 : decode cX11_figure 62 = .ok (.lcmp, 1) := by decide +kernel
theorem dX11_figure_63 : decode cX11_figure 63 = .ok (.ifCond .le 9, 3) := by decide +kernel
theorem dX11_figure_66 : decode cX11_figure 66 = .ok (.iload 9, 2) := by decide +kernel
theorem dX11_figure_68 : decode cX11_figure 68 = .ok (.iconst 1, 1) := by decide +kernel
theorem dX11_figure_69 : decode cX11_figure 69 = .ok (.iadd, 1) := by decide +kernel
theorem dX11_figure_70 : decode cX11_figure 70 = .ok (.istore 5, 2) := by decide +kernel
theorem dX11_figure_72 : decode cX11_figure 72 = .ok (.iload 9, 2) := by decide +kernel
theorem dX11_figure_74 : decode cX11_figure 74 = .ok (.iload 4, 2) := by decide +kernel
theorem dX11_figure_76 : decode cX11_figure 76 = .ok (.if_icmp .ne 11, 3) := by decide +kernel
theorem dX11_figure_79 : decode cX11_figure 79 = .ok (.lload 7, 2) := by decide +kernel
theorem dX11_figure_81 : decode cX11_figure 81 = .ok (.iload_n 3, 1) := by decide +kernel
theorem dX11_figure_82 : decode cX11_figure 82 = .ok (.i2l, 1) := by decide +kernel
theorem dX11_figure_83 : decode cX11_figure 83 = .ok (.lrem, 1) := by decide +kernel
theorem dX11_figure_84 : decode cX11_figure 84 = .ok (.l2i, 1) := by decide +kernel
theorem dX11_figure_85 : decode cX11_figure 85 = .ok (.istore 6, 2) := by decide +kernel
theorem dX11_figure_87 : decode cX11_figure 87 = .ok (.lload 7, 2) := by decide +kernel
theorem dX11_figure_89 : decode cX11_figure 89 = .ok (.iload_n 3, 1) := by decide +kernel
theorem dX11_figure_90 : decode cX11_figure 90 = .ok (.i2l, 1) := by decide +kernel
theorem dX11_figure_91 : decode cX11_figure 91 = .ok (.ldiv, 1) := by decide +kernel
theorem dX11_figure_92 : decode cX11_figure 92 = .ok (.lstore 7, 2) := by decide +kernel
theorem dX11_figure_94 : decode cX11_figure 94 = .ok (.iinc 9 1, 3) := by decide +kernel
theorem dX11_figure_97 : decode cX11_figure 97 = .ok (.goto (-45), 3) := by decide +kernel
theorem dX11_figure_100 : decode cX11_figure 100 = .ok (.lload 7, 2) := by decide +kernel
theorem dX11_figure_102 : decode cX11_figure 102 = .ok (.lconst 0, 1) := by decide +kernel
theorem dX11_figure_103 : decode cX11_figure 103 = .ok (.lcmp, 1) := by decide +kernel
theorem dX11_figure_104 : decode cX11_figure 104 = .ok (.ifCond .le 6, 3) := by decide +kernel
theorem dX11_figure_107 : decode cX11_figure 107 = .ok (.bipush (-2), 2) := by decide +kernel
theorem dX11_figure_109 : decode cX11_figure 109 = .ok (.ireturn, 1) := by decide +kernel
theorem dX11_figure_110 : decode cX11_figure 110 = .ok (.iload 4, 2) := by decide +kernel
theorem dX11_figure_112 : decode cX11_figure 112 = .ok (.bipush 6, 2) := by decide +kernel
theorem dX11_figure_114 : decode cX11_figure 114 = .ok (.if_icmp .ne 8, 3) := by decide +kernel
theorem dX11_figure_117 : decode cX11_figure 117 = .ok (.iload 5, 2) := by decide +kernel
theorem dX11_figure_119 : decode cX11_figure 119 = .ok (.goto 5, 3) := by decide +kernel
theorem dX11_figure_122 : decode cX11_figure 122 = .ok (.iload 6, 2) := by decide +kernel
theorem dX11_figure_124 : decode cX11_figure 124 = .ok (.ireturn, 1) := by decide +kernel
set_option maxRecDepth 20000 in
theorem ggX11_meets_X11_areTwoRows : GoodIn wsX11_meets wsX11_areTwoRows := goodIn_r _ [6, 7, 8, 9, 5, 10, 1, 11, 24, 25, 26, 27, 28, 29, 30, 31, 32, 33, 34, 35, 36, 37, 38, 39, 40, 41, 42, 43, 44] (by decide +kernel) (by decide +kernel)
set_option maxRecDepth 20000 in
theorem gX11_meets_X11_areTwoRows : GoodIn wsX11_meets (wsV RX11 158 RX11 yX11_areTwoRows wsX11_areTwoRows) := goodIn_app (goodIn_of _ (by decide +kernel)) ggX11_meets_X11_areTwoRows
set_option maxRecDepth 20000 in
theorem ggX11_meets_X7_comesTo : GoodIn wsX11_meets wsX7_comesTo := goodIn_r _ [16, 17, 18, 19, 15, 20, 21, 22, 23, 35, 36, 37, 38, 39, 40, 41, 42, 43, 44] (by decide +kernel) (by decide +kernel)
set_option maxRecDepth 20000 in
theorem gX11_meets_X7_comesTo : GoodIn wsX11_meets (wsV RX11 125 RX7 yX7_comesTo wsX7_comesTo) := goodIn_app (goodIn_of _ (by decide +kernel)) ggX11_meets_X7_comesTo
theorem dX11_meets_0 : decode cX11_meets 0 = .ok (.aload_n 0, 1) := by decide +kernel
theorem dX11_meets_1 : decode cX11_meets 1 = .ok (.iload_n 1, 1) := by decide +kernel
theorem dX11_meets_2 : decode cX11_meets 2 = .ok (.iload_n 2, 1) := by decide +kernel
theorem dX11_meets_3 : decode cX11_meets 3 = .ok (.invokevirtual 158, 3) := by decide +kernel
theorem dX11_meets_6 : decode cX11_meets 6 = .ok (.ifCond .ne 5, 3) := by decide +kernel
theorem dX11_meets_9 : decode cX11_meets 9 = .ok (.iconst (-1), 1) := by decide +kernel
theorem dX11_meets_10 : decode cX11_meets 10 = .ok (.ireturn, 1) := by decide +kernel
theorem dX11_meets_11 : decode cX11_meets 11 = .ok (.iconst 0, 1) := by decide +kernel
theorem dX11_meets_12 : decode cX11_meets 12 = .ok (.istore_n 3, 1) := by decide +kernel
theorem dX11_meets_13 : decode cX11_meets 13 = .ok (.iload_n 3, 1) := by decide +kernel
theorem dX11_meets_14 : decode cX11_meets 14 = .ok (.sipush 999, 3) := by decide +kernel
theorem dX11_meets_17 : decode cX11_meets 17 = .ok (.if_icmp .gt 35, 3) := by decide +kernel
theorem dX11_meets_20 : decode cX11_meets 20 = .ok (.aload_n 0, 1) := by decide +kernel
theorem dX11_meets_21 : decode cX11_meets 21 = .ok (.getfield 30, 3) := by decide +kernel
theorem dX11_meets_24 : decode cX11_meets 24 = .ok (.iload_n 1, 1) := by decide +kernel
theorem dX11_meets_25 : decode cX11_meets 25 = .ok (.iload_n 3, 1) := by decide +kernel
theorem dX11_meets_26 : decode cX11_meets 26 = .ok (.i2l, 1) := by decide +kernel
theorem dX11_meets_27 : decode cX11_meets 27 = .ok (.invokevirtual 125, 3) := by decide +kernel
theorem dX11_meets_30 : decode cX11_meets 30 = .ok (.aload_n 0, 1) := by decide +kernel
theorem dX11_meets_31 : decode cX11_meets 31 = .ok (.getfield 30, 3) := by decide +kernel
theorem dX11_meets_34 : decode cX11_meets 34 = .ok (.iload_n 2, 1) := by decide +kernel
theorem dX11_meets_35 : decode cX11_meets 35 = .ok (.iload_n 3, 1) := by decide +kernel
theorem dX11_meets_36 : decode cX11_meets 36 = .ok (.i2l, 1) := by decide +kernel
theorem dX11_meets_37 : decode cX11_meets 37 = .ok (.invokevirtual 125, 3) := by decide +kernel
theorem dX11_meets_40 : decode cX11_meets 40 = .ok (.lcmp, 1) := by decide +kernel
theorem dX11_meets_41 : decode cX11_meets 41 = .ok (.ifCond .ne 5, 3) := by decide +kernel
theorem dX11_meets_44 : decode cX11_meets 44 = .ok (.iload_n 3, 1) := by decide +kernel
theorem dX11_meets_45 : decode cX11_meets 45 = .ok (.ireturn, 1) := by decide +kernel
theorem dX11_meets_46 : decode cX11_meets 46 = .ok (.iinc 3 1, 3) := by decide +kernel
theorem dX11_meets_49 : decode cX11_meets 49 = .ok (.goto (-36), 3) := by decide +kernel
theorem dX11_meets_52 : decode cX11_meets 52 = .ok (.bipush (-2), 2) := by decide +kernel
theorem dX11_meets_54 : decode cX11_meets 54 = .ok (.ireturn, 1) := by decide +kernel
set_option maxRecDepth 20000 in
theorem ggX11_degree_X11_isRow : GoodIn wsX11_degree wsX11_isRow := goodIn_r _ [7, 1, 8, 17, 18, 19, 20, 21, 22, 23, 24, 25, 26, 27, 28, 29, 30, 31, 32, 33, 34, 35, 36, 37] (by decide +kernel) (by decide +kernel)
set_option maxRecDepth 20000 in
theorem gX11_degree_X11_isRow : GoodIn wsX11_degree (wsV RX11 103 RX11 yX11_isRow wsX11_isRow) := goodIn_app (goodIn_of _ (by decide +kernel)) ggX11_degree_X11_isRow
set_option maxRecDepth 20000 in
theorem ggX11_degree_X7_numberAt : GoodIn wsX11_degree wsX7_numberAt := goodIn_r _ [13, 14, 15, 16, 28, 29, 30, 31, 32, 33, 34, 35, 36, 37] (by decide +kernel) (by decide +kernel)
set_option maxRecDepth 20000 in
theorem gX11_degree_X7_numberAt : GoodIn wsX11_degree (wsV RX11 111 RX7 yX7_numberAt wsX7_numberAt) := goodIn_app (goodIn_of _ (by decide +kernel)) ggX11_degree_X7_numberAt
theorem dX11_degree_0 : decode cX11_degree 0 = .ok (.aload_n 0, 1) := by decide +kernel
theorem dX11_degree_1 : decode cX11_degree 1 = .ok (.iload_n 1, 1) := by decide +kernel
theorem dX11_degree_2 : decode cX11_degree 2 = .ok (.invokevirtual 103, 3) := by decide +kernel
theorem dX11_degree_5 : decode cX11_degree 5 = .ok (.ifCond .ne 5, 3) := by decide +kernel
theorem dX11_degree_8 : decode cX11_degree 8 = .ok (.iconst (-1), 1) := by decide +kernel
theorem dX11_degree_9 : decode cX11_degree 9 = .ok (.ireturn, 1) := by decide +kernel
theorem dX11_degree_10 : decode cX11_degree 10 = .ok (.aload_n 0, 1) := by decide +kernel
theorem dX11_degree_11 : decode cX11_degree 11 = .ok (.getfield 30, 3) := by decide +kernel
theorem dX11_degree_14 : decode cX11_degree 14 = .ok (.getfield 107, 3) := by decide +kernel
theorem dX11_degree_17 : decode cX11_degree 17 = .ok (.iload_n 1, 1) := by decide +kernel
theorem dX11_degree_18 : decode cX11_degree 18 = .ok (.iaload, 1) := by decide +kernel
theorem dX11_degree_19 : decode cX11_degree 19 = .ok (.iconst 1, 1) := by decide +kernel
theorem dX11_degree_20 : decode cX11_degree 20 = .ok (.isub, 1) := by decide +kernel
theorem dX11_degree_21 : decode cX11_degree 21 = .ok (.istore_n 2, 1) := by decide +kernel
theorem dX11_degree_22 : decode cX11_degree 22 = .ok (.iload_n 2, 1) := by decide +kernel
theorem dX11_degree_23 : decode cX11_degree 23 = .ok (.ifCond .lt 23, 3) := by decide +kernel
theorem dX11_degree_26 : decode cX11_degree 26 = .ok (.aload_n 0, 1) := by decide +kernel
theorem dX11_degree_27 : decode cX11_degree 27 = .ok (.getfield 30, 3) := by decide +kernel
theorem dX11_degree_30 : decode cX11_degree 30 = .ok (.iload_n 1, 1) := by decide +kernel
theorem dX11_degree_31 : decode cX11_degree 31 = .ok (.iload_n 2, 1) := by decide +kernel
theorem dX11_degree_32 : decode cX11_degree 32 = .ok (.invokevirtual 111, 3) := by decide +kernel
theorem dX11_degree_35 : decode cX11_degree 35 = .ok (.ifCond .eq 5, 3) := by decide +kernel
theorem dX11_degree_38 : decode cX11_degree 38 = .ok (.iload_n 2, 1) := by decide +kernel
theorem dX11_degree_39 : decode cX11_degree 39 = .ok (.ireturn, 1) := by decide +kernel
theorem dX11_degree_40 : decode cX11_degree 40 = .ok (.iinc 2 (-1), 3) := by decide +kernel
theorem dX11_degree_43 : decode cX11_degree 43 = .ok (.goto (-21), 3) := by decide +kernel
theorem dX11_degree_46 : decode cX11_degree 46 = .ok (.bipush (-2), 2) := by decide +kernel
theorem dX11_degree_48 : decode cX11_degree 48 = .ok (.ireturn, 1) := by decide +kernel
set_option maxRecDepth 20000 in
theorem ggX11_rest_X11_isRow : GoodIn wsX11_rest wsX11_isRow := goodIn_r _ [8, 2, 9, 35, 36, 37, 38, 39, 40, 41, 42, 43, 44, 45, 46, 47, 48, 49, 50, 51, 52, 53, 54, 55] (by decide +kernel) (by decide +kernel)
set_option maxRecDepth 20000 in
theorem gX11_rest_X11_isRow : GoodIn wsX11_rest (wsV RX11 103 RX11 yX11_isRow wsX11_isRow) := goodIn_app (goodIn_of _ (by decide +kernel)) ggX11_rest_X11_isRow
set_option maxRecDepth 20000 in
theorem ggX11_rest_X11_within : GoodIn wsX11_rest wsX11_within := goodIn_r _ [12] (by decide +kernel) (by decide +kernel)
set_option maxRecDepth 20000 in
theorem gX11_rest_X11_within : GoodIn wsX11_rest (va_wsS RX11 119 yX11_within wsX11_within) := goodIn_app (goodIn_of _ (by decide +kernel)) ggX11_rest_X11_within
set_option maxRecDepth 20000 in
theorem ggX11_rest_X7_comesTo : GoodIn wsX11_rest wsX7_comesTo := goodIn_r _ [17, 18, 19, 20, 16, 21, 22, 23, 24, 46, 47, 48, 49, 50, 51, 52, 53, 54, 55] (by decide +kernel) (by decide +kernel)
set_option maxRecDepth 20000 in
theorem gX11_rest_X7_comesTo : GoodIn wsX11_rest (wsV RX11 125 RX7 yX7_comesTo wsX7_comesTo) := goodIn_app (goodIn_of _ (by decide +kernel)) ggX11_rest_X7_comesTo
set_option maxRecDepth 20000 in
theorem ggX11_rest_X6_restOf : GoodIn wsX11_rest wsX6_restOf := goodIn_r _ [29, 30, 31, 32, 33, 34, 56, 57, 58, 59, 60, 61, 62] (by decide +kernel) (by decide +kernel)
set_option maxRecDepth 20000 in
theorem gX11_rest_X6_restOf : GoodIn wsX11_rest (wsV RX11 168 RX6 yX6_restOf wsX6_restOf) := goodIn_app (goodIn_of _ (by decide +kernel)) ggX11_rest_X6_restOf
theorem dX11_rest_0 : decode cX11_rest 0 = .ok (.aload_n 0, 1) := by decide +kernel
theorem dX11_rest_1 : decode cX11_rest 1 = .ok (.iload_n 1, 1) := by decide +kernel
theorem dX11_rest_2 : decode cX11_rest 2 = .ok (.invokevirtual 103, 3) := by decide +kernel
theorem dX11_rest_5 : decode cX11_rest 5 = .ok (.ifCond .eq 15, 3) := by decide +kernel
theorem dX11_rest_8 : decode cX11_rest 8 = .ok (.iload_n 2, 1) := by decide +kernel
theorem dX11_rest_9 : decode cX11_rest 9 = .ok (.i2l, 1) := by decide +kernel
theorem dX11_rest_10 : decode cX11_rest 10 = .ok (.lconst 0, 1) := by decide +kernel
theorem dX11_rest_11 : decode cX11_rest 11 = .ok (.ldc2_w 162, 3) := by decide +kernel
theorem dX11_rest_14 : decode cX11_rest 14 = .ok (.invokestatic 119, 3) := by decide +kernel
theorem dX11_rest_17 : decode cX11_rest 17 = .ok (.ifCond .ne 5, 3) := by decide +kernel
theorem dX11_rest_20 : decode cX11_rest 20 = .ok (.iconst (-1), 1) := by decide +kernel
theorem dX11_rest_21 : decode cX11_rest 21 = .ok (.ireturn, 1) := by decide +kernel
theorem dX11_rest_22 : decode cX11_rest 22 = .ok (.aload_n 0, 1) := by decide +kernel
theorem dX11_rest_23 : decode cX11_rest 23 = .ok (.getfield 30, 3) := by decide +kernel
theorem dX11_rest_26 : decode cX11_rest 26 = .ok (.getfield 164, 3) := by decide +kernel
theorem dX11_rest_29 : decode cX11_rest 29 = .ok (.aload_n 0, 1) := by decide +kernel
theorem dX11_rest_30 : decode cX11_rest 30 = .ok (.getfield 30, 3) := by decide +kernel
theorem dX11_rest_33 : decode cX11_rest 33 = .ok (.iload_n 1, 1) := by decide +kernel
theorem dX11_rest_34 : decode cX11_rest 34 = .ok (.iload_n 2, 1) := by decide +kernel
theorem dX11_rest_35 : decode cX11_rest 35 = .ok (.i2l, 1) := by decide +kernel
theorem dX11_rest_36 : decode cX11_rest 36 = .ok (.invokevirtual 125, 3) := by decide +kernel
theorem dX11_rest_39 : decode cX11_rest 39 = .ok (.invokevirtual 168, 3) := by decide +kernel
theorem dX11_rest_42 : decode cX11_rest 42 = .ok (.ireturn, 1) := by decide +kernel
set_option maxRecDepth 20000 in
theorem ggX11_alike_X11_areTwoRows : GoodIn wsX11_alike wsX11_areTwoRows := goodIn_r _ [8, 9, 10, 11, 7, 12, 1, 13, 36, 37, 38, 39, 40, 41, 42, 43, 44, 45, 46, 47, 48, 49, 50, 51, 52, 53, 54, 55, 56] (by decide +kernel) (by decide +kernel)
set_option maxRecDepth 20000 in
theorem gX11_alike_X11_areTwoRows : GoodIn wsX11_alike (wsV RX11 158 RX11 yX11_areTwoRows wsX11_areTwoRows) := goodIn_app (goodIn_of _ (by decide +kernel)) ggX11_alike_X11_areTwoRows
set_option maxRecDepth 20000 in
theorem ggX11_alike_X7_comesTo : GoodIn wsX11_alike wsX7_comesTo := goodIn_r _ [18, 19, 20, 21, 17, 22, 23, 24, 25, 47, 48, 49, 50, 51, 52, 53, 54, 55, 56] (by decide +kernel) (by decide +kernel)
set_option maxRecDepth 20000 in
theorem gX11_alike_X7_comesTo : GoodIn wsX11_alike (wsV RX11 125 RX7 yX7_comesTo wsX7_comesTo) := goodIn_app (goodIn_of _ (by decide +kernel)) ggX11_alike_X7_comesTo
set_option maxRecDepth 20000 in
theorem ggX11_alike_X6_restOf : GoodIn wsX11_alike wsX6_restOf := goodIn_r _ [30, 31, 32, 33, 34, 35, 57, 58, 59, 60, 61, 62, 63] (by decide +kernel) (by decide +kernel)
set_option maxRecDepth 20000 in
theorem gX11_alike_X6_restOf : GoodIn wsX11_alike (wsV RX11 168 RX6 yX6_restOf wsX6_restOf) := goodIn_app (goodIn_of _ (by decide +kernel)) ggX11_alike_X6_restOf
theorem dX11_alike_0 : decode cX11_alike 0 = .ok (.aload_n 0, 1) := by decide +kernel
theorem dX11_alike_1 : decode cX11_alike 1 = .ok (.iload_n 1, 1) := by decide +kernel
theorem dX11_alike_2 : decode cX11_alike 2 = .ok (.iload_n 2, 1) := by decide +kernel
theorem dX11_alike_3 : decode cX11_alike 3 = .ok (.invokevirtual 158, 3) := by decide +kernel
theorem dX11_alike_6 : decode cX11_alike 6 = .ok (.ifCond .ne 5, 3) := by decide +kernel
theorem dX11_alike_9 : decode cX11_alike 9 = .ok (.iconst (-1), 1) := by decide +kernel
theorem dX11_alike_10 : decode cX11_alike 10 = .ok (.ireturn, 1) := by decide +kernel
theorem dX11_alike_11 : decode cX11_alike 11 = .ok (.iconst 0, 1) := by decide +kernel
theorem dX11_alike_12 : decode cX11_alike 12 = .ok (.istore_n 3, 1) := by decide +kernel
theorem dX11_alike_13 : decode cX11_alike 13 = .ok (.iconst 0, 1) := by decide +kernel
theorem dX11_alike_14 : decode cX11_alike 14 = .ok (.istore 4, 2) := by decide +kernel
theorem dX11_alike_16 : decode cX11_alike 16 = .ok (.iload 4, 2) := by decide +kernel
theorem dX11_alike_18 : decode cX11_alike 18 = .ok (.aload_n 0, 1) := by decide +kernel
theorem dX11_alike_19 : decode cX11_alike 19 = .ok (.getfield 30, 3) := by decide +kernel
theorem dX11_alike_22 : decode cX11_alike 22 = .ok (.getfield 164, 3) := by decide +kernel
theorem dX11_alike_25 : decode cX11_alike 25 = .ok (.getfield 173, 3) := by decide +kernel
theorem dX11_alike_28 : decode cX11_alike 28 = .ok (.if_icmp .ge 48, 3) := by decide +kernel
theorem dX11_alike_31 : decode cX11_alike 31 = .ok (.aload_n 0, 1) := by decide +kernel
theorem dX11_alike_32 : decode cX11_alike 32 = .ok (.getfield 30, 3) := by decide +kernel
theorem dX11_alike_35 : decode cX11_alike 35 = .ok (.getfield 164, 3) := by decide +kernel
theorem dX11_alike_38 : decode cX11_alike 38 = .ok (.aload_n 0, 1) := by decide +kernel
theorem dX11_alike_39 : decode cX11_alike 39 = .ok (.getfield 30, 3) := by decide +kernel
theorem dX11_alike_42 : decode cX11_alike 42 = .ok (.iload_n 1, 1) := by decide +kernel
theorem dX11_alike_43 : decode cX11_alike 43 = .ok (.iload 4, 2) := by decide +kernel
theorem dX11_alike_45 : decode cX11_alike 45 = .ok (.i2l, 1) := by decide +kernel
theorem dX11_alike_46 : decode cX11_alike 46 = .ok (.invokevirtual 125, 3) := by decide +kernel
theorem dX11_alike_49 : decode cX11_alike 49 = .ok (.aload_n 0, 1) := by decide +kernel
theorem dX11_alike_50 : decode cX11_alike 50 = .ok (.getfield 30, 3) := by decide +kernel
theorem dX11_alike_53 : decode cX11_alike 53 = .ok (.iload_n 2, 1) := by decide +kernel
theorem dX11_alike_54 : decode cX11_alike 54 = .ok (.iload 4, 2) := by decide +kernel
theorem dX11_alike_56 : decode cX11_alike 56 = .ok (.i2l, 1) := by decide +kernel
theorem dX11_alike_57 : decode cX11_alike 57 = .ok (.invokevirtual 125, 3) := by decide +kernel
theorem dX11_alike_60 : decode cX11_alike 60 = .ok (.lsub, 1) := by decide +kernel
theorem dX11_alike_61 : decode cX11_alike 61 = .ok (.invokevirtual 168, 3) := by decide +kernel
theorem dX11_alike_64 : decode cX11_alike 64 = .ok (.ifCond .ne 6, 3) := by decide +kernel
theorem dX11_alike_67 : decode cX11_alike 67 = .ok (.iinc 3 1, 3) := by decide +kernel
theorem dX11_alike_70 : decode cX11_alike 70 = .ok (.iinc 4 1, 3) := by decide +kernel
theorem dX11_alike_73 : decode cX11_alike 73 = .ok (.goto (-57), 3) := by decide +kernel
theorem dX11_alike_76 : decode cX11_alike 76 = .ok (.iload_n 3, 1) := by decide +kernel
theorem dX11_alike_77 : decode cX11_alike 77 = .ok (.ireturn, 1) := by decide +kernel
set_option maxRecDepth 20000 in
theorem ggX11_isSumPlace_X11_isRow : GoodIn wsX11_isSumPlace wsX11_isRow := goodIn_r _ [6, 7, 8, 12, 13, 14, 15, 16, 17, 18, 19, 20, 21, 22, 23, 24, 25, 26, 27, 28, 29, 30, 31, 32] (by decide +kernel) (by decide +kernel)
set_option maxRecDepth 20000 in
theorem gX11_isSumPlace_X11_isRow : GoodIn wsX11_isSumPlace (wsV RX11 103 RX11 yX11_isRow wsX11_isRow) := goodIn_app (goodIn_of _ (by decide +kernel)) ggX11_isSumPlace_X11_isRow
set_option maxRecDepth 20000 in
theorem ggX11_isSumPlace_X11_within : GoodIn wsX11_isSumPlace wsX11_within := goodIn_r _ [11] (by decide +kernel) (by decide +kernel)
set_option maxRecDepth 20000 in
theorem gX11_isSumPlace_X11_within : GoodIn wsX11_isSumPlace (va_wsS RX11 119 yX11_within wsX11_within) := goodIn_app (goodIn_of _ (by decide +kernel)) ggX11_isSumPlace_X11_within
theorem dX11_isSumPlace_0 : decode cX11_isSumPlace 0 = .ok (.aload_n 0, 1) := by decide +kernel
theorem dX11_isSumPlace_1 : decode cX11_isSumPlace 1 = .ok (.iload_n 1, 1) := by decide +kernel
theorem dX11_isSumPlace_2 : decode cX11_isSumPlace 2 = .ok (.invokevirtual 103, 3) := by decide +kernel
theorem dX11_isSumPlace_5 : decode cX11_isSumPlace 5 = .ok (.ifCond .eq 27, 3) := by decide +kernel
theorem dX11_isSumPlace_8 : decode cX11_isSumPlace 8 = .ok (.aload_n 0, 1) := by decide +kernel
theorem dX11_isSumPlace_9 : decode cX11_isSumPlace 9 = .ok (.iload_n 2, 1) := by decide +kernel
theorem dX11_isSumPlace_10 : decode cX11_isSumPlace 10 = .ok (.invokevirtual 103, 3) := by decide +kernel
theorem dX11_isSumPlace_13 : decode cX11_isSumPlace 13 = .ok (.ifCond .eq 19, 3) := by decide +kernel
theorem dX11_isSumPlace_16 : decode cX11_isSumPlace 16 = .ok (.iload_n 3, 1) := by decide +kernel
theorem dX11_isSumPlace_17 : decode cX11_isSumPlace 17 = .ok (.i2l, 1) := by decide +kernel
theorem dX11_isSumPlace_18 : decode cX11_isSumPlace 18 = .ok (.lconst 0, 1) := by decide +kernel
theorem dX11_isSumPlace_19 : decode cX11_isSumPlace 19 = .ok (.ldc2_w 148, 3) := by decide +kernel
theorem dX11_isSumPlace_22 : decode cX11_isSumPlace 22 = .ok (.invokestatic 119, 3) := by decide +kernel
theorem dX11_isSumPlace_25 : decode cX11_isSumPlace 25 = .ok (.ifCond .eq 7, 3) := by decide +kernel
theorem dX11_isSumPlace_28 : decode cX11_isSumPlace 28 = .ok (.iconst 1, 1) := by decide +kernel
theorem dX11_isSumPlace_29 : decode cX11_isSumPlace 29 = .ok (.goto 4, 3) := by decide +kernel
theorem dX11_isSumPlace_32 : decode cX11_isSumPlace 32 = .ok (.iconst 0, 1) := by decide +kernel
theorem dX11_isSumPlace_33 : decode cX11_isSumPlace 33 = .ok (.ireturn, 1) := by decide +kernel
set_option maxRecDepth 20000 in
theorem ggX11_plus_X11_isSumPlace : GoodIn wsX11_plus wsX11_isSumPlace := goodIn_r _ [7, 8, 9, 10, 11, 6, 12, 2, 13, 14, 15, 16, 25, 26, 27, 28, 29, 30, 31, 32, 33, 34, 35, 36, 37, 38, 39, 40, 41, 42, 43, 44, 45] (by decide +kernel) (by decide +kernel)
set_option maxRecDepth 20000 in
theorem gX11_plus_X11_isSumPlace : GoodIn wsX11_plus (wsV RX11 176 RX11 yX11_isSumPlace wsX11_isSumPlace) := goodIn_app (goodIn_of _ (by decide +kernel)) ggX11_plus_X11_isSumPlace
set_option maxRecDepth 20000 in
theorem ggX11_plus_X7_numberAt : GoodIn wsX11_plus wsX7_numberAt := goodIn_r _ [21, 22, 23, 24, 36, 37, 38, 39, 40, 41, 42, 43, 44, 45] (by decide +kernel) (by decide +kernel)
set_option maxRecDepth 20000 in
theorem gX11_plus_X7_numberAt : GoodIn wsX11_plus (wsV RX11 111 RX7 yX7_numberAt wsX7_numberAt) := goodIn_app (goodIn_of _ (by decide +kernel)) ggX11_plus_X7_numberAt
theorem dX11_plus_0 : decode cX11_plus 0 = .ok (.aload_n 0, 1) := by decide +kernel
theorem dX11_plus_1 : decode cX11_plus 1 = .ok (.iload_n 1, 1) := by decide +kernel
theorem dX11_plus_2 : decode cX11_plus 2 = .ok (.iload_n 2, 1) := by decide +kernel
theorem dX11_plus_3 : decode cX11_plus 3 = .ok (.iload_n 3, 1) := by decide +kernel
theorem dX11_plus_4 : decode cX11_plus 4 = .ok (.invokevirtual 176, 3) := by decide +kernel
theorem dX11_plus_7 : decode cX11_plus 7 = .ok (.ifCond .ne 6, 3) := by decide +kernel
theorem dX11_plus_10 : decode cX11_plus 10 = .ok (.ldc 180, 2) := by decide +kernel
theorem dX11_plus_12 : decode cX11_plus 12 = .ok (.ireturn, 1) := by decide +kernel
theorem dX11_plus_13 : decode cX11_plus 13 = .ok (.aload_n 0, 1) := by decide +kernel
theorem dX11_plus_14 : decode cX11_plus 14 = .ok (.getfield 30, 3) := by decide +kernel
theorem dX11_plus_17 : decode cX11_plus 17 = .ok (.iload_n 1, 1) := by decide +kernel
theorem dX11_plus_18 : decode cX11_plus 18 = .ok (.iload_n 3, 1) := by decide +kernel
theorem dX11_plus_19 : decode cX11_plus 19 = .ok (.invokevirtual 111, 3) := by decide +kernel
theorem dX11_plus_22 : decode cX11_plus 22 = .ok (.aload_n 0, 1) := by decide +kernel
theorem dX11_plus_23 : decode cX11_plus 23 = .ok (.getfield 30, 3) := by decide +kernel
theorem dX11_plus_26 : decode cX11_plus 26 = .ok (.iload_n 2, 1) := by decide +kernel
theorem dX11_plus_27 : decode cX11_plus 27 = .ok (.iload_n 3, 1) := by decide +kernel
theorem dX11_plus_28 : decode cX11_plus 28 = .ok (.invokevirtual 111, 3) := by decide +kernel
theorem dX11_plus_31 : decode cX11_plus 31 = .ok (.iadd, 1) := by decide +kernel
theorem dX11_plus_32 : decode cX11_plus 32 = .ok (.ireturn, 1) := by decide +kernel
set_option maxRecDepth 20000 in
theorem ggX11_times_X11_isSumPlace : GoodIn wsX11_times wsX11_isSumPlace := goodIn_r _ [7, 8, 9, 10, 11, 6, 12, 2, 13, 14, 15, 16, 25, 26, 27, 28, 29, 30, 31, 32, 33, 34, 35, 36, 37, 38, 39, 40, 41, 42, 43, 44, 45] (by decide +kernel) (by decide +kernel)
set_option maxRecDepth 20000 in
theorem gX11_times_X11_isSumPlace : GoodIn wsX11_times (wsV RX11 176 RX11 yX11_isSumPlace wsX11_isSumPlace) := goodIn_app (goodIn_of _ (by decide +kernel)) ggX11_times_X11_isSumPlace
set_option maxRecDepth 20000 in
theorem ggX11_times_X7_numberAt : GoodIn wsX11_times wsX7_numberAt := goodIn_r _ [21, 22, 23, 24, 36, 37, 38, 39, 40, 41, 42, 43, 44, 45] (by decide +kernel) (by decide +kernel)
set_option maxRecDepth 20000 in
theorem gX11_times_X7_numberAt : GoodIn wsX11_times (wsV RX11 111 RX7 yX7_numberAt wsX7_numberAt) := goodIn_app (goodIn_of _ (by decide +kernel)) ggX11_times_X7_numberAt
theorem dX11_times_0 : decode cX11_times 0 = .ok (.aload_n 0, 1) := by decide +kernel
theorem dX11_times_1 : decode cX11_times 1 = .ok (.iload_n 1, 1) := by decide +kernel
theorem dX11_times_2 : decode cX11_times 2 = .ok (.iload_n 2, 1) := by decide +kernel
theorem dX11_times_3 : decode cX11_times 3 = .ok (.iload_n 3, 1) := by decide +kernel
theorem dX11_times_4 : decode cX11_times 4 = .ok (.invokevirtual 176, 3) := by decide +kernel
theorem dX11_times_7 : decode cX11_times 7 = .ok (.ifCond .ne 6, 3) := by decide +kernel
theorem dX11_times_10 : decode cX11_times 10 = .ok (.ldc 180, 2) := by decide +kernel
theorem dX11_times_12 : decode cX11_times 12 = .ok (.ireturn, 1) := by decide +kernel
theorem dX11_times_13 : decode cX11_times 13 = .ok (.iconst 0, 1) := by decide +kernel
theorem dX11_times_14 : decode cX11_times 14 = .ok (.istore 4, 2) := by decide +kernel
theorem dX11_times_16 : decode cX11_times 16 = .ok (.iconst 0, 1) := by decide +kernel
theorem dX11_times_17 : decode cX11_times 17 = .ok (.istore 5, 2) := by decide +kernel
theorem dX11_times_19 : decode cX11_times 19 = .ok (.iload 5, 2) := by decide +kernel
theorem dX11_times_21 : decode cX11_times 21 = .ok (.iload_n 3, 1) := by decide +kernel
theorem dX11_times_22 : decode cX11_times 22 = .ok (.if_icmp .gt 37, 3) := by decide +kernel
theorem dX11_times_25 : decode cX11_times 25 = .ok (.iload 4, 2) := by decide +kernel
theorem dX11_times_27 : decode cX11_times 27 = .ok (.aload_n 0, 1) := by decide +kernel
theorem dX11_times_28 : decode cX11_times 28 = .ok (.getfield 30, 3) := by decide +kernel
theorem dX11_times_31 : decode cX11_times 31 = .ok (.iload_n 1, 1) := by decide +kernel
theorem dX11_times_32 : decode cX11_times 32 = .ok (.iload 5, 2) := by decide +kernel
theorem dX11_times_34 : decode cX11_times 34 = .ok (.invokevirtual 111, 3) := by decide +kernel
theorem dX11_times_37 : decode cX11_times 37 = .ok (.aload_n 0, 1) := by decide +kernel
theorem dX11_times_38 : decode cX11_times 38 = .ok (.getfield 30, 3) := by decide +kernel
theorem dX11_times_41 : decode cX11_times 41 = .ok (.iload_n 2, 1) := by decide +kernel
theorem dX11_times_42 : decode cX11_times 42 = .ok (.iload_n 3, 1) := by decide +kernel
theorem dX11_times_43 : decode cX11_times 43 = .ok (.iload 5, 2) := by decide +kernel
theorem dX11_times_45 : decode cX11_times 45 = .ok (.isub, 1) := by decide +kernel
theorem dX11_times_46 : decode cX11_times 46 = .ok (.invokevirtual 111, 3) := by decide +kernel
theorem dX11_times_49 : decode cX11_times 49 = .ok (.imul, 1) := by decide +kernel
theorem dX11_times_50 : decode cX11_times 50 = .ok (.iadd, 1) := by decide +kernel
theorem dX11_times_51 : decode cX11_times 51 = .ok (.istore 4, 2) := by decide +kernel
theorem dX11_times_53 : decode cX11_times 53 = .ok (.iinc 5 1, 3) := by decide +kernel
theorem dX11_times_56 : decode cX11_times 56 = .ok (.goto (-37), 3) := by decide +kernel
theorem dX11_times_59 : decode cX11_times 59 = .ok (.iload 4, 2) := by decide +kernel
theorem dX11_times_61 : decode cX11_times 61 = .ok (.ireturn, 1) := by decide +kernel
set_option maxRecDepth 20000 in
theorem ggX11_world_X11_isWorld : GoodIn wsX11_world wsX11_isWorld := goodIn_r _ [8, 1, 2, 19, 20, 21, 22, 23, 24, 25, 26, 27, 28, 29, 30, 31, 32, 33, 34, 35, 36] (by decide +kernel) (by decide +kernel)
set_option maxRecDepth 20000 in
theorem gX11_world_X11_isWorld : GoodIn wsX11_world (wsV RX11 184 RX11 yX11_isWorld wsX11_isWorld) := goodIn_app (goodIn_of _ (by decide +kernel)) ggX11_world_X11_isWorld
set_option maxRecDepth 20000 in
theorem ggX11_world_X10_numberAt : GoodIn wsX11_world wsX10_numberAt := goodIn_r _ [13, 14, 15, 16, 17, 18, 30, 31, 32, 33, 34, 35, 36] (by decide +kernel) (by decide +kernel)
set_option maxRecDepth 20000 in
theorem gX11_world_X10_numberAt : GoodIn wsX11_world (wsV RX11 190 RX10 yX10_numberAt wsX10_numberAt) := goodIn_app (goodIn_of _ (by decide +kernel)) ggX11_world_X10_numberAt
theorem dX11_world_0 : decode cX11_world 0 = .ok (.iload_n 2, 1) := by decide +kernel
theorem dX11_world_1 : decode cX11_world 1 = .ok (.iconst (-1), 1) := by decide +kernel
theorem dX11_world_2 : decode cX11_world 2 = .ok (.if_icmp .ne 11, 3) := by decide +kernel
theorem dX11_world_5 : decode cX11_world 5 = .ok (.aload_n 0, 1) := by decide +kernel
theorem dX11_world_6 : decode cX11_world 6 = .ok (.getfield 54, 3) := by decide +kernel
theorem dX11_world_9 : decode cX11_world 9 = .ok (.getfield 181, 3) := by decide +kernel
theorem dX11_world_12 : decode cX11_world 12 = .ok (.ireturn, 1) := by decide +kernel
theorem dX11_world_13 : decode cX11_world 13 = .ok (.aload_n 0, 1) := by decide +kernel
theorem dX11_world_14 : decode cX11_world 14 = .ok (.iload_n 1, 1) := by decide +kernel
theorem dX11_world_15 : decode cX11_world 15 = .ok (.invokevirtual 184, 3) := by decide +kernel
theorem dX11_world_18 : decode cX11_world 18 = .ok (.ifCond .eq 18, 3) := by decide +kernel
theorem dX11_world_21 : decode cX11_world 21 = .ok (.iload_n 2, 1) := by decide +kernel
theorem dX11_world_22 : decode cX11_world 22 = .ok (.ifCond .lt 14, 3) := by decide +kernel
theorem dX11_world_25 : decode cX11_world 25 = .ok (.iload_n 2, 1) := by decide +kernel
theorem dX11_world_26 : decode cX11_world 26 = .ok (.aload_n 0, 1) := by decide +kernel
theorem dX11_world_27 : decode cX11_world 27 = .ok (.getfield 54, 3) := by decide +kernel
theorem dX11_world_30 : decode cX11_world 30 = .ok (.getfield 187, 3) := by decide +kernel
theorem dX11_world_33 : decode cX11_world 33 = .ok (.if_icmp .lt 5, 3) := by decide +kernel
theorem dX11_world_36 : decode cX11_world 36 = .ok (.iconst (-1), 1) := by decide +kernel
theorem dX11_world_37 : decode cX11_world 37 = .ok (.ireturn, 1) := by decide +kernel
theorem dX11_world_38 : decode cX11_world 38 = .ok (.aload_n 0, 1) := by decide +kernel
theorem dX11_world_39 : decode cX11_world 39 = .ok (.getfield 54, 3) := by decide +kernel
theorem dX11_world_42 : decode cX11_world 42 = .ok (.iload_n 1, 1) := by decide +kernel
theorem dX11_world_43 : decode cX11_world 43 = .ok (.iload_n 2, 1) := by decide +kernel
theorem dX11_world_44 : decode cX11_world 44 = .ok (.invokevirtual 190, 3) := by decide +kernel
theorem dX11_world_47 : decode cX11_world 47 = .ok (.ireturn, 1) := by decide +kernel
theorem dX11_isWorld_0 : decode cX11_isWorld 0 = .ok (.iload_n 1, 1) := by decide +kernel
theorem dX11_isWorld_1 : decode cX11_isWorld 1 = .ok (.ifCond .lt 18, 3) := by decide +kernel
theorem dX11_isWorld_4 : decode cX11_isWorld 4 = .ok (.iload_n 1, 1) := by decide +kernel
theorem dX11_isWorld_5 : decode cX11_isWorld 5 = .ok (.aload_n 0, 1) := by decide +kernel
theorem dX11_isWorld_6 : decode cX11_isWorld 6 = .ok (.getfield 54, 3) := by decide +kernel
theorem dX11_isWorld_9 : decode cX11_isWorld 9 = .ok (.getfield 181, 3) := by decide +kernel
theorem dX11_isWorld_12 : decode cX11_isWorld 12 = .ok (.if_icmp .ge 7, 3) := by decide +kernel
theorem dX11_isWorld_15 : decode cX11_isWorld 15 = .ok (.iconst 1, 1) := by decide +kernel
theorem dX11_isWorld_16 : decode cX11_isWorld 16 = .ok (.goto 4, 3) := by decide +kernel
theorem dX11_isWorld_19 : decode cX11_isWorld 19 = .ok (.iconst 0, 1) := by decide +kernel
theorem dX11_isWorld_20 : decode cX11_isWorld 20 = .ok (.ireturn, 1) := by decide +kernel
set_option maxRecDepth 20000 in
theorem ggX11_clash_X11_within : GoodIn wsX11_clash wsX11_within := goodIn_r _ [6] (by decide +kernel) (by decide +kernel)
set_option maxRecDepth 20000 in
theorem gX11_clash_X11_within : GoodIn wsX11_clash (va_wsS RX11 119 yX11_within wsX11_within) := goodIn_app (goodIn_of _ (by decide +kernel)) ggX11_clash_X11_within
set_option maxRecDepth 20000 in
theorem ggX11_clash_X10_clashing : GoodIn wsX11_clash wsX10_clashing := goodIn_r _ [11, 12, 13, 14, 15, 16, 17, 10, 18, 19, 20, 21, 22, 23, 24, 25, 26, 27, 28, 29, 30, 31, 32, 33, 34, 35, 36, 37, 38, 39, 40, 52, 53, 54, 55, 56, 57, 58, 59, 60, 61] (by decide +kernel) (by decide +kernel)
set_option maxRecDepth 20000 in
theorem gX11_clash_X10_clashing : GoodIn wsX11_clash (wsV RX11 191 RX10 yX10_clashing wsX10_clashing) := goodIn_app (goodIn_of _ (by decide +kernel)) ggX11_clash_X10_clashing
theorem dX11_clash_0 : decode cX11_clash 0 = .ok (.iload_n 1, 1) := by decide +kernel
theorem dX11_clash_1 : decode cX11_clash 1 = .ok (.i2l, 1) := by decide +kernel
theorem dX11_clash_2 : decode cX11_clash 2 = .ok (.lconst 0, 1) := by decide +kernel
theorem dX11_clash_3 : decode cX11_clash 3 = .ok (.ldc2_w 117, 3) := by decide +kernel
theorem dX11_clash_6 : decode cX11_clash 6 = .ok (.invokestatic 119, 3) := by decide +kernel
theorem dX11_clash_9 : decode cX11_clash 9 = .ok (.ifCond .eq 15, 3) := by decide +kernel
theorem dX11_clash_12 : decode cX11_clash 12 = .ok (.aload_n 0, 1) := by decide +kernel
theorem dX11_clash_13 : decode cX11_clash 13 = .ok (.getfield 54, 3) := by decide +kernel
theorem dX11_clash_16 : decode cX11_clash 16 = .ok (.iload_n 1, 1) := by decide +kernel
theorem dX11_clash_17 : decode cX11_clash 17 = .ok (.iload_n 2, 1) := by decide +kernel
theorem dX11_clash_18 : decode cX11_clash 18 = .ok (.invokevirtual 191, 3) := by decide +kernel
theorem dX11_clash_21 : decode cX11_clash 21 = .ok (.goto 4, 3) := by decide +kernel
theorem dX11_clash_24 : decode cX11_clash 24 = .ok (.iconst (-1), 1) := by decide +kernel
theorem dX11_clash_25 : decode cX11_clash 25 = .ok (.ireturn, 1) := by decide +kernel
set_option maxRecDepth 20000 in
theorem ggX11_once_X10_clashing : GoodIn wsX11_once wsX10_clashing := goodIn_r _ [6, 7, 8, 9, 10, 11, 12, 5, 13, 14, 15, 16, 17, 18, 19, 20, 21, 22, 23, 24, 25, 26, 27, 28, 29, 30, 31, 32, 33, 34, 35, 47, 48, 49, 50, 51, 52, 53, 54, 55, 56] (by decide +kernel) (by decide +kernel)
set_option maxRecDepth 20000 in
theorem gX11_once_X10_clashing : GoodIn wsX11_once (wsV RX11 191 RX10 yX10_clashing wsX10_clashing) := goodIn_app (goodIn_of _ (by decide +kernel)) ggX11_once_X10_clashing
theorem dX11_once_0 : decode cX11_once 0 = .ok (.iconst 0, 1) := by decide +kernel
theorem dX11_once_1 : decode cX11_once 1 = .ok (.istore_n 1, 1) := by decide +kernel
theorem dX11_once_2 : decode cX11_once 2 = .ok (.iload_n 1, 1) := by decide +kernel
theorem dX11_once_3 : decode cX11_once 3 = .ok (.sipush 999, 3) := by decide +kernel
theorem dX11_once_6 : decode cX11_once 6 = .ok (.if_icmp .gt 25, 3) := by decide +kernel
theorem dX11_once_9 : decode cX11_once 9 = .ok (.aload_n 0, 1) := by decide +kernel
theorem dX11_once_10 : decode cX11_once 10 = .ok (.getfield 54, 3) := by decide +kernel
theorem dX11_once_13 : decode cX11_once 13 = .ok (.iload_n 1, 1) := by decide +kernel
theorem dX11_once_14 : decode cX11_once 14 = .ok (.iconst 1, 1) := by decide +kernel
theorem dX11_once_15 : decode cX11_once 15 = .ok (.invokevirtual 191, 3) := by decide +kernel
theorem dX11_once_18 : decode cX11_once 18 = .ok (.bipush (-2), 2) := by decide +kernel
theorem dX11_once_20 : decode cX11_once 20 = .ok (.if_icmp .ne 5, 3) := by decide +kernel
theorem dX11_once_23 : decode cX11_once 23 = .ok (.iload_n 1, 1) := by decide +kernel
theorem dX11_once_24 : decode cX11_once 24 = .ok (.ireturn, 1) := by decide +kernel
theorem dX11_once_25 : decode cX11_once 25 = .ok (.iinc 1 1, 3) := by decide +kernel
theorem dX11_once_28 : decode cX11_once 28 = .ok (.goto (-26), 3) := by decide +kernel
theorem dX11_once_31 : decode cX11_once 31 = .ok (.bipush (-2), 2) := by decide +kernel
theorem dX11_once_33 : decode cX11_once 33 = .ok (.ireturn, 1) := by decide +kernel
set_option maxRecDepth 20000 in
theorem ggX11_few_X11_within : GoodIn wsX11_few wsX11_within := goodIn_r _ [6] (by decide +kernel) (by decide +kernel)
set_option maxRecDepth 20000 in
theorem gX11_few_X11_within : GoodIn wsX11_few (va_wsS RX11 119 yX11_within wsX11_within) := goodIn_app (goodIn_of _ (by decide +kernel)) ggX11_few_X11_within
set_option maxRecDepth 20000 in
theorem ggX11_few_X10_fewestNumbers : GoodIn wsX11_few wsX10_fewestNumbers := goodIn_r _ [11, 12, 13, 14, 15, 16, 17, 18, 19, 10, 20, 21, 22, 23, 24, 25, 26, 27, 28, 29, 30, 31, 32, 33, 34, 35, 36, 37, 38, 39, 40, 41, 42, 43, 44, 45, 46, 47, 48, 49, 50, 62, 63, 64, 65, 66, 67, 68, 69, 70, 71] (by decide +kernel) (by decide +kernel)
set_option maxRecDepth 20000 in
theorem gX11_few_X10_fewestNumbers : GoodIn wsX11_few (wsV RX11 197 RX10 yX10_fewestNumbers wsX10_fewestNumbers) := goodIn_app (goodIn_of _ (by decide +kernel)) ggX11_few_X10_fewestNumbers
theorem dX11_few_0 : decode cX11_few 0 = .ok (.iload_n 1, 1) := by decide +kernel
theorem dX11_few_1 : decode cX11_few 1 = .ok (.i2l, 1) := by decide +kernel
theorem dX11_few_2 : decode cX11_few 2 = .ok (.lconst 0, 1) := by decide +kernel
theorem dX11_few_3 : decode cX11_few 3 = .ok (.ldc2_w 195, 3) := by decide +kernel
theorem dX11_few_6 : decode cX11_few 6 = .ok (.invokestatic 119, 3) := by decide +kernel
theorem dX11_few_9 : decode cX11_few 9 = .ok (.ifCond .eq 14, 3) := by decide +kernel
theorem dX11_few_12 : decode cX11_few 12 = .ok (.aload_n 0, 1) := by decide +kernel
theorem dX11_few_13 : decode cX11_few 13 = .ok (.getfield 54, 3) := by decide +kernel
theorem dX11_few_16 : decode cX11_few 16 = .ok (.iload_n 1, 1) := by decide +kernel
theorem dX11_few_17 : decode cX11_few 17 = .ok (.invokevirtual 197, 3) := by decide +kernel
theorem dX11_few_20 : decode cX11_few 20 = .ok (.goto 4, 3) := by decide +kernel
theorem dX11_few_23 : decode cX11_few 23 = .ok (.iconst (-1), 1) := by decide +kernel
theorem dX11_few_24 : decode cX11_few 24 = .ok (.ireturn, 1) := by decide +kernel
set_option maxRecDepth 20000 in
theorem ggX11_worldsAt_X11_within : GoodIn wsX11_worldsAt wsX11_within := goodIn_r _ [7] (by decide +kernel) (by decide +kernel)
set_option maxRecDepth 20000 in
theorem gX11_worldsAt_X11_within : GoodIn wsX11_worldsAt (va_wsS RX11 119 yX11_within wsX11_within) := goodIn_app (goodIn_of _ (by decide +kernel)) ggX11_worldsAt_X11_within
set_option maxRecDepth 20000 in
theorem ggX11_worldsAt_X10_howManyComeTo : GoodIn wsX11_worldsAt wsX10_howManyComeTo := goodIn_r _ [12, 13, 14, 15, 16, 17, 11, 18, 19, 20, 32, 33, 34, 35, 36, 37, 38] (by decide +kernel) (by decide +kernel)
set_option maxRecDepth 20000 in
theorem gX11_worldsAt_X10_howManyComeTo : GoodIn wsX11_worldsAt (wsV RX11 205 RX10 yX10_howManyComeTo wsX10_howManyComeTo) := goodIn_app (goodIn_of _ (by decide +kernel)) ggX11_worldsAt_X10_howManyComeTo
theorem dX11_worldsAt_0 : decode cX11_worldsAt 0 = .ok (.iload_n 1, 1) := by decide +kernel
theorem dX11_worldsAt_1 : decode cX11_worldsAt 1 = .ok (.i2l, 1) := by decide +kernel
theorem dX11_worldsAt_2 : decode cX11_worldsAt 2 = .ok (.ldc2_w 201, 3) := by decide +kernel
theorem dX11_worldsAt_5 : decode cX11_worldsAt 5 = .ok (.ldc2_w 203, 3) := by decide +kernel
theorem dX11_worldsAt_8 : decode cX11_worldsAt 8 = .ok (.invokestatic 119, 3) := by decide +kernel
theorem dX11_worldsAt_11 : decode cX11_worldsAt 11 = .ok (.ifCond .eq 15, 3) := by decide +kernel
theorem dX11_worldsAt_14 : decode cX11_worldsAt 14 = .ok (.aload_n 0, 1) := by decide +kernel
theorem dX11_worldsAt_15 : decode cX11_worldsAt 15 = .ok (.getfield 54, 3) := by decide +kernel
theorem dX11_worldsAt_18 : decode cX11_worldsAt 18 = .ok (.iload_n 1, 1) := by decide +kernel
theorem dX11_worldsAt_19 : decode cX11_worldsAt 19 = .ok (.lload_n 2, 1) := by decide +kernel
theorem dX11_worldsAt_20 : decode cX11_worldsAt 20 = .ok (.invokevirtual 205, 3) := by decide +kernel
theorem dX11_worldsAt_23 : decode cX11_worldsAt 23 = .ok (.goto 4, 3) := by decide +kernel
theorem dX11_worldsAt_26 : decode cX11_worldsAt 26 = .ok (.iconst (-1), 1) := by decide +kernel
theorem dX11_worldsAt_27 : decode cX11_worldsAt 27 = .ok (.ireturn, 1) := by decide +kernel
set_option maxRecDepth 20000 in
theorem ggX11_game_X11_isWorld : GoodIn wsX11_game wsX11_isWorld := goodIn_r _ [11, 5, 12, 74, 75, 76, 77, 78, 79, 80, 81, 82, 83, 84, 102, 103, 104, 105, 106, 107, 108] (by decide +kernel) (by decide +kernel)
set_option maxRecDepth 20000 in
theorem gX11_game_X11_isWorld : GoodIn wsX11_game (wsV RX11 184 RX11 yX11_isWorld wsX11_isWorld) := goodIn_app (goodIn_of _ (by decide +kernel)) ggX11_game_X11_isWorld
set_option maxRecDepth 20000 in
theorem ggX11_game_X11_within : GoodIn wsX11_game wsX11_within := goodIn_r _ [15] (by decide +kernel) (by decide +kernel)
set_option maxRecDepth 20000 in
theorem gX11_game_X11_within : GoodIn wsX11_game (va_wsS RX11 119 yX11_within wsX11_within) := goodIn_app (goodIn_of _ (by decide +kernel)) ggX11_game_X11_within
set_option maxRecDepth 20000 in
theorem ggX11_game_X1_takeAll : GoodIn wsX11_game wsX1_takeAll := goodIn_r _ [20, 21, 22, 23, 24, 85, 86, 87, 88, 89, 90, 91, 102, 103, 104, 105, 106, 107, 108] (by decide +kernel) (by decide +kernel)
set_option maxRecDepth 20000 in
theorem gX11_game_X1_takeAll : GoodIn wsX11_game (wsV RX11 209 RX1 yX1_takeAll wsX1_takeAll) := goodIn_app (goodIn_of _ (by decide +kernel)) ggX11_game_X1_takeAll
set_option maxRecDepth 20000 in
theorem ggX11_game_X2_question : GoodIn wsX11_game wsX2_question := goodIn_r _ [29, 30, 31, 32, 33, 34, 35, 36, 37, 38, 39, 40, 28, 41, 42, 43, 44, 45, 46, 47, 48, 49, 50, 51, 52, 53, 109, 110, 111, 112, 113] (by decide +kernel) (by decide +kernel)
set_option maxRecDepth 20000 in
theorem gX11_game_X2_question : GoodIn wsX11_game (wsV RX11 217 RX2 yX2_question wsX2_question) := goodIn_app (goodIn_of _ (by decide +kernel)) ggX11_game_X2_question
set_option maxRecDepth 20000 in
theorem ggX11_game_X10_comeBy : GoodIn wsX11_game wsX10_comeBy := goodIn_r _ [58, 59, 60, 61, 102, 103, 104, 105, 106, 107, 108] (by decide +kernel) (by decide +kernel)
set_option maxRecDepth 20000 in
theorem gX11_game_X10_comeBy : GoodIn wsX11_game (wsV RX11 223 RX10 yX10_comeBy wsX10_comeBy) := goodIn_app (goodIn_of _ (by decide +kernel)) ggX11_game_X10_comeBy
set_option maxRecDepth 20000 in
theorem ggX11_game_X1_keep : GoodIn wsX11_game wsX1_keep := goodIn_r _ [65, 23, 21, 66, 24, 85, 86, 87, 88, 89, 90, 91, 102, 103, 104, 105, 106, 107, 108] (by decide +kernel) (by decide +kernel)
set_option maxRecDepth 20000 in
theorem gX11_game_X1_keep : GoodIn wsX11_game (wsV RX11 231 RX1 yX1_keep wsX1_keep) := goodIn_app (goodIn_of _ (by decide +kernel)) ggX11_game_X1_keep
set_option maxRecDepth 20000 in
theorem ggX11_game_X11_figuresOf : GoodIn wsX11_game wsX11_figuresOf := goodIn_r _ [69, 70, 71, 33, 72, 73] (by decide +kernel) (by decide +kernel)
set_option maxRecDepth 20000 in
theorem gX11_game_X11_figuresOf : GoodIn wsX11_game (va_wsS RX11 138 yX11_figuresOf wsX11_figuresOf) := goodIn_app (goodIn_of _ (by decide +kernel)) ggX11_game_X11_figuresOf
theorem dX11_game_0 : decode cX11_game 0 = .ok (.aload_n 0, 1) := by decide +kernel
theorem dX11_game_1 : decode cX11_game 1 = .ok (.iload_n 1, 1) := by decide +kernel
theorem dX11_game_2 : decode cX11_game 2 = .ok (.invokevirtual 184, 3) := by decide +kernel
theorem dX11_game_5 : decode cX11_game 5 = .ok (.ifCond .eq 13, 3) := by decide +kernel
theorem dX11_game_8 : decode cX11_game 8 = .ok (.iload_n 2, 1) := by decide +kernel
theorem dX11_game_9 : decode cX11_game 9 = .ok (.i2l, 1) := by decide +kernel
theorem dX11_game_10 : decode cX11_game 10 = .ok (.lconst 0, 1) := by decide +kernel
theorem dX11_game_11 : decode cX11_game 11 = .ok (.lconst 1, 1) := by decide +kernel
theorem dX11_game_12 : decode cX11_game 12 = .ok (.invokestatic 119, 3) := by decide +kernel
theorem dX11_game_15 : decode cX11_game 15 = .ok (.ifCond .ne 5, 3) := by decide +kernel
theorem dX11_game_18 : decode cX11_game 18 = .ok (.iconst (-1), 1) := by decide +kernel
theorem dX11_game_19 : decode cX11_game 19 = .ok (.ireturn, 1) := by decide +kernel
theorem dX11_game_20 : decode cX11_game 20 = .ok (.aload_n 0, 1) := by decide +kernel
theorem dX11_game_21 : decode cX11_game 21 = .ok (.getfield 63, 3) := by decide +kernel
theorem dX11_game_24 : decode cX11_game 24 = .ok (.invokevirtual 209, 3) := by decide +kernel
theorem dX11_game_27 : decode cX11_game 27 = .ok (.iconst 0, 1) := by decide +kernel
theorem dX11_game_28 : decode cX11_game 28 = .ok (.istore_n 3, 1) := by decide +kernel
theorem dX11_game_29 : decode cX11_game 29 = .ok (.iconst 0, 1) := by decide +kernel
theorem dX11_game_30 : decode cX11_game 30 = .ok (.istore 4, 2) := by decide +kernel
theorem dX11_game_32 : decode cX11_game 32 = .ok (.iconst 0, 1) := by decide +kernel
theorem dX11_game_33 : decode cX11_game 33 = .ok (.istore 5, 2) := by decide +kernel
theorem dX11_game_35 : decode cX11_game 35 = .ok (.lconst 0, 1) := by decide +kernel
theorem dX11_game_36 : decode cX11_game 36 = .ok (.lstore 6, 2) := by decide +kernel
theorem dX11_game_38 : decode cX11_game 38 = .ok (.iload_n 3, 1) := by decide +kernel
theorem dX11_game_39 : decode cX11_game 39 = .ok (.bipush 50, 2) := by decide +kernel
theorem dX11_game_41 : decode cX11_game 41 = .ok (.if_icmp .ge 78, 3) := by decide +kernel
theorem dX11_game_44 : decode cX11_game 44 = .ok (.aload_n 0, 1) := by decide +kernel
theorem dX11_game_45 : decode cX11_game 45 = .ok (.getfield 63, 3) := by decide +kernel
theorem dX11_game_48 : decode cX11_game 48 = .ok (.getfield 212, 3) := by decide +kernel
theorem dX11_game_51 : decode cX11_game 51 = .ok (.iconst 1, 1) := by decide +kernel
theorem dX11_game_52 : decode cX11_game 52 = .ok (.if_icmp .le 67, 3) := by decide +kernel
theorem dX11_game_55 : decode cX11_game 55 = .ok (.aload_n 0, 1) := by decide +kernel
theorem dX11_game_56 : decode cX11_game 56 = .ok (.getfield 30, 3) := by decide +kernel
theorem dX11_game_59 : decode cX11_game 59 = .ok (.getfield 213, 3) := by decide +kernel
theorem dX11_game_62 : decode cX11_game 62 = .ok (.iload_n 3, 1) := by decide +kernel
theorem dX11_game_63 : decode cX11_game 63 = .ok (.lload 6, 2) := by decide +kernel
theorem dX11_game_65 : decode cX11_game 65 = .ok (.iload 5, 2) := by decide +kernel
theorem dX11_game_67 : decode cX11_game 67 = .ok (.invokevirtual 217, 3) := by decide +kernel
theorem dX11_game_70 : decode cX11_game 70 = .ok (.istore 5, 2) := by decide +kernel
theorem dX11_game_72 : decode cX11_game 72 = .ok (.aload_n 0, 1) := by decide +kernel
theorem dX11_game_73 : decode cX11_game 73 = .ok (.getfield 54, 3) := by decide +kernel
theorem dX11_game_76 : decode cX11_game 76 = .ok (.iload 5, 2) := by decide +kernel
theorem dX11_game_78 : decode cX11_game 78 = .ok (.i2l, 1) := by decide +kernel
theorem dX11_game_79 : decode cX11_game 79 = .ok (.invokevirtual 223, 3) := by decide +kernel
theorem dX11_game_82 : decode cX11_game 82 = .ok (.aload_n 0, 1) := by decide +kernel
theorem dX11_game_83 : decode cX11_game 83 = .ok (.getfield 54, 3) := by decide +kernel
theorem dX11_game_86 : decode cX11_game 86 = .ok (.getfield 227, 3) := by decide +kernel
theorem dX11_game_89 : decode cX11_game 89 = .ok (.iload_n 1, 1) := by decide +kernel
theorem dX11_game_90 : decode cX11_game 90 = .ok (.laload, 1) := by decide +kernel
theorem dX11_game_91 : decode cX11_game 91 = .ok (.lstore 6, 2) := by decide +kernel
theorem dX11_game_93 : decode cX11_game 93 = .ok (.aload_n 0, 1) := by decide +kernel
theorem dX11_game_94 : decode cX11_game 94 = .ok (.getfield 63, 3) := by decide +kernel
theorem dX11_game_97 : decode cX11_game 97 = .ok (.lload 6, 2) := by decide +kernel
theorem dX11_game_99 : decode cX11_game 99 = .ok (.invokevirtual 231, 3) := by decide +kernel
theorem dX11_game_102 : decode cX11_game 102 = .ok (.iload 4, 2) := by decide +kernel
theorem dX11_game_104 : decode cX11_game 104 = .ok (.iload 5, 2) := by decide +kernel
theorem dX11_game_106 : decode cX11_game 106 = .ok (.i2l, 1) := by decide +kernel
theorem dX11_game_107 : decode cX11_game 107 = .ok (.invokestatic 138, 3) := by decide +kernel
theorem dX11_game_110 : decode cX11_game 110 = .ok (.iadd, 1) := by decide +kernel
theorem dX11_game_111 : decode cX11_game 111 = .ok (.istore 4, 2) := by decide +kernel
theorem dX11_game_113 : decode cX11_game 113 = .ok (.iinc 3 1, 3) := by decide +kernel
theorem dX11_game_116 : decode cX11_game 116 = .ok (.goto (-78), 3) := by decide +kernel
theorem dX11_game_119 : decode cX11_game 119 = .ok (.iload_n 2, 1) := by decide +kernel
theorem dX11_game_120 : decode cX11_game 120 = .ok (.iconst 1, 1) := by decide +kernel
theorem dX11_game_121 : decode cX11_game 121 = .ok (.if_icmp .ne 6, 3) := by decide +kernel
theorem dX11_game_124 : decode cX11_game 124 = .ok (.iload 4, 2) := by decide +kernel
theorem dX11_game_126 : decode cX11_game 126 = .ok (.ireturn, 1) := by decide +kernel
theorem dX11_game_127 : decode cX11_game 127 = .ok (.aload_n 0, 1) := by decide +kernel
theorem dX11_game_128 : decode cX11_game 128 = .ok (.getfield 63, 3) := by decide +kernel
theorem dX11_game_131 : decode cX11_game 131 = .ok (.getfield 212, 3) := by decide +kernel
theorem dX11_game_134 : decode cX11_game 134 = .ok (.iconst 1, 1) := by decide +kernel
theorem dX11_game_135 : decode cX11_game 135 = .ok (.if_icmp .le 8, 3) := by decide +kernel
theorem dX11_game_138 : decode cX11_game 138 = .ok (.bipush (-2), 2) := by decide +kernel
theorem dX11_game_140 : decode cX11_game 140 = .ok (.goto 4, 3) := by decide +kernel
theorem dX11_game_143 : decode cX11_game 143 = .ok (.iload_n 3, 1) := by decide +kernel
theorem dX11_game_144 : decode cX11_game 144 = .ok (.ireturn, 1) := by decide +kernel
set_option maxRecDepth 20000 in
theorem ggX11_tell_X9_isFull : GoodIn wsX11_tell wsX9_isFull := goodIn_r _ [11, 12, 34, 35, 36, 37] (by decide +kernel) (by decide +kernel)
set_option maxRecDepth 20000 in
theorem gX11_tell_X9_isFull : GoodIn wsX11_tell (wsV RX11 234 RX9 yX9_isFull wsX9_isFull) := goodIn_app (goodIn_of _ (by decide +kernel)) ggX11_tell_X9_isFull
set_option maxRecDepth 20000 in
theorem ggX11_tell_X11_within : GoodIn wsX11_tell wsX11_within := goodIn_r _ [16] (by decide +kernel) (by decide +kernel)
set_option maxRecDepth 20000 in
theorem gX11_tell_X11_within : GoodIn wsX11_tell (va_wsS RX11 119 yX11_within wsX11_within) := goodIn_app (goodIn_of _ (by decide +kernel)) ggX11_tell_X11_within
set_option maxRecDepth 20000 in
theorem ggX11_tell_X9_add : GoodIn wsX11_tell wsX9_add := goodIn_r _ [20, 12, 21, 22, 34, 35, 36, 37] (by decide +kernel) (by decide +kernel)
set_option maxRecDepth 20000 in
theorem gX11_tell_X9_add : GoodIn wsX11_tell (wsV RX11 242 RX9 yX9_add wsX9_add) := goodIn_app (goodIn_of _ (by decide +kernel)) ggX11_tell_X9_add
theorem dX11_tell_0 : decode cX11_tell 0 = .ok (.aload_n 0, 1) := by decide +kernel
theorem dX11_tell_1 : decode cX11_tell 1 = .ok (.getfield 37, 3) := by decide +kernel
theorem dX11_tell_4 : decode cX11_tell 4 = .ok (.invokevirtual 234, 3) := by decide +kernel
theorem dX11_tell_7 : decode cX11_tell 7 = .ok (.ifCond .ne 30, 3) := by decide +kernel
theorem dX11_tell_10 : decode cX11_tell 10 = .ok (.iload_n 1, 1) := by decide +kernel
theorem dX11_tell_11 : decode cX11_tell 11 = .ok (.i2l, 1) := by decide +kernel
theorem dX11_tell_12 : decode cX11_tell 12 = .ok (.ldc2_w 201, 3) := by decide +kernel
theorem dX11_tell_15 : decode cX11_tell 15 = .ok (.ldc2_w 203, 3) := by decide +kernel
theorem dX11_tell_18 : decode cX11_tell 18 = .ok (.invokestatic 119, 3) := by decide +kernel
theorem dX11_tell_21 : decode cX11_tell 21 = .ok (.ifCond .eq 16, 3) := by decide +kernel
theorem dX11_tell_24 : decode cX11_tell 24 = .ok (.lload_n 2, 1) := by decide +kernel
theorem dX11_tell_25 : decode cX11_tell 25 = .ok (.ldc2_w 238, 3) := by decide +kernel
theorem dX11_tell_28 : decode cX11_tell 28 = .ok (.ldc2_w 240, 3) := by decide +kernel
theorem dX11_tell_31 : decode cX11_tell 31 = .ok (.invokestatic 119, 3) := by decide +kernel
theorem dX11_tell_34 : decode cX11_tell 34 = .ok (.ifCond .ne 5, 3) := by decide +kernel
theorem dX11_tell_37 : decode cX11_tell 37 = .ok (.iconst (-1), 1) := by decide +kernel
theorem dX11_tell_38 : decode cX11_tell 38 = .ok (.ireturn, 1) := by decide +kernel
theorem dX11_tell_39 : decode cX11_tell 39 = .ok (.aload_n 0, 1) := by decide +kernel
theorem dX11_tell_40 : decode cX11_tell 40 = .ok (.getfield 37, 3) := by decide +kernel
theorem dX11_tell_43 : decode cX11_tell 43 = .ok (.iload_n 1, 1) := by decide +kernel
theorem dX11_tell_44 : decode cX11_tell 44 = .ok (.lload_n 2, 1) := by decide +kernel
theorem dX11_tell_45 : decode cX11_tell 45 = .ok (.invokevirtual 242, 3) := by decide +kernel
theorem dX11_tell_48 : decode cX11_tell 48 = .ok (.aload_n 0, 1) := by decide +kernel
theorem dX11_tell_49 : decode cX11_tell 49 = .ok (.getfield 37, 3) := by decide +kernel
theorem dX11_tell_52 : decode cX11_tell 52 = .ok (.getfield 246, 3) := by decide +kernel
theorem dX11_tell_55 : decode cX11_tell 55 = .ok (.iconst 1, 1) := by decide +kernel
theorem dX11_tell_56 : decode cX11_tell 56 = .ok (.isub, 1) := by decide +kernel
theorem dX11_tell_57 : decode cX11_tell 57 = .ok (.ireturn, 1) := by decide +kernel
set_option maxRecDepth 20000 in
theorem ggX11_forget_X9_clear : GoodIn wsX11_forget wsX9_clear := goodIn_r _ [7, 8, 20, 21, 22, 23] (by decide +kernel) (by decide +kernel)
set_option maxRecDepth 20000 in
theorem gX11_forget_X9_clear : GoodIn wsX11_forget (wsV RX11 70 RX9 yX9_clear wsX9_clear) := goodIn_app (goodIn_of _ (by decide +kernel)) ggX11_forget_X9_clear
theorem dX11_forget_0 : decode cX11_forget 0 = .ok (.aload_n 0, 1) := by decide +kernel
theorem dX11_forget_1 : decode cX11_forget 1 = .ok (.getfield 37, 3) := by decide +kernel
theorem dX11_forget_4 : decode cX11_forget 4 = .ok (.getfield 246, 3) := by decide +kernel
theorem dX11_forget_7 : decode cX11_forget 7 = .ok (.istore_n 1, 1) := by decide +kernel
theorem dX11_forget_8 : decode cX11_forget 8 = .ok (.aload_n 0, 1) := by decide +kernel
theorem dX11_forget_9 : decode cX11_forget 9 = .ok (.getfield 37, 3) := by decide +kernel
theorem dX11_forget_12 : decode cX11_forget 12 = .ok (.invokevirtual 70, 3) := by decide +kernel
theorem dX11_forget_15 : decode cX11_forget 15 = .ok (.iload_n 1, 1) := by decide +kernel
theorem dX11_forget_16 : decode cX11_forget 16 = .ok (.ireturn, 1) := by decide +kernel
set_option maxRecDepth 20000 in
theorem ggX11_choose_X11_within : GoodIn wsX11_choose wsX11_within := goodIn_r _ [9] (by decide +kernel) (by decide +kernel)
set_option maxRecDepth 20000 in
theorem gX11_choose_X11_within : GoodIn wsX11_choose (va_wsS RX11 119 yX11_within wsX11_within) := goodIn_app (goodIn_of _ (by decide +kernel)) ggX11_choose_X11_within
set_option maxRecDepth 20000 in
theorem ggX11_choose_X1_select : GoodIn wsX11_choose wsX1_select := goodIn_r _ [14, 15, 16, 17, 18, 19, 20, 21, 22, 23, 24, 25, 26, 27, 28, 29, 30, 31, 32, 33, 13, 34, 35, 51, 52, 53, 54, 55, 56, 57, 58, 59, 60, 61, 62, 63, 64, 47, 48, 49, 50] (by decide +kernel) (by decide +kernel)
set_option maxRecDepth 20000 in
theorem gX11_choose_X1_select : GoodIn wsX11_choose (wsV RX11 249 RX1 yX1_select wsX1_select) := goodIn_app (goodIn_of _ (by decide +kernel)) ggX11_choose_X1_select
theorem dX11_choose_0 : decode cX11_choose 0 = .ok (.iload_n 1, 1) := by decide +kernel
theorem dX11_choose_1 : decode cX11_choose 1 = .ok (.i2l, 1) := by decide +kernel
theorem dX11_choose_2 : decode cX11_choose 2 = .ok (.lconst 0, 1) := by decide +kernel
theorem dX11_choose_3 : decode cX11_choose 3 = .ok (.aload_n 0, 1) := by decide +kernel
theorem dX11_choose_4 : decode cX11_choose 4 = .ok (.getfield 37, 3) := by decide +kernel
theorem dX11_choose_7 : decode cX11_choose 7 = .ok (.getfield 246, 3) := by decide +kernel
theorem dX11_choose_10 : decode cX11_choose 10 = .ok (.i2l, 1) := by decide +kernel
theorem dX11_choose_11 : decode cX11_choose 11 = .ok (.invokestatic 119, 3) := by decide +kernel
theorem dX11_choose_14 : decode cX11_choose 14 = .ok (.ifCond .eq 27, 3) := by decide +kernel
theorem dX11_choose_17 : decode cX11_choose 17 = .ok (.iload_n 2, 1) := by decide +kernel
theorem dX11_choose_18 : decode cX11_choose 18 = .ok (.i2l, 1) := by decide +kernel
theorem dX11_choose_19 : decode cX11_choose 19 = .ok (.lconst 0, 1) := by decide +kernel
theorem dX11_choose_20 : decode cX11_choose 20 = .ok (.ldc2_w 247, 3) := by decide +kernel
theorem dX11_choose_23 : decode cX11_choose 23 = .ok (.invokestatic 119, 3) := by decide +kernel
theorem dX11_choose_26 : decode cX11_choose 26 = .ok (.ifCond .eq 15, 3) := by decide +kernel
theorem dX11_choose_29 : decode cX11_choose 29 = .ok (.iload_n 3, 1) := by decide +kernel
theorem dX11_choose_30 : decode cX11_choose 30 = .ok (.i2l, 1) := by decide +kernel
theorem dX11_choose_31 : decode cX11_choose 31 = .ok (.lconst 0, 1) := by decide +kernel
theorem dX11_choose_32 : decode cX11_choose 32 = .ok (.ldc2_w 195, 3) := by decide +kernel
theorem dX11_choose_35 : decode cX11_choose 35 = .ok (.invokestatic 119, 3) := by decide +kernel
theorem dX11_choose_38 : decode cX11_choose 38 = .ok (.ifCond .ne 5, 3) := by decide +kernel
theorem dX11_choose_41 : decode cX11_choose 41 = .ok (.iconst 0, 1) := by decide +kernel
theorem dX11_choose_42 : decode cX11_choose 42 = .ok (.ireturn, 1) := by decide +kernel
theorem dX11_choose_43 : decode cX11_choose 43 = .ok (.aload_n 0, 1) := by decide +kernel
theorem dX11_choose_44 : decode cX11_choose 44 = .ok (.getfield 63, 3) := by decide +kernel
theorem dX11_choose_47 : decode cX11_choose 47 = .ok (.aload_n 0, 1) := by decide +kernel
theorem dX11_choose_48 : decode cX11_choose 48 = .ok (.getfield 37, 3) := by decide +kernel
theorem dX11_choose_51 : decode cX11_choose 51 = .ok (.iload_n 1, 1) := by decide +kernel
theorem dX11_choose_52 : decode cX11_choose 52 = .ok (.iload_n 2, 1) := by decide +kernel
theorem dX11_choose_53 : decode cX11_choose 53 = .ok (.iload_n 3, 1) := by decide +kernel
theorem dX11_choose_54 : decode cX11_choose 54 = .ok (.invokevirtual 249, 3) := by decide +kernel
theorem dX11_choose_57 : decode cX11_choose 57 = .ok (.iconst 1, 1) := by decide +kernel
theorem dX11_choose_58 : decode cX11_choose 58 = .ok (.ireturn, 1) := by decide +kernel
set_option maxRecDepth 20000 in
theorem ggX11_fits_X11_choose : GoodIn wsX11_fits wsX11_choose := goodIn_r _ [8, 9, 10, 11, 12, 1, 13, 14, 7, 15, 16, 17, 18, 19, 20, 21, 22, 23, 24, 25, 26, 27, 28, 29, 30, 31, 32, 33, 34, 35, 36, 37, 38, 39, 40, 41, 42, 43, 44, 45, 46, 47, 48, 49, 50, 51, 52, 60, 61, 62, 63, 53, 54, 55, 56, 57, 58, 59, 64, 65, 66, 67, 68, 69, 70] (by decide +kernel) (by decide +kernel)
set_option maxRecDepth 20000 in
theorem gX11_fits_X11_choose : GoodIn wsX11_fits (wsV RX11 253 RX11 yX11_choose wsX11_choose) := goodIn_app (goodIn_of _ (by decide +kernel)) ggX11_fits_X11_choose
theorem dX11_fits_0 : decode cX11_fits 0 = .ok (.iload 4, 2) := by decide +kernel
theorem dX11_fits_2 : decode cX11_fits 2 = .ok (.iconst (-1), 1) := by decide +kernel
theorem dX11_fits_3 : decode cX11_fits 3 = .ok (.if_icmp .lt 13, 3) := by decide +kernel
theorem dX11_fits_6 : decode cX11_fits 6 = .ok (.aload_n 0, 1) := by decide +kernel
theorem dX11_fits_7 : decode cX11_fits 7 = .ok (.iload_n 1, 1) := by decide +kernel
theorem dX11_fits_8 : decode cX11_fits 8 = .ok (.iload_n 2, 1) := by decide +kernel
theorem dX11_fits_9 : decode cX11_fits 9 = .ok (.iload_n 3, 1) := by decide +kernel
theorem dX11_fits_10 : decode cX11_fits 10 = .ok (.invokevirtual 253, 3) := by decide +kernel
theorem dX11_fits_13 : decode cX11_fits 13 = .ok (.ifCond .ne 5, 3) := by decide +kernel
theorem dX11_fits_16 : decode cX11_fits 16 = .ok (.iconst (-1), 1) := by decide +kernel
theorem dX11_fits_17 : decode cX11_fits 17 = .ok (.ireturn, 1) := by decide +kernel
theorem dX11_fits_18 : decode cX11_fits 18 = .ok (.iload 4, 2) := by decide +kernel
theorem dX11_fits_20 : decode cX11_fits 20 = .ok (.iconst (-1), 1) := by decide +kernel
theorem dX11_fits_21 : decode cX11_fits 21 = .ok (.if_icmp .ne 11, 3) := by decide +kernel
theorem dX11_fits_24 : decode cX11_fits 24 = .ok (.aload_n 0, 1) := by decide +kernel
theorem dX11_fits_25 : decode cX11_fits 25 = .ok (.getfield 63, 3) := by decide +kernel
theorem dX11_fits_28 : decode cX11_fits 28 = .ok (.getfield 212, 3) := by decide +kernel
theorem dX11_fits_31 : decode cX11_fits 31 = .ok (.ireturn, 1) := by decide +kernel
theorem dX11_fits_32 : decode cX11_fits 32 = .ok (.iload 4, 2) := by decide +kernel
theorem dX11_fits_34 : decode cX11_fits 34 = .ok (.aload_n 0, 1) := by decide +kernel
theorem dX11_fits_35 : decode cX11_fits 35 = .ok (.getfield 63, 3) := by decide +kernel
theorem dX11_fits_38 : decode cX11_fits 38 = .ok (.getfield 212, 3) := by decide +kernel
theorem dX11_fits_41 : decode cX11_fits 41 = .ok (.if_icmp .ge 16, 3) := by decide +kernel
theorem dX11_fits_44 : decode cX11_fits 44 = .ok (.aload_n 0, 1) := by decide +kernel
theorem dX11_fits_45 : decode cX11_fits 45 = .ok (.getfield 63, 3) := by decide +kernel
theorem dX11_fits_48 : decode cX11_fits 48 = .ok (.getfield 256, 3) := by decide +kernel
theorem dX11_fits_51 : decode cX11_fits 51 = .ok (.iload 4, 2) := by decide +kernel
theorem dX11_fits_53 : decode cX11_fits 53 = .ok (.iaload, 1) := by decide +kernel
theorem dX11_fits_54 : decode cX11_fits 54 = .ok (.goto 4, 3) := by decide +kernel
theorem dX11_fits_57 : decode cX11_fits 57 = .ok (.iconst (-1), 1) := by decide +kernel
theorem dX11_fits_58 : decode cX11_fits 58 = .ok (.ireturn, 1) := by decide +kernel
set_option maxRecDepth 20000 in
theorem ggX11_sure_X11_choose : GoodIn wsX11_sure wsX11_choose := goodIn_r _ [6, 7, 8, 9, 10, 1, 11, 12, 5, 13, 14, 15, 16, 17, 18, 19, 20, 21, 22, 23, 24, 25, 26, 27, 28, 29, 30, 31, 32, 33, 34, 35, 36, 37, 38, 39, 65, 66, 67, 68, 69, 70, 71, 72, 73, 74, 75, 76, 77, 78, 79, 80, 81, 82, 83, 84, 85, 86, 87, 88, 89, 90, 91, 92, 93] (by decide +kernel) (by decide +kernel)
set_option maxRecDepth 20000 in
theorem gX11_sure_X11_choose : GoodIn wsX11_sure (wsV RX11 253 RX11 yX11_choose wsX11_choose) := goodIn_app (goodIn_of _ (by decide +kernel)) ggX11_sure_X11_choose
set_option maxRecDepth 20000 in
theorem ggX11_sure_X1_surePlaces : GoodIn wsX11_sure wsX1_surePlaces := goodIn_r _ [43, 20, 44, 19, 45, 46, 47, 17, 48, 23, 49, 50, 51, 52, 53, 54, 55, 30, 56, 34, 57, 58, 59, 60, 61, 62, 63, 64, 80, 81, 82, 83, 84, 85, 86, 87, 88, 89, 90, 91, 92, 93] (by decide +kernel) (by decide +kernel)
set_option maxRecDepth 20000 in
theorem gX11_sure_X1_surePlaces : GoodIn wsX11_sure (wsV RX11 259 RX1 yX1_surePlaces wsX1_surePlaces) := goodIn_app (goodIn_of _ (by decide +kernel)) ggX11_sure_X1_surePlaces
theorem dX11_sure_0 : decode cX11_sure 0 = .ok (.aload_n 0, 1) := by decide +kernel
theorem dX11_sure_1 : decode cX11_sure 1 = .ok (.iload_n 1, 1) := by decide +kernel
theorem dX11_sure_2 : decode cX11_sure 2 = .ok (.iload_n 2, 1) := by decide +kernel
theorem dX11_sure_3 : decode cX11_sure 3 = .ok (.iload_n 3, 1) := by decide +kernel
theorem dX11_sure_4 : decode cX11_sure 4 = .ok (.invokevirtual 253, 3) := by decide +kernel
theorem dX11_sure_7 : decode cX11_sure 7 = .ok (.ifCond .eq 13, 3) := by decide +kernel
theorem dX11_sure_10 : decode cX11_sure 10 = .ok (.aload_n 0, 1) := by decide +kernel
theorem dX11_sure_11 : decode cX11_sure 11 = .ok (.getfield 63, 3) := by decide +kernel
theorem dX11_sure_14 : decode cX11_sure 14 = .ok (.invokevirtual 259, 3) := by decide +kernel
theorem dX11_sure_17 : decode cX11_sure 17 = .ok (.goto 4, 3) := by decide +kernel
theorem dX11_sure_20 : decode cX11_sure 20 = .ok (.iconst (-1), 1) := by decide +kernel
theorem dX11_sure_21 : decode cX11_sure 21 = .ok (.ireturn, 1) := by decide +kernel
set_option maxRecDepth 20000 in
theorem ggX11_span_X11_choose : GoodIn wsX11_span wsX11_choose := goodIn_r _ [9, 10, 11, 12, 13, 3, 14, 15, 8, 16, 17, 18, 19, 20, 21, 22, 23, 24, 25, 26, 27, 28, 29, 30, 31, 32, 33, 34, 35, 36, 37, 38, 39, 40, 41, 42, 63, 64, 65, 66, 67, 68, 69, 70, 71, 72, 73, 88, 89, 90, 91, 81, 82, 83, 84, 85, 86, 87, 74, 75, 76, 77, 78, 79, 80] (by decide +kernel) (by decide +kernel)
set_option maxRecDepth 20000 in
theorem gX11_span_X11_choose : GoodIn wsX11_span (wsV RX11 253 RX11 yX11_choose wsX11_choose) := goodIn_app (goodIn_of _ (by decide +kernel)) ggX11_span_X11_choose
set_option maxRecDepth 20000 in
theorem ggX11_span_X1_leastAt : GoodIn wsX11_span wsX1_leastAt := goodIn_r _ [46, 22, 23, 26, 47, 48, 49, 50, 51, 52, 53, 33, 54, 37, 55, 56, 57, 81, 82, 83, 84, 85, 86, 87, 74, 75, 76, 77, 78, 79, 80] (by decide +kernel) (by decide +kernel)
set_option maxRecDepth 20000 in
theorem gX11_span_X1_leastAt : GoodIn wsX11_span (wsV RX11 263 RX1 yX1_leastAt wsX1_leastAt) := goodIn_app (goodIn_of _ (by decide +kernel)) ggX11_span_X1_leastAt
set_option maxRecDepth 20000 in
theorem ggX11_span_X1_greatestAt : GoodIn wsX11_span wsX1_greatestAt := goodIn_r _ [61, 22, 23, 26, 62, 56, 49, 57, 51, 52, 53, 33, 54, 37, 55, 81, 82, 83, 84, 85, 86, 87, 74, 75, 76, 77, 78, 79, 80] (by decide +kernel) (by decide +kernel)
set_option maxRecDepth 20000 in
theorem gX11_span_X1_greatestAt : GoodIn wsX11_span (wsV RX11 266 RX1 yX1_greatestAt wsX1_greatestAt) := goodIn_app (goodIn_of _ (by decide +kernel)) ggX11_span_X1_greatestAt
theorem dX11_span_0 : decode cX11_span 0 = .ok (.iload 4, 2) := by decide +kernel
theorem dX11_span_2 : decode cX11_span 2 = .ok (.ifCond .lt 25, 3) := by decide +kernel
theorem dX11_span_5 : decode cX11_span 5 = .ok (.iload 4, 2) := by decide +kernel
theorem dX11_span_7 : decode cX11_span 7 = .ok (.aload_n 0, 1) := by decide +kernel
theorem dX11_span_8 : decode cX11_span 8 = .ok (.getfield 54, 3) := by decide +kernel
theorem dX11_span_11 : decode cX11_span 11 = .ok (.getfield 187, 3) := by decide +kernel
theorem dX11_span_14 : decode cX11_span 14 = .ok (.if_icmp .ge 13, 3) := by decide +kernel
theorem dX11_span_17 : decode cX11_span 17 = .ok (.aload_n 0, 1) := by decide +kernel
theorem dX11_span_18 : decode cX11_span 18 = .ok (.iload_n 1, 1) := by decide +kernel
theorem dX11_span_19 : decode cX11_span 19 = .ok (.iload_n 2, 1) := by decide +kernel
theorem dX11_span_20 : decode cX11_span 20 = .ok (.iload_n 3, 1) := by decide +kernel
theorem dX11_span_21 : decode cX11_span 21 = .ok (.invokevirtual 253, 3) := by decide +kernel
theorem dX11_span_24 : decode cX11_span 24 = .ok (.ifCond .ne 5, 3) := by decide +kernel
theorem dX11_span_27 : decode cX11_span 27 = .ok (.iconst (-1), 1) := by decide +kernel
theorem dX11_span_28 : decode cX11_span 28 = .ok (.ireturn, 1) := by decide +kernel
theorem dX11_span_29 : decode cX11_span 29 = .ok (.aload_n 0, 1) := by decide +kernel
theorem dX11_span_30 : decode cX11_span 30 = .ok (.getfield 63, 3) := by decide +kernel
theorem dX11_span_33 : decode cX11_span 33 = .ok (.getfield 212, 3) := by decide +kernel
theorem dX11_span_36 : decode cX11_span 36 = .ok (.ifCond .ne 6, 3) := by decide +kernel
theorem dX11_span_39 : decode cX11_span 39 = .ok (.bipush (-2), 2) := by decide +kernel
theorem dX11_span_41 : decode cX11_span 41 = .ok (.ireturn, 1) := by decide +kernel
theorem dX11_span_42 : decode cX11_span 42 = .ok (.bipush 10, 2) := by decide +kernel
theorem dX11_span_44 : decode cX11_span 44 = .ok (.aload_n 0, 1) := by decide +kernel
theorem dX11_span_45 : decode cX11_span 45 = .ok (.getfield 63, 3) := by decide +kernel
theorem dX11_span_48 : decode cX11_span 48 = .ok (.iload 4, 2) := by decide +kernel
theorem dX11_span_50 : decode cX11_span 50 = .ok (.invokevirtual 263, 3) := by decide +kernel
theorem dX11_span_53 : decode cX11_span 53 = .ok (.imul, 1) := by decide +kernel
theorem dX11_span_54 : decode cX11_span 54 = .ok (.aload_n 0, 1) := by decide +kernel
theorem dX11_span_55 : decode cX11_span 55 = .ok (.getfield 63, 3) := by decide +kernel
theorem dX11_span_58 : decode cX11_span 58 = .ok (.iload 4, 2) := by decide +kernel
theorem dX11_span_60 : decode cX11_span 60 = .ok (.invokevirtual 266, 3) := by decide +kernel
theorem dX11_span_63 : decode cX11_span 63 = .ok (.iadd, 1) := by decide +kernel
theorem dX11_span_64 : decode cX11_span 64 = .ok (.ireturn, 1) := by decide +kernel
set_option maxRecDepth 20000 in
theorem ggX11_liars_X11_choose : GoodIn wsX11_liars wsX11_choose := goodIn_r _ [7, 2, 8, 9, 10, 1, 11, 12, 6, 13, 14, 15, 16, 17, 18, 19, 20, 21, 22, 23, 24, 25, 26, 27, 28, 29, 30, 31, 32, 33, 34, 35, 36, 37, 38, 39, 48, 49, 50, 51, 52, 53, 54, 55, 56, 57, 58, 59, 60, 61, 62, 63, 64, 65, 66, 67, 68, 69, 70, 71, 72, 73, 74, 75, 76] (by decide +kernel) (by decide +kernel)
set_option maxRecDepth 20000 in
theorem gX11_liars_X11_choose : GoodIn wsX11_liars (wsV RX11 253 RX11 yX11_choose wsX11_choose) := goodIn_app (goodIn_of _ (by decide +kernel)) ggX11_liars_X11_choose
set_option maxRecDepth 20000 in
theorem ggX11_liars_X1_sureLiars : GoodIn wsX11_liars wsX1_sureLiars := goodIn_r _ [43, 19, 20, 25, 26, 27, 28, 29, 30, 31, 32, 33, 34, 44, 45, 46, 17, 47, 39, 23, 63, 64, 65, 66, 67, 68, 69, 59, 60, 61, 62, 70, 71, 72, 73, 74, 75, 76] (by decide +kernel) (by decide +kernel)
set_option maxRecDepth 20000 in
theorem gX11_liars_X1_sureLiars : GoodIn wsX11_liars (wsV RX11 269 RX1 yX1_sureLiars wsX1_sureLiars) := goodIn_app (goodIn_of _ (by decide +kernel)) ggX11_liars_X1_sureLiars
theorem dX11_liars_0 : decode cX11_liars 0 = .ok (.aload_n 0, 1) := by decide +kernel
theorem dX11_liars_1 : decode cX11_liars 1 = .ok (.iload_n 1, 1) := by decide +kernel
theorem dX11_liars_2 : decode cX11_liars 2 = .ok (.iload_n 2, 1) := by decide +kernel
theorem dX11_liars_3 : decode cX11_liars 3 = .ok (.iload_n 3, 1) := by decide +kernel
theorem dX11_liars_4 : decode cX11_liars 4 = .ok (.invokevirtual 253, 3) := by decide +kernel
theorem dX11_liars_7 : decode cX11_liars 7 = .ok (.ifCond .eq 18, 3) := by decide +kernel
theorem dX11_liars_10 : decode cX11_liars 10 = .ok (.aload_n 0, 1) := by decide +kernel
theorem dX11_liars_11 : decode cX11_liars 11 = .ok (.getfield 63, 3) := by decide +kernel
theorem dX11_liars_14 : decode cX11_liars 14 = .ok (.aload_n 0, 1) := by decide +kernel
theorem dX11_liars_15 : decode cX11_liars 15 = .ok (.getfield 37, 3) := by decide +kernel
theorem dX11_liars_18 : decode cX11_liars 18 = .ok (.iload_n 1, 1) := by decide +kernel
theorem dX11_liars_19 : decode cX11_liars 19 = .ok (.invokevirtual 269, 3) := by decide +kernel
theorem dX11_liars_22 : decode cX11_liars 22 = .ok (.goto 4, 3) := by decide +kernel
theorem dX11_liars_25 : decode cX11_liars 25 = .ok (.iconst (-1), 1) := by decide +kernel
theorem dX11_liars_26 : decode cX11_liars 26 = .ok (.ireturn, 1) := by decide +kernel
set_option maxRecDepth 20000 in
theorem ggX11_next_X11_within : GoodIn wsX11_next wsX11_within := goodIn_r _ [8] (by decide +kernel) (by decide +kernel)
set_option maxRecDepth 20000 in
theorem gX11_next_X11_within : GoodIn wsX11_next (va_wsS RX11 119 yX11_within wsX11_within) := goodIn_app (goodIn_of _ (by decide +kernel)) ggX11_next_X11_within
set_option maxRecDepth 20000 in
theorem ggX11_next_X11_choose : GoodIn wsX11_next wsX11_choose := goodIn_r _ [12, 13, 14, 15, 16, 1, 5, 6, 7, 8, 17, 18, 19, 20, 21, 22, 23, 24, 25, 26, 27, 28, 29, 30, 31, 32, 33, 34, 35, 36, 37, 38, 39, 40, 41, 42, 79, 80, 81, 82, 83, 84, 85, 86, 87, 88, 89, 97, 98, 99, 100, 90, 91, 92, 93, 94, 95, 96, 101, 102, 103, 104, 105, 106, 107] (by decide +kernel) (by decide +kernel)
set_option maxRecDepth 20000 in
theorem gX11_next_X11_choose : GoodIn wsX11_next (wsV RX11 253 RX11 yX11_choose wsX11_choose) := goodIn_app (goodIn_of _ (by decide +kernel)) ggX11_next_X11_choose
set_option maxRecDepth 20000 in
theorem ggX11_next_X1_findQuestion : GoodIn wsX11_next wsX1_findQuestion := goodIn_r _ [46, 47, 22, 48, 49, 50, 51, 20, 52, 23, 53, 27, 42, 26, 54, 55, 56, 57, 30, 31, 32, 33, 34, 35, 36, 37, 58, 59, 60, 61, 62, 63, 64, 65, 66, 67, 68, 69, 70, 71, 72, 73, 74, 75, 76, 77, 78, 90, 91, 92, 93, 94, 95, 96, 101, 102, 103, 104, 105, 106, 107, 108, 109, 110] (by decide +kernel) (by decide +kernel)
set_option maxRecDepth 20000 in
theorem gX11_next_X1_findQuestion : GoodIn wsX11_next (wsV RX11 273 RX1 yX1_findQuestion wsX1_findQuestion) := goodIn_app (goodIn_of _ (by decide +kernel)) ggX11_next_X1_findQuestion
theorem dX11_next_0 : decode cX11_next 0 = .ok (.iload 4, 2) := by decide +kernel
theorem dX11_next_2 : decode cX11_next 2 = .ok (.i2l, 1) := by decide +kernel
theorem dX11_next_3 : decode cX11_next 3 = .ok (.lconst 0, 1) := by decide +kernel
theorem dX11_next_4 : decode cX11_next 4 = .ok (.lconst 1, 1) := by decide +kernel
theorem dX11_next_5 : decode cX11_next 5 = .ok (.invokestatic 119, 3) := by decide +kernel
theorem dX11_next_8 : decode cX11_next 8 = .ok (.ifCond .eq 13, 3) := by decide +kernel
theorem dX11_next_11 : decode cX11_next 11 = .ok (.aload_n 0, 1) := by decide +kernel
theorem dX11_next_12 : decode cX11_next 12 = .ok (.iload_n 1, 1) := by decide +kernel
theorem dX11_next_13 : decode cX11_next 13 = .ok (.iload_n 2, 1) := by decide +kernel
theorem dX11_next_14 : decode cX11_next 14 = .ok (.iload_n 3, 1) := by decide +kernel
theorem dX11_next_15 : decode cX11_next 15 = .ok (.invokevirtual 253, 3) := by decide +kernel
theorem dX11_next_18 : decode cX11_next 18 = .ok (.ifCond .ne 7, 3) := by decide +kernel
theorem dX11_next_21 : decode cX11_next 21 = .ok (.sipush (-1000), 3) := by decide +kernel
theorem dX11_next_24 : decode cX11_next 24 = .ok (.ireturn, 1) := by decide +kernel
theorem dX11_next_25 : decode cX11_next 25 = .ok (.aload_n 0, 1) := by decide +kernel
theorem dX11_next_26 : decode cX11_next 26 = .ok (.getfield 63, 3) := by decide +kernel
theorem dX11_next_29 : decode cX11_next 29 = .ok (.getfield 212, 3) := by decide +kernel
theorem dX11_next_32 : decode cX11_next 32 = .ok (.ifCond .ne 7, 3) := by decide +kernel
theorem dX11_next_35 : decode cX11_next 35 = .ok (.sipush (-2000), 3) := by decide +kernel
theorem dX11_next_38 : decode cX11_next 38 = .ok (.ireturn, 1) := by decide +kernel
theorem dX11_next_39 : decode cX11_next 39 = .ok (.aload_n 0, 1) := by decide +kernel
theorem dX11_next_40 : decode cX11_next 40 = .ok (.getfield 63, 3) := by decide +kernel
theorem dX11_next_43 : decode cX11_next 43 = .ok (.invokevirtual 273, 3) := by decide +kernel
theorem dX11_next_46 : decode cX11_next 46 = .ok (.iload 4, 2) := by decide +kernel
theorem dX11_next_48 : decode cX11_next 48 = .ok (.ifCond .ne 13, 3) := by decide +kernel
theorem dX11_next_51 : decode cX11_next 51 = .ok (.aload_n 0, 1) := by decide +kernel
theorem dX11_next_52 : decode cX11_next 52 = .ok (.getfield 63, 3) := by decide +kernel
theorem dX11_next_55 : decode cX11_next 55 = .ok (.getfield 276, 3) := by decide +kernel
theorem dX11_next_58 : decode cX11_next 58 = .ok (.goto 10, 3) := by decide +kernel
theorem dX11_next_61 : decode cX11_next 61 = .ok (.aload_n 0, 1) := by decide +kernel
theorem dX11_next_62 : decode cX11_next 62 = .ok (.getfield 63, 3) := by decide +kernel
theorem dX11_next_65 : decode cX11_next 65 = .ok (.getfield 279, 3) := by decide +kernel
theorem dX11_next_68 : decode cX11_next 68 = .ok (.ireturn, 1) := by decide +kernel
set_option maxRecDepth 20000 in
theorem ggX11_enough_X11_choose : GoodIn wsX11_enough wsX11_choose := goodIn_r _ [6, 7, 8, 9, 10, 1, 11, 12, 5, 13, 14, 15, 16, 17, 18, 19, 20, 21, 22, 23, 24, 25, 26, 27, 28, 29, 30, 31, 32, 33, 34, 35, 36, 37, 38, 39, 65, 66, 67, 68, 69, 70, 71, 72, 73, 74, 75, 76, 77, 78, 79, 80, 81, 82, 83, 84, 85, 86, 87, 88, 89, 90, 91, 92, 93] (by decide +kernel) (by decide +kernel)
set_option maxRecDepth 20000 in
theorem gX11_enough_X11_choose : GoodIn wsX11_enough (wsV RX11 253 RX11 yX11_choose wsX11_choose) := goodIn_app (goodIn_of _ (by decide +kernel)) ggX11_enough_X11_choose
set_option maxRecDepth 20000 in
theorem ggX11_enough_X1_enoughQuestions : GoodIn wsX11_enough wsX1_enoughQuestions := goodIn_r _ [43, 19, 44, 45, 46, 17, 47, 20, 48, 39, 23, 27, 28, 29, 30, 31, 32, 33, 34, 49, 50, 51, 52, 53, 54, 55, 56, 57, 58, 59, 60, 61, 62, 63, 64, 80, 81, 82, 83, 84, 85, 86, 87, 88, 89, 90, 91, 92, 93] (by decide +kernel) (by decide +kernel)
set_option maxRecDepth 20000 in
theorem gX11_enough_X1_enoughQuestions : GoodIn wsX11_enough (wsV RX11 282 RX1 yX1_enoughQuestions wsX1_enoughQuestions) := goodIn_app (goodIn_of _ (by decide +kernel)) ggX11_enough_X1_enoughQuestions
theorem dX11_enough_0 : decode cX11_enough 0 = .ok (.aload_n 0, 1) := by decide +kernel
theorem dX11_enough_1 : decode cX11_enough 1 = .ok (.iload_n 1, 1) := by decide +kernel
theorem dX11_enough_2 : decode cX11_enough 2 = .ok (.iload_n 2, 1) := by decide +kernel
theorem dX11_enough_3 : decode cX11_enough 3 = .ok (.iload_n 3, 1) := by decide +kernel
theorem dX11_enough_4 : decode cX11_enough 4 = .ok (.invokevirtual 253, 3) := by decide +kernel
theorem dX11_enough_7 : decode cX11_enough 7 = .ok (.ifCond .eq 13, 3) := by decide +kernel
theorem dX11_enough_10 : decode cX11_enough 10 = .ok (.aload_n 0, 1) := by decide +kernel
theorem dX11_enough_11 : decode cX11_enough 11 = .ok (.getfield 63, 3) := by decide +kernel
theorem dX11_enough_14 : decode cX11_enough 14 = .ok (.invokevirtual 282, 3) := by decide +kernel
theorem dX11_enough_17 : decode cX11_enough 17 = .ok (.goto 4, 3) := by decide +kernel
theorem dX11_enough_20 : decode cX11_enough 20 = .ok (.iconst (-1), 1) := by decide +kernel
theorem dX11_enough_21 : decode cX11_enough 21 = .ok (.ireturn, 1) := by decide +kernel
set_option maxRecDepth 20000 in
theorem ggX11_cost_X11_within : GoodIn wsX11_cost wsX11_within := goodIn_r _ [7] (by decide +kernel) (by decide +kernel)
set_option maxRecDepth 20000 in
theorem gX11_cost_X11_within : GoodIn wsX11_cost (va_wsS RX11 119 yX11_within wsX11_within) := goodIn_app (goodIn_of _ (by decide +kernel)) ggX11_cost_X11_within
set_option maxRecDepth 20000 in
theorem ggX11_cost_X11_figuresOf : GoodIn wsX11_cost wsX11_figuresOf := goodIn_r _ [10, 11, 12, 13, 14, 15] (by decide +kernel) (by decide +kernel)
set_option maxRecDepth 20000 in
theorem gX11_cost_X11_figuresOf : GoodIn wsX11_cost (va_wsS RX11 138 yX11_figuresOf wsX11_figuresOf) := goodIn_app (goodIn_of _ (by decide +kernel)) ggX11_cost_X11_figuresOf
theorem dX11_cost_0 : decode cX11_cost 0 = .ok (.iload_n 1, 1) := by decide +kernel
theorem dX11_cost_1 : decode cX11_cost 1 = .ok (.i2l, 1) := by decide +kernel
theorem dX11_cost_2 : decode cX11_cost 2 = .ok (.lconst 0, 1) := by decide +kernel
theorem dX11_cost_3 : decode cX11_cost 3 = .ok (.aload_n 0, 1) := by decide +kernel
theorem dX11_cost_4 : decode cX11_cost 4 = .ok (.getfield 37, 3) := by decide +kernel
theorem dX11_cost_7 : decode cX11_cost 7 = .ok (.getfield 246, 3) := by decide +kernel
theorem dX11_cost_10 : decode cX11_cost 10 = .ok (.i2l, 1) := by decide +kernel
theorem dX11_cost_11 : decode cX11_cost 11 = .ok (.invokestatic 119, 3) := by decide +kernel
theorem dX11_cost_14 : decode cX11_cost 14 = .ok (.ifCond .ne 5, 3) := by decide +kernel
theorem dX11_cost_17 : decode cX11_cost 17 = .ok (.iconst (-1), 1) := by decide +kernel
theorem dX11_cost_18 : decode cX11_cost 18 = .ok (.ireturn, 1) := by decide +kernel
theorem dX11_cost_19 : decode cX11_cost 19 = .ok (.iconst 0, 1) := by decide +kernel
theorem dX11_cost_20 : decode cX11_cost 20 = .ok (.istore_n 2, 1) := by decide +kernel
theorem dX11_cost_21 : decode cX11_cost 21 = .ok (.iconst 0, 1) := by decide +kernel
theorem dX11_cost_22 : decode cX11_cost 22 = .ok (.istore_n 3, 1) := by decide +kernel
theorem dX11_cost_23 : decode cX11_cost 23 = .ok (.iload_n 3, 1) := by decide +kernel
theorem dX11_cost_24 : decode cX11_cost 24 = .ok (.iload_n 1, 1) := by decide +kernel
theorem dX11_cost_25 : decode cX11_cost 25 = .ok (.if_icmp .ge 25, 3) := by decide +kernel
theorem dX11_cost_28 : decode cX11_cost 28 = .ok (.iload_n 2, 1) := by decide +kernel
theorem dX11_cost_29 : decode cX11_cost 29 = .ok (.aload_n 0, 1) := by decide +kernel
theorem dX11_cost_30 : decode cX11_cost 30 = .ok (.getfield 37, 3) := by decide +kernel
theorem dX11_cost_33 : decode cX11_cost 33 = .ok (.getfield 285, 3) := by decide +kernel
theorem dX11_cost_36 : decode cX11_cost 36 = .ok (.iload_n 3, 1) := by decide +kernel
theorem dX11_cost_37 : decode cX11_cost 37 = .ok (.iaload, 1) := by decide +kernel
theorem dX11_cost_38 : decode cX11_cost 38 = .ok (.i2l, 1) := by decide +kernel
theorem dX11_cost_39 : decode cX11_cost 39 = .ok (.invokestatic 138, 3) := by decide +kernel
theorem dX11_cost_42 : decode cX11_cost 42 = .ok (.iadd, 1) := by decide +kernel
theorem dX11_cost_43 : decode cX11_cost 43 = .ok (.istore_n 2, 1) := by decide +kernel
theorem dX11_cost_44 : decode cX11_cost 44 = .ok (.iinc 3 1, 3) := by decide +kernel
theorem dX11_cost_47 : decode cX11_cost 47 = .ok (.goto (-24), 3) := by decide +kernel
theorem dX11_cost_50 : decode cX11_cost 50 = .ok (.iload_n 2, 1) := by decide +kernel
theorem dX11_cost_51 : decode cX11_cost 51 = .ok (.ireturn, 1) := by decide +kernel
set_option maxRecDepth 20000 in
theorem ggX11_hide_X11_isRow : GoodIn wsX11_hide wsX11_isRow := goodIn_r _ [8, 9, 10, 17, 18, 19, 20, 21, 22, 23, 24, 25, 26, 27, 28, 29, 30, 31, 32, 33, 34, 35, 36, 37] (by decide +kernel) (by decide +kernel)
set_option maxRecDepth 20000 in
theorem gX11_hide_X11_isRow : GoodIn wsX11_hide (wsV RX11 103 RX11 yX11_isRow wsX11_isRow) := goodIn_app (goodIn_of _ (by decide +kernel)) ggX11_hide_X11_isRow
set_option maxRecDepth 20000 in
theorem ggX11_hide_X9_clear : GoodIn wsX11_hide wsX9_clear := goodIn_r _ [15, 16, 38, 39, 40, 41] (by decide +kernel) (by decide +kernel)
set_option maxRecDepth 20000 in
theorem gX11_hide_X9_clear : GoodIn wsX11_hide (wsV RX11 70 RX9 yX9_clear wsX9_clear) := goodIn_app (goodIn_of _ (by decide +kernel)) ggX11_hide_X9_clear
theorem dX11_hide_0 : decode cX11_hide 0 = .ok (.aload_n 0, 1) := by decide +kernel
theorem dX11_hide_1 : decode cX11_hide 1 = .ok (.iload_n 1, 1) := by decide +kernel
theorem dX11_hide_2 : decode cX11_hide 2 = .ok (.invokevirtual 103, 3) := by decide +kernel
theorem dX11_hide_5 : decode cX11_hide 5 = .ok (.ifCond .ne 5, 3) := by decide +kernel
theorem dX11_hide_8 : decode cX11_hide 8 = .ok (.iconst 0, 1) := by decide +kernel
theorem dX11_hide_9 : decode cX11_hide 9 = .ok (.ireturn, 1) := by decide +kernel
theorem dX11_hide_10 : decode cX11_hide 10 = .ok (.aload_n 0, 1) := by decide +kernel
theorem dX11_hide_11 : decode cX11_hide 11 = .ok (.iload_n 1, 1) := by decide +kernel
theorem dX11_hide_12 : decode cX11_hide 12 = .ok (.putfield 45, 3) := by decide +kernel
theorem dX11_hide_15 : decode cX11_hide 15 = .ok (.aload_n 0, 1) := by decide +kernel
theorem dX11_hide_16 : decode cX11_hide 16 = .ok (.iconst 0, 1) := by decide +kernel
theorem dX11_hide_17 : decode cX11_hide 17 = .ok (.putfield 48, 3) := by decide +kernel
theorem dX11_hide_20 : decode cX11_hide 20 = .ok (.aload_n 0, 1) := by decide +kernel
theorem dX11_hide_21 : decode cX11_hide 21 = .ok (.getfield 37, 3) := by decide +kernel
theorem dX11_hide_24 : decode cX11_hide 24 = .ok (.invokevirtual 70, 3) := by decide +kernel
theorem dX11_hide_27 : decode cX11_hide 27 = .ok (.iconst 1, 1) := by decide +kernel
theorem dX11_hide_28 : decode cX11_hide 28 = .ok (.ireturn, 1) := by decide +kernel
set_option maxRecDepth 20000 in
theorem ggX11_ask_X11_isRow : GoodIn wsX11_ask wsX11_isRow := goodIn_r _ [13, 7, 14, 42, 43, 44, 45, 46, 47, 48, 49, 50, 51, 52, 53, 54, 55, 56, 57, 58, 59, 60, 61, 62] (by decide +kernel) (by decide +kernel)
set_option maxRecDepth 20000 in
theorem gX11_ask_X11_isRow : GoodIn wsX11_ask (wsV RX11 103 RX11 yX11_isRow wsX11_isRow) := goodIn_app (goodIn_of _ (by decide +kernel)) ggX11_ask_X11_isRow
set_option maxRecDepth 20000 in
theorem ggX11_ask_X9_isFull : GoodIn wsX11_ask wsX9_isFull := goodIn_r _ [19, 20, 63, 64, 65, 66] (by decide +kernel) (by decide +kernel)
set_option maxRecDepth 20000 in
theorem gX11_ask_X9_isFull : GoodIn wsX11_ask (wsV RX11 234 RX9 yX9_isFull wsX9_isFull) := goodIn_app (goodIn_of _ (by decide +kernel)) ggX11_ask_X9_isFull
set_option maxRecDepth 20000 in
theorem ggX11_ask_X11_within : GoodIn wsX11_ask wsX11_within := goodIn_r _ [23] (by decide +kernel) (by decide +kernel)
set_option maxRecDepth 20000 in
theorem gX11_ask_X11_within : GoodIn wsX11_ask (va_wsS RX11 119 yX11_within wsX11_within) := goodIn_app (goodIn_of _ (by decide +kernel)) ggX11_ask_X11_within
set_option maxRecDepth 20000 in
theorem ggX11_ask_X7_comesTo : GoodIn wsX11_ask wsX7_comesTo := goodIn_r _ [28, 29, 30, 31, 27, 32, 33, 34, 35, 53, 54, 55, 56, 57, 58, 59, 60, 61, 62] (by decide +kernel) (by decide +kernel)
set_option maxRecDepth 20000 in
theorem gX11_ask_X7_comesTo : GoodIn wsX11_ask (wsV RX11 125 RX7 yX7_comesTo wsX7_comesTo) := goodIn_app (goodIn_of _ (by decide +kernel)) ggX11_ask_X7_comesTo
set_option maxRecDepth 20000 in
theorem ggX11_ask_X9_add : GoodIn wsX11_ask wsX9_add := goodIn_r _ [39, 20, 40, 41, 63, 64, 65, 66] (by decide +kernel) (by decide +kernel)
set_option maxRecDepth 20000 in
theorem gX11_ask_X9_add : GoodIn wsX11_ask (wsV RX11 242 RX9 yX9_add wsX9_add) := goodIn_app (goodIn_of _ (by decide +kernel)) ggX11_ask_X9_add
theorem dX11_ask_0 : decode cX11_ask 0 = .ok (.aload_n 0, 1) := by decide +kernel
theorem dX11_ask_1 : decode cX11_ask 1 = .ok (.aload_n 0, 1) := by decide +kernel
theorem dX11_ask_2 : decode cX11_ask 2 = .ok (.getfield 45, 3) := by decide +kernel
theorem dX11_ask_5 : decode cX11_ask 5 = .ok (.invokevirtual 103, 3) := by decide +kernel
theorem dX11_ask_8 : decode cX11_ask 8 = .ok (.ifCond .eq 27, 3) := by decide +kernel
theorem dX11_ask_11 : decode cX11_ask 11 = .ok (.aload_n 0, 1) := by decide +kernel
theorem dX11_ask_12 : decode cX11_ask 12 = .ok (.getfield 37, 3) := by decide +kernel
theorem dX11_ask_15 : decode cX11_ask 15 = .ok (.invokevirtual 234, 3) := by decide +kernel
theorem dX11_ask_18 : decode cX11_ask 18 = .ok (.ifCond .ne 17, 3) := by decide +kernel
theorem dX11_ask_21 : decode cX11_ask 21 = .ok (.iload_n 1, 1) := by decide +kernel
theorem dX11_ask_22 : decode cX11_ask 22 = .ok (.i2l, 1) := by decide +kernel
theorem dX11_ask_23 : decode cX11_ask 23 = .ok (.ldc2_w 201, 3) := by decide +kernel
theorem dX11_ask_26 : decode cX11_ask 26 = .ok (.ldc2_w 203, 3) := by decide +kernel
theorem dX11_ask_29 : decode cX11_ask 29 = .ok (.invokestatic 119, 3) := by decide +kernel
theorem dX11_ask_32 : decode cX11_ask 32 = .ok (.ifCond .ne 7, 3) := by decide +kernel
theorem dX11_ask_35 : decode cX11_ask 35 = .ok (.ldc2_w 123, 3) := by decide +kernel
theorem dX11_ask_38 : decode cX11_ask 38 = .ok (.lreturn, 1) := by decide +kernel
theorem dX11_ask_39 : decode cX11_ask 39 = .ok (.aload_n 0, 1) := by decide +kernel
theorem dX11_ask_40 : decode cX11_ask 40 = .ok (.dup, 1) := by decide +kernel
theorem dX11_ask_41 : decode cX11_ask 41 = .ok (.getfield 48, 3) := by decide +kernel
theorem dX11_ask_44 : decode cX11_ask 44 = .ok (.iconst 1, 1) := by decide +kernel
theorem dX11_ask_45 : decode cX11_ask 45 = .ok (.iadd, 1) := by decide +kernel
theorem dX11_ask_46 : decode cX11_ask 46 = .ok (.putfield 48, 3) := by decide +kernel
theorem dX11_ask_49 : decode cX11_ask 49 = .ok (.aload_n 0, 1) := by decide +kernel
theorem dX11_ask_50 : decode cX11_ask 50 = .ok (.getfield 30, 3) := by decide +kernel
theorem dX11_ask_53 : decode cX11_ask 53 = .ok (.aload_n 0, 1) := by decide +kernel
theorem dX11_ask_54 : decode cX11_ask 54 = .ok (.getfield 45, 3) := by decide +kernel
theorem dX11_ask_57 : decode cX11_ask 57 = .ok (.iload_n 1, 1) := by decide +kernel
theorem dX11_ask_58 : decode cX11_ask 58 = .ok (.i2l, 1) := by decide +kernel
theorem dX11_ask_59 : decode cX11_ask 59 = .ok (.invokevirtual 125, 3) := by decide +kernel
theorem dX11_ask_62 : decode cX11_ask 62 = .ok (.lstore_n 2, 1) := by decide +kernel
theorem dX11_ask_63 : decode cX11_ask 63 = .ok (.aload_n 0, 1) := by decide +kernel
theorem dX11_ask_64 : decode cX11_ask 64 = .ok (.getfield 30, 3) := by decide +kernel
theorem dX11_ask_67 : decode cX11_ask 67 = .ok (.getfield 288, 3) := by decide +kernel
theorem dX11_ask_70 : decode cX11_ask 70 = .ok (.ifCond .le 22, 3) := by decide +kernel
theorem dX11_ask_73 : decode cX11_ask 73 = .ok (.aload_n 0, 1) := by decide +kernel
theorem dX11_ask_74 : decode cX11_ask 74 = .ok (.getfield 48, 3) := by decide +kernel
theorem dX11_ask_77 : decode cX11_ask 77 = .ok (.aload_n 0, 1) := by decide +kernel
theorem dX11_ask_78 : decode cX11_ask 78 = .ok (.getfield 30, 3) := by decide +kernel
theorem dX11_ask_81 : decode cX11_ask 81 = .ok (.getfield 288, 3) := by decide +kernel
theorem dX11_ask_84 : decode cX11_ask 84 = .ok (.irem, 1) := by decide +kernel
theorem dX11_ask_85 : decode cX11_ask 85 = .ok (.ifCond .ne 7, 3) := by decide +kernel
theorem dX11_ask_88 : decode cX11_ask 88 = .ok (.lload_n 2, 1) := by decide +kernel
theorem dX11_ask_89 : decode cX11_ask 89 = .ok (.lconst 1, 1) := by decide +kernel
theorem dX11_ask_90 : decode cX11_ask 90 = .ok (.ladd, 1) := by decide +kernel
theorem dX11_ask_91 : decode cX11_ask 91 = .ok (.lstore_n 2, 1) := by decide +kernel
theorem dX11_ask_92 : decode cX11_ask 92 = .ok (.aload_n 0, 1) := by decide +kernel
theorem dX11_ask_93 : decode cX11_ask 93 = .ok (.getfield 37, 3) := by decide +kernel
theorem dX11_ask_96 : decode cX11_ask 96 = .ok (.iload_n 1, 1) := by decide +kernel
theorem dX11_ask_97 : decode cX11_ask 97 = .ok (.lload_n 2, 1) := by decide +kernel
theorem dX11_ask_98 : decode cX11_ask 98 = .ok (.invokevirtual 242, 3) := by decide +kernel
theorem dX11_ask_101 : decode cX11_ask 101 = .ok (.lload_n 2, 1) := by decide +kernel
theorem dX11_ask_102 : decode cX11_ask 102 = .ok (.lreturn, 1) := by decide +kernel
set_option maxRecDepth 20000 in
theorem ggX11_asks_X2_question : GoodIn wsX11_asks wsX2_question := goodIn_r _ [11, 12, 13, 14, 15, 16, 17, 18, 19, 20, 21, 22, 10, 23, 24, 25, 26, 27, 28, 29, 30, 31, 32, 33, 34, 35, 61, 62, 63, 64, 65] (by decide +kernel) (by decide +kernel)
set_option maxRecDepth 20000 in
theorem gX11_asks_X2_question : GoodIn wsX11_asks (wsV RX11 217 RX2 yX2_question wsX2_question) := goodIn_app (goodIn_of _ (by decide +kernel)) ggX11_asks_X2_question
theorem dX11_asks_0 : decode cX11_asks 0 = .ok (.aload_n 0, 1) := by decide +kernel
theorem dX11_asks_1 : decode cX11_asks 1 = .ok (.getfield 37, 3) := by decide +kernel
theorem dX11_asks_4 : decode cX11_asks 4 = .ok (.getfield 246, 3) := by decide +kernel
theorem dX11_asks_7 : decode cX11_asks 7 = .ok (.ifCond .ne 17, 3) := by decide +kernel
theorem dX11_asks_10 : decode cX11_asks 10 = .ok (.aload_n 0, 1) := by decide +kernel
theorem dX11_asks_11 : decode cX11_asks 11 = .ok (.getfield 30, 3) := by decide +kernel
theorem dX11_asks_14 : decode cX11_asks 14 = .ok (.getfield 213, 3) := by decide +kernel
theorem dX11_asks_17 : decode cX11_asks 17 = .ok (.iconst 0, 1) := by decide +kernel
theorem dX11_asks_18 : decode cX11_asks 18 = .ok (.lconst 0, 1) := by decide +kernel
theorem dX11_asks_19 : decode cX11_asks 19 = .ok (.iconst 0, 1) := by decide +kernel
theorem dX11_asks_20 : decode cX11_asks 20 = .ok (.invokevirtual 217, 3) := by decide +kernel
theorem dX11_asks_23 : decode cX11_asks 23 = .ok (.ireturn, 1) := by decide +kernel
theorem dX11_asks_24 : decode cX11_asks 24 = .ok (.aload_n 0, 1) := by decide +kernel
theorem dX11_asks_25 : decode cX11_asks 25 = .ok (.getfield 37, 3) := by decide +kernel
theorem dX11_asks_28 : decode cX11_asks 28 = .ok (.getfield 246, 3) := by decide +kernel
theorem dX11_asks_31 : decode cX11_asks 31 = .ok (.iconst 1, 1) := by decide +kernel
theorem dX11_asks_32 : decode cX11_asks 32 = .ok (.isub, 1) := by decide +kernel
theorem dX11_asks_33 : decode cX11_asks 33 = .ok (.istore_n 1, 1) := by decide +kernel
theorem dX11_asks_34 : decode cX11_asks 34 = .ok (.aload_n 0, 1) := by decide +kernel
theorem dX11_asks_35 : decode cX11_asks 35 = .ok (.getfield 30, 3) := by decide +kernel
theorem dX11_asks_38 : decode cX11_asks 38 = .ok (.getfield 213, 3) := by decide +kernel
theorem dX11_asks_41 : decode cX11_asks 41 = .ok (.aload_n 0, 1) := by decide +kernel
theorem dX11_asks_42 : decode cX11_asks 42 = .ok (.getfield 37, 3) := by decide +kernel
theorem dX11_asks_45 : decode cX11_asks 45 = .ok (.getfield 246, 3) := by decide +kernel
theorem dX11_asks_48 : decode cX11_asks 48 = .ok (.aload_n 0, 1) := by decide +kernel
theorem dX11_asks_49 : decode cX11_asks 49 = .ok (.getfield 37, 3) := by decide +kernel
theorem dX11_asks_52 : decode cX11_asks 52 = .ok (.getfield 291, 3) := by decide +kernel
theorem dX11_asks_55 : decode cX11_asks 55 = .ok (.iload_n 1, 1) := by decide +kernel
theorem dX11_asks_56 : decode cX11_asks 56 = .ok (.laload, 1) := by decide +kernel
theorem dX11_asks_57 : decode cX11_asks 57 = .ok (.aload_n 0, 1) := by decide +kernel
theorem dX11_asks_58 : decode cX11_asks 58 = .ok (.getfield 37, 3) := by decide +kernel
theorem dX11_asks_61 : decode cX11_asks 61 = .ok (.getfield 285, 3) := by decide +kernel
theorem dX11_asks_64 : decode cX11_asks 64 = .ok (.iload_n 1, 1) := by decide +kernel
theorem dX11_asks_65 : decode cX11_asks 65 = .ok (.iaload, 1) := by decide +kernel
theorem dX11_asks_66 : decode cX11_asks 66 = .ok (.invokevirtual 217, 3) := by decide +kernel
theorem dX11_asks_69 : decode cX11_asks 69 = .ok (.ireturn, 1) := by decide +kernel
theorem dX11_isSlot_0 : decode cX11_isSlot 0 = .ok (.iload_n 0, 1) := by decide +kernel
theorem dX11_isSlot_1 : decode cX11_isSlot 1 = .ok (.ifCond .lt 12, 3) := by decide +kernel
theorem dX11_isSlot_4 : decode cX11_isSlot 4 = .ok (.iload_n 0, 1) := by decide +kernel
theorem dX11_isSlot_5 : decode cX11_isSlot 5 = .ok (.iconst 3, 1) := by decide +kernel
theorem dX11_isSlot_6 : decode cX11_isSlot 6 = .ok (.if_icmp .ge 7, 3) := by decide +kernel
theorem dX11_isSlot_9 : decode cX11_isSlot 9 = .ok (.iconst 1, 1) := by decide +kernel
theorem dX11_isSlot_10 : decode cX11_isSlot 10 = .ok (.goto 4, 3) := by decide +kernel
theorem dX11_isSlot_13 : decode cX11_isSlot 13 = .ok (.iconst 0, 1) := by decide +kernel
theorem dX11_isSlot_14 : decode cX11_isSlot 14 = .ok (.ireturn, 1) := by decide +kernel
set_option maxRecDepth 20000 in
theorem ggX11_hold_X11_isSlot : GoodIn wsX11_hold wsX11_isSlot := goodIn_r _ [7] (by decide +kernel) (by decide +kernel)
set_option maxRecDepth 20000 in
theorem gX11_hold_X11_isSlot : GoodIn wsX11_hold (va_wsS RX11 294 yX11_isSlot wsX11_isSlot) := goodIn_app (goodIn_of _ (by decide +kernel)) ggX11_hold_X11_isSlot
set_option maxRecDepth 20000 in
theorem ggX11_hold_X9_copy : GoodIn wsX11_hold wsX9_copy := goodIn_r _ [12, 13, 14, 15, 16, 17, 18, 19, 31, 32, 33, 34] (by decide +kernel) (by decide +kernel)
set_option maxRecDepth 20000 in
theorem gX11_hold_X9_copy : GoodIn wsX11_hold (wsV RX11 297 RX9 yX9_copy wsX9_copy) := goodIn_app (goodIn_of _ (by decide +kernel)) ggX11_hold_X9_copy
theorem dX11_hold_0 : decode cX11_hold 0 = .ok (.iload_n 1, 1) := by decide +kernel
theorem dX11_hold_1 : decode cX11_hold 1 = .ok (.invokestatic 294, 3) := by decide +kernel
theorem dX11_hold_4 : decode cX11_hold 4 = .ok (.ifCond .ne 5, 3) := by decide +kernel
theorem dX11_hold_7 : decode cX11_hold 7 = .ok (.iconst 0, 1) := by decide +kernel
theorem dX11_hold_8 : decode cX11_hold 8 = .ok (.ireturn, 1) := by decide +kernel
theorem dX11_hold_9 : decode cX11_hold 9 = .ok (.aload_n 0, 1) := by decide +kernel
theorem dX11_hold_10 : decode cX11_hold 10 = .ok (.getfield 41, 3) := by decide +kernel
theorem dX11_hold_13 : decode cX11_hold 13 = .ok (.iload_n 1, 1) := by decide +kernel
theorem dX11_hold_14 : decode cX11_hold 14 = .ok (.aaload, 1) := by decide +kernel
theorem dX11_hold_15 : decode cX11_hold 15 = .ok (.aload_n 0, 1) := by decide +kernel
theorem dX11_hold_16 : decode cX11_hold 16 = .ok (.getfield 37, 3) := by decide +kernel
theorem dX11_hold_19 : decode cX11_hold 19 = .ok (.invokevirtual 297, 3) := by decide +kernel
theorem dX11_hold_22 : decode cX11_hold 22 = .ok (.aload_n 0, 1) := by decide +kernel
theorem dX11_hold_23 : decode cX11_hold 23 = .ok (.getfield 41, 3) := by decide +kernel
theorem dX11_hold_26 : decode cX11_hold 26 = .ok (.iload_n 1, 1) := by decide +kernel
theorem dX11_hold_27 : decode cX11_hold 27 = .ok (.aaload, 1) := by decide +kernel
theorem dX11_hold_28 : decode cX11_hold 28 = .ok (.iconst 1, 1) := by decide +kernel
theorem dX11_hold_29 : decode cX11_hold 29 = .ok (.putfield 73, 3) := by decide +kernel
theorem dX11_hold_32 : decode cX11_hold 32 = .ok (.iconst 1, 1) := by decide +kernel
theorem dX11_hold_33 : decode cX11_hold 33 = .ok (.ireturn, 1) := by decide +kernel
set_option maxRecDepth 20000 in
theorem ggX11_restore_X11_isSlot : GoodIn wsX11_restore wsX11_isSlot := goodIn_r _ [7] (by decide +kernel) (by decide +kernel)
set_option maxRecDepth 20000 in
theorem gX11_restore_X11_isSlot : GoodIn wsX11_restore (va_wsS RX11 294 yX11_isSlot wsX11_isSlot) := goodIn_app (goodIn_of _ (by decide +kernel)) ggX11_restore_X11_isSlot
set_option maxRecDepth 20000 in
theorem ggX11_restore_X9_copy : GoodIn wsX11_restore wsX9_copy := goodIn_r _ [12, 13, 14, 15, 16, 17, 18, 19, 31, 32, 33, 34] (by decide +kernel) (by decide +kernel)
set_option maxRecDepth 20000 in
theorem gX11_restore_X9_copy : GoodIn wsX11_restore (wsV RX11 297 RX9 yX9_copy wsX9_copy) := goodIn_app (goodIn_of _ (by decide +kernel)) ggX11_restore_X9_copy
theorem dX11_restore_0 : decode cX11_restore 0 = .ok (.iload_n 1, 1) := by decide +kernel
theorem dX11_restore_1 : decode cX11_restore 1 = .ok (.invokestatic 294, 3) := by decide +kernel
theorem dX11_restore_4 : decode cX11_restore 4 = .ok (.ifCond .eq 15, 3) := by decide +kernel
theorem dX11_restore_7 : decode cX11_restore 7 = .ok (.aload_n 0, 1) := by decide +kernel
theorem dX11_restore_8 : decode cX11_restore 8 = .ok (.getfield 41, 3) := by decide +kernel
theorem dX11_restore_11 : decode cX11_restore 11 = .ok (.iload_n 1, 1) := by decide +kernel
theorem dX11_restore_12 : decode cX11_restore 12 = .ok (.aaload, 1) := by decide +kernel
theorem dX11_restore_13 : decode cX11_restore 13 = .ok (.getfield 73, 3) := by decide +kernel
theorem dX11_restore_16 : decode cX11_restore 16 = .ok (.ifCond .ne 5, 3) := by decide +kernel
theorem dX11_restore_19 : decode cX11_restore 19 = .ok (.iconst 0, 1) := by decide +kernel
theorem dX11_restore_20 : decode cX11_restore 20 = .ok (.ireturn, 1) := by decide +kernel
theorem dX11_restore_21 : decode cX11_restore 21 = .ok (.aload_n 0, 1) := by decide +kernel
theorem dX11_restore_22 : decode cX11_restore 22 = .ok (.getfield 37, 3) := by decide +kernel
theorem dX11_restore_25 : decode cX11_restore 25 = .ok (.aload_n 0, 1) := by decide +kernel
theorem dX11_restore_26 : decode cX11_restore 26 = .ok (.getfield 41, 3) := by decide +kernel
theorem dX11_restore_29 : decode cX11_restore 29 = .ok (.iload_n 1, 1) := by decide +kernel
theorem dX11_restore_30 : decode cX11_restore 30 = .ok (.aaload, 1) := by decide +kernel
theorem dX11_restore_31 : decode cX11_restore 31 = .ok (.invokevirtual 297, 3) := by decide +kernel
theorem dX11_restore_34 : decode cX11_restore 34 = .ok (.iconst 1, 1) := by decide +kernel
theorem dX11_restore_35 : decode cX11_restore 35 = .ok (.ireturn, 1) := by decide +kernel
set_option maxRecDepth 20000 in
theorem ggX11_isWeighing_X11_within : GoodIn wsX11_isWeighing wsX11_within := goodIn_r _ [6] (by decide +kernel) (by decide +kernel)
set_option maxRecDepth 20000 in
theorem gX11_isWeighing_X11_within : GoodIn wsX11_isWeighing (va_wsS RX11 119 yX11_within wsX11_within) := goodIn_app (goodIn_of _ (by decide +kernel)) ggX11_isWeighing_X11_within
theorem dX11_isWeighing_0 : decode cX11_isWeighing 0 = .ok (.iload_n 0, 1) := by decide +kernel
theorem dX11_isWeighing_1 : decode cX11_isWeighing 1 = .ok (.i2l, 1) := by decide +kernel
theorem dX11_isWeighing_2 : decode cX11_isWeighing 2 = .ok (.lconst 0, 1) := by decide +kernel
theorem dX11_isWeighing_3 : decode cX11_isWeighing 3 = .ok (.ldc2_w 301, 3) := by decide +kernel
theorem dX11_isWeighing_6 : decode cX11_isWeighing 6 = .ok (.invokestatic 119, 3) := by decide +kernel
theorem dX11_isWeighing_9 : decode cX11_isWeighing 9 = .ok (.ifCond .eq 19, 3) := by decide +kernel
theorem dX11_isWeighing_12 : decode cX11_isWeighing 12 = .ok (.iload_n 1, 1) := by decide +kernel
theorem dX11_isWeighing_13 : decode cX11_isWeighing 13 = .ok (.i2l, 1) := by decide +kernel
theorem dX11_isWeighing_14 : decode cX11_isWeighing 14 = .ok (.lconst 1, 1) := by decide +kernel
theorem dX11_isWeighing_15 : decode cX11_isWeighing 15 = .ok (.ldc2_w 203, 3) := by decide +kernel
theorem dX11_isWeighing_18 : decode cX11_isWeighing 18 = .ok (.invokestatic 119, 3) := by decide +kernel
theorem dX11_isWeighing_21 : decode cX11_isWeighing 21 = .ok (.ifCond .eq 7, 3) := by decide +kernel
theorem dX11_isWeighing_24 : decode cX11_isWeighing 24 = .ok (.iconst 1, 1) := by decide +kernel
theorem dX11_isWeighing_25 : decode cX11_isWeighing 25 = .ok (.goto 4, 3) := by decide +kernel
theorem dX11_isWeighing_28 : decode cX11_isWeighing 28 = .ok (.iconst 0, 1) := by decide +kernel
theorem dX11_isWeighing_29 : decode cX11_isWeighing 29 = .ok (.ireturn, 1) := by decide +kernel
set_option maxRecDepth 20000 in
theorem ggX11_bad_X11_isWeighing : GoodIn wsX11_bad wsX11_isWeighing := goodIn_r _ [6, 7, 8, 9, 10, 5, 11] (by decide +kernel) (by decide +kernel)
set_option maxRecDepth 20000 in
theorem gX11_bad_X11_isWeighing : GoodIn wsX11_bad (va_wsS RX11 303 yX11_isWeighing wsX11_isWeighing) := goodIn_app (goodIn_of _ (by decide +kernel)) ggX11_bad_X11_isWeighing
set_option maxRecDepth 20000 in
theorem ggX11_bad_X0_setsOff : GoodIn wsX11_bad wsX0_setsOff := goodIn_r _ [16, 17, 18, 19, 20, 15, 21, 22, 44, 45, 46] (by decide +kernel) (by decide +kernel)
set_option maxRecDepth 20000 in
theorem gX11_bad_X0_setsOff : GoodIn wsX11_bad (wsV RX11 310 RX0 yX0_setsOff wsX0_setsOff) := goodIn_app (goodIn_of _ (by decide +kernel)) ggX11_bad_X0_setsOff
theorem dX11_bad_0 : decode cX11_bad 0 = .ok (.iload_n 1, 1) := by decide +kernel
theorem dX11_bad_1 : decode cX11_bad 1 = .ok (.iload_n 2, 1) := by decide +kernel
theorem dX11_bad_2 : decode cX11_bad 2 = .ok (.invokestatic 303, 3) := by decide +kernel
theorem dX11_bad_5 : decode cX11_bad 5 = .ok (.ifCond .eq 18, 3) := by decide +kernel
theorem dX11_bad_8 : decode cX11_bad 8 = .ok (.aload_n 0, 1) := by decide +kernel
theorem dX11_bad_9 : decode cX11_bad 9 = .ok (.getfield 30, 3) := by decide +kernel
theorem dX11_bad_12 : decode cX11_bad 12 = .ok (.getfield 306, 3) := by decide +kernel
theorem dX11_bad_15 : decode cX11_bad 15 = .ok (.iload_n 1, 1) := by decide +kernel
theorem dX11_bad_16 : decode cX11_bad 16 = .ok (.iload_n 2, 1) := by decide +kernel
theorem dX11_bad_17 : decode cX11_bad 17 = .ok (.invokevirtual 310, 3) := by decide +kernel
theorem dX11_bad_20 : decode cX11_bad 20 = .ok (.goto 4, 3) := by decide +kernel
theorem dX11_bad_23 : decode cX11_bad 23 = .ok (.iconst (-1), 1) := by decide +kernel
theorem dX11_bad_24 : decode cX11_bad 24 = .ok (.ireturn, 1) := by decide +kernel
set_option maxRecDepth 20000 in
theorem ggX11_badSet_X11_isWeighing : GoodIn wsX11_badSet wsX11_isWeighing := goodIn_r _ [6, 7, 8, 9, 10, 5, 11] (by decide +kernel) (by decide +kernel)
set_option maxRecDepth 20000 in
theorem gX11_badSet_X11_isWeighing : GoodIn wsX11_badSet (va_wsS RX11 303 yX11_isWeighing wsX11_isWeighing) := goodIn_app (goodIn_of _ (by decide +kernel)) ggX11_badSet_X11_isWeighing
set_option maxRecDepth 20000 in
theorem ggX11_badSet_X0_leastSetOff : GoodIn wsX11_badSet wsX0_leastSetOff := goodIn_r _ [16, 17, 18, 19, 20, 15, 21, 22, 44, 45, 46] (by decide +kernel) (by decide +kernel)
set_option maxRecDepth 20000 in
theorem gX11_badSet_X0_leastSetOff : GoodIn wsX11_badSet (wsV RX11 315 RX0 yX0_leastSetOff wsX0_leastSetOff) := goodIn_app (goodIn_of _ (by decide +kernel)) ggX11_badSet_X0_leastSetOff
theorem dX11_badSet_0 : decode cX11_badSet 0 = .ok (.iload_n 1, 1) := by decide +kernel
theorem dX11_badSet_1 : decode cX11_badSet 1 = .ok (.iload_n 2, 1) := by decide +kernel
theorem dX11_badSet_2 : decode cX11_badSet 2 = .ok (.invokestatic 303, 3) := by decide +kernel
theorem dX11_badSet_5 : decode cX11_badSet 5 = .ok (.ifCond .eq 18, 3) := by decide +kernel
theorem dX11_badSet_8 : decode cX11_badSet 8 = .ok (.aload_n 0, 1) := by decide +kernel
theorem dX11_badSet_9 : decode cX11_badSet 9 = .ok (.getfield 30, 3) := by decide +kernel
theorem dX11_badSet_12 : decode cX11_badSet 12 = .ok (.getfield 306, 3) := by decide +kernel
theorem dX11_badSet_15 : decode cX11_badSet 15 = .ok (.iload_n 1, 1) := by decide +kernel
theorem dX11_badSet_16 : decode cX11_badSet 16 = .ok (.iload_n 2, 1) := by decide +kernel
theorem dX11_badSet_17 : decode cX11_badSet 17 = .ok (.invokevirtual 315, 3) := by decide +kernel
theorem dX11_badSet_20 : decode cX11_badSet 20 = .ok (.goto 4, 3) := by decide +kernel
theorem dX11_badSet_23 : decode cX11_badSet 23 = .ok (.iconst (-1), 1) := by decide +kernel
theorem dX11_badSet_24 : decode cX11_badSet 24 = .ok (.ireturn, 1) := by decide +kernel
set_option maxRecDepth 20000 in
theorem ggX11_allTold_X0_leastGap : GoodIn wsX11_allTold wsX0_leastGap := goodIn_r _ [7, 8, 9, 10, 11, 12, 13, 14, 15, 16, 17, 6, 18, 19, 20, 21, 22, 23, 24, 25, 26, 48, 49, 50] (by decide +kernel) (by decide +kernel)
set_option maxRecDepth 20000 in
theorem gX11_allTold_X0_leastGap : GoodIn wsX11_allTold (wsV RX11 318 RX0 yX0_leastGap wsX0_leastGap) := goodIn_app (goodIn_of _ (by decide +kernel)) ggX11_allTold_X0_leastGap
theorem dX11_allTold_0 : decode cX11_allTold 0 = .ok (.aload_n 0, 1) := by decide +kernel
theorem dX11_allTold_1 : decode cX11_allTold 1 = .ok (.getfield 30, 3) := by decide +kernel
theorem dX11_allTold_4 : decode cX11_allTold 4 = .ok (.getfield 306, 3) := by decide +kernel
theorem dX11_allTold_7 : decode cX11_allTold 7 = .ok (.invokevirtual 318, 3) := by decide +kernel
theorem dX11_allTold_10 : decode cX11_allTold 10 = .ok (.ifCond .eq 7, 3) := by decide +kernel
theorem dX11_allTold_13 : decode cX11_allTold 13 = .ok (.iconst 1, 1) := by decide +kernel
theorem dX11_allTold_14 : decode cX11_allTold 14 = .ok (.goto 4, 3) := by decide +kernel
theorem dX11_allTold_17 : decode cX11_allTold 17 = .ok (.iconst 0, 1) := by decide +kernel
theorem dX11_allTold_18 : decode cX11_allTold 18 = .ok (.ireturn, 1) := by decide +kernel
set_option maxRecDepth 20000 in
theorem ggX11_margin_X0_leastGap : GoodIn wsX11_margin wsX0_leastGap := goodIn_r _ [7, 8, 9, 10, 11, 12, 13, 14, 15, 16, 17, 6, 18, 19, 20, 21, 22, 23, 24, 25, 26, 48, 49, 50] (by decide +kernel) (by decide +kernel)
set_option maxRecDepth 20000 in
theorem gX11_margin_X0_leastGap : GoodIn wsX11_margin (wsV RX11 318 RX0 yX0_leastGap wsX0_leastGap) := goodIn_app (goodIn_of _ (by decide +kernel)) ggX11_margin_X0_leastGap
theorem dX11_margin_0 : decode cX11_margin 0 = .ok (.aload_n 0, 1) := by decide +kernel
theorem dX11_margin_1 : decode cX11_margin 1 = .ok (.getfield 30, 3) := by decide +kernel
theorem dX11_margin_4 : decode cX11_margin 4 = .ok (.getfield 306, 3) := by decide +kernel
theorem dX11_margin_7 : decode cX11_margin 7 = .ok (.invokevirtual 318, 3) := by decide +kernel
theorem dX11_margin_10 : decode cX11_margin 10 = .ok (.ireturn, 1) := by decide +kernel
set_option maxRecDepth 20000 in
theorem ggX11_secret_X11_shareRow : GoodIn wsX11_secret wsX11_shareRow := goodIn_r _ [5, 6, 7, 8, 9, 10, 11, 12, 13, 14, 15, 16, 17, 18, 19, 20, 21, 22, 23, 24, 25, 26, 27, 28, 29, 30, 31, 32, 33, 34, 35, 36, 37, 38, 39, 40, 41, 42, 43, 44, 45, 46, 47, 48, 49, 50, 51, 52, 53, 54, 55, 56, 57, 58, 59, 60, 61, 62, 63, 64, 65, 66, 67, 68, 69, 70, 71, 72, 73, 74, 75, 76, 77, 78, 79, 80, 81, 82] (by decide +kernel) (by decide +kernel)
set_option maxRecDepth 20000 in
theorem gX11_secret_X11_shareRow : GoodIn wsX11_secret (wsV RX11 321 RX11 yX11_shareRow wsX11_shareRow) := goodIn_app (goodIn_of _ (by decide +kernel)) ggX11_secret_X11_shareRow
theorem dX11_secret_0 : decode cX11_secret 0 = .ok (.aload_n 0, 1) := by decide +kernel
theorem dX11_secret_1 : decode cX11_secret 1 = .ok (.iload_n 1, 1) := by decide +kernel
theorem dX11_secret_2 : decode cX11_secret 2 = .ok (.iconst 0, 1) := by decide +kernel
theorem dX11_secret_3 : decode cX11_secret 3 = .ok (.invokevirtual 321, 3) := by decide +kernel
theorem dX11_secret_6 : decode cX11_secret 6 = .ok (.ireturn, 1) := by decide +kernel
set_option maxRecDepth 20000 in
theorem ggX11_shared_X6_isSet : GoodIn wsX11_shared wsX6_isSet := goodIn_r _ [8, 9, 10, 11, 12, 13, 14, 15, 16, 78, 79, 80, 81, 82, 83, 84] (by decide +kernel) (by decide +kernel)
set_option maxRecDepth 20000 in
theorem gX11_shared_X6_isSet : GoodIn wsX11_shared (wsV RX11 324 RX6 yX6_isSet wsX6_isSet) := goodIn_app (goodIn_of _ (by decide +kernel)) ggX11_shared_X6_isSet
set_option maxRecDepth 20000 in
theorem ggX11_shared_X11_within : GoodIn wsX11_shared wsX11_within := goodIn_r _ [20] (by decide +kernel) (by decide +kernel)
set_option maxRecDepth 20000 in
theorem gX11_shared_X11_within : GoodIn wsX11_shared (va_wsS RX11 119 yX11_within wsX11_within) := goodIn_app (goodIn_of _ (by decide +kernel)) ggX11_shared_X11_within
set_option maxRecDepth 20000 in
theorem ggX11_shared_X6_findRow : GoodIn wsX11_shared wsX6_findRow := goodIn_r _ [24, 25, 9, 26, 27, 28, 29, 30, 31, 32, 33, 7, 34, 35, 36, 37, 38, 39, 40, 41, 42, 43, 44, 45, 46, 47, 48, 49, 50, 51, 52, 78, 79, 80, 81, 82, 83, 84] (by decide +kernel) (by decide +kernel)
set_option maxRecDepth 20000 in
theorem gX11_shared_X6_findRow : GoodIn wsX11_shared (wsV RX11 327 RX6 yX6_findRow wsX6_findRow) := goodIn_app (goodIn_of _ (by decide +kernel)) ggX11_shared_X6_findRow
set_option maxRecDepth 20000 in
theorem ggX11_shared_X6_comesTo : GoodIn wsX11_shared wsX6_comesTo := goodIn_r _ [56, 25, 40, 41, 42, 7, 43, 44, 45, 46, 47, 48, 78, 79, 80, 81, 82, 83, 84] (by decide +kernel) (by decide +kernel)
set_option maxRecDepth 20000 in
theorem gX11_shared_X6_comesTo : GoodIn wsX11_shared (wsV RX11 330 RX6 yX6_comesTo wsX6_comesTo) := goodIn_app (goodIn_of _ (by decide +kernel)) ggX11_shared_X6_comesTo
theorem dX11_shared_0 : decode cX11_shared 0 = .ok (.aload_n 0, 1) := by decide +kernel
theorem dX11_shared_1 : decode cX11_shared 1 = .ok (.getfield 30, 3) := by decide +kernel
theorem dX11_shared_4 : decode cX11_shared 4 = .ok (.getfield 164, 3) := by decide +kernel
theorem dX11_shared_7 : decode cX11_shared 7 = .ok (.iload_n 1, 1) := by decide +kernel
theorem dX11_shared_8 : decode cX11_shared 8 = .ok (.invokevirtual 324, 3) := by decide +kernel
theorem dX11_shared_11 : decode cX11_shared 11 = .ok (.ifCond .eq 15, 3) := by decide +kernel
theorem dX11_shared_14 : decode cX11_shared 14 = .ok (.iload_n 2, 1) := by decide +kernel
theorem dX11_shared_15 : decode cX11_shared 15 = .ok (.i2l, 1) := by decide +kernel
theorem dX11_shared_16 : decode cX11_shared 16 = .ok (.lconst 0, 1) := by decide +kernel
theorem dX11_shared_17 : decode cX11_shared 17 = .ok (.ldc2_w 162, 3) := by decide +kernel
theorem dX11_shared_20 : decode cX11_shared 20 = .ok (.invokestatic 119, 3) := by decide +kernel
theorem dX11_shared_23 : decode cX11_shared 23 = .ok (.ifCond .ne 5, 3) := by decide +kernel
theorem dX11_shared_26 : decode cX11_shared 26 = .ok (.iconst (-1), 1) := by decide +kernel
theorem dX11_shared_27 : decode cX11_shared 27 = .ok (.ireturn, 1) := by decide +kernel
theorem dX11_shared_28 : decode cX11_shared 28 = .ok (.aload_n 0, 1) := by decide +kernel
theorem dX11_shared_29 : decode cX11_shared 29 = .ok (.getfield 30, 3) := by decide +kernel
theorem dX11_shared_32 : decode cX11_shared 32 = .ok (.getfield 164, 3) := by decide +kernel
theorem dX11_shared_35 : decode cX11_shared 35 = .ok (.iload_n 1, 1) := by decide +kernel
theorem dX11_shared_36 : decode cX11_shared 36 = .ok (.invokevirtual 327, 3) := by decide +kernel
theorem dX11_shared_39 : decode cX11_shared 39 = .ok (.aload_n 0, 1) := by decide +kernel
theorem dX11_shared_40 : decode cX11_shared 40 = .ok (.getfield 30, 3) := by decide +kernel
theorem dX11_shared_43 : decode cX11_shared 43 = .ok (.getfield 164, 3) := by decide +kernel
theorem dX11_shared_46 : decode cX11_shared 46 = .ok (.iload_n 2, 1) := by decide +kernel
theorem dX11_shared_47 : decode cX11_shared 47 = .ok (.invokevirtual 330, 3) := by decide +kernel
theorem dX11_shared_50 : decode cX11_shared 50 = .ok (.ireturn, 1) := by decide +kernel
set_option maxRecDepth 20000 in
theorem ggX11_shareRow_X6_isSet : GoodIn wsX11_shareRow wsX6_isSet := goodIn_r _ [8, 9, 10, 11, 12, 13, 14, 15, 16, 71, 72, 73, 74, 75, 76, 77] (by decide +kernel) (by decide +kernel)
set_option maxRecDepth 20000 in
theorem gX11_shareRow_X6_isSet : GoodIn wsX11_shareRow (wsV RX11 324 RX6 yX6_isSet wsX6_isSet) := goodIn_app (goodIn_of _ (by decide +kernel)) ggX11_shareRow_X6_isSet
set_option maxRecDepth 20000 in
theorem ggX11_shareRow_J6_bitCount_0f7a4 : GoodIn wsX11_shareRow wsJ6_bitCount_0f7a4 := goodIn_r _ [13, 14, 15, 16] (by decide +kernel) (by decide +kernel)
set_option maxRecDepth 20000 in
theorem gX11_shareRow_J6_bitCount_0f7a4 : GoodIn wsX11_shareRow (va_wsS RX11 332 yJ6_bitCount_0f7a4 wsJ6_bitCount_0f7a4) := goodIn_app (goodIn_of _ (by decide +kernel)) ggX11_shareRow_J6_bitCount_0f7a4
set_option maxRecDepth 20000 in
theorem ggX11_shareRow_X6_findRow : GoodIn wsX11_shareRow wsX6_findRow := goodIn_r _ [21, 22, 9, 23, 24, 25, 26, 27, 28, 29, 30, 7, 31, 32, 33, 34, 35, 36, 37, 38, 39, 40, 41, 42, 43, 44, 45, 46, 47, 48, 49, 71, 72, 73, 74, 75, 76, 77] (by decide +kernel) (by decide +kernel)
set_option maxRecDepth 20000 in
theorem gX11_shareRow_X6_findRow : GoodIn wsX11_shareRow (wsV RX11 327 RX6 yX6_findRow wsX6_findRow) := goodIn_app (goodIn_of _ (by decide +kernel)) ggX11_shareRow_X6_findRow
theorem dX11_shareRow_0 : decode cX11_shareRow 0 = .ok (.aload_n 0, 1) := by decide +kernel
theorem dX11_shareRow_1 : decode cX11_shareRow 1 = .ok (.getfield 30, 3) := by decide +kernel
theorem dX11_shareRow_4 : decode cX11_shareRow 4 = .ok (.getfield 164, 3) := by decide +kernel
theorem dX11_shareRow_7 : decode cX11_shareRow 7 = .ok (.iload_n 1, 1) := by decide +kernel
theorem dX11_shareRow_8 : decode cX11_shareRow 8 = .ok (.invokevirtual 324, 3) := by decide +kernel
theorem dX11_shareRow_11 : decode cX11_shareRow 11 = .ok (.ifCond .eq 15, 3) := by decide +kernel
theorem dX11_shareRow_14 : decode cX11_shareRow 14 = .ok (.iload_n 2, 1) := by decide +kernel
theorem dX11_shareRow_15 : decode cX11_shareRow 15 = .ok (.ifCond .lt 11, 3) := by decide +kernel
theorem dX11_shareRow_18 : decode cX11_shareRow 18 = .ok (.iload_n 2, 1) := by decide +kernel
theorem dX11_shareRow_19 : decode cX11_shareRow 19 = .ok (.iload_n 1, 1) := by decide +kernel
theorem dX11_shareRow_20 : decode cX11_shareRow 20 = .ok (.invokestatic 332, 3) := by decide +kernel
theorem dX11_shareRow_23 : decode cX11_shareRow 23 = .ok (.if_icmp .lt 5, 3) := by decide +kernel
theorem dX11_shareRow_26 : decode cX11_shareRow 26 = .ok (.iconst (-1), 1) := by decide +kernel
theorem dX11_shareRow_27 : decode cX11_shareRow 27 = .ok (.ireturn, 1) := by decide +kernel
theorem dX11_shareRow_28 : decode cX11_shareRow 28 = .ok (.aload_n 0, 1) := by decide +kernel
theorem dX11_shareRow_29 : decode cX11_shareRow 29 = .ok (.getfield 30, 3) := by decide +kernel
theorem dX11_shareRow_32 : decode cX11_shareRow 32 = .ok (.getfield 164, 3) := by decide +kernel
theorem dX11_shareRow_35 : decode cX11_shareRow 35 = .ok (.iload_n 1, 1) := by decide +kernel
theorem dX11_shareRow_36 : decode cX11_shareRow 36 = .ok (.invokevirtual 327, 3) := by decide +kernel
theorem dX11_shareRow_39 : decode cX11_shareRow 39 = .ok (.aload_n 0, 1) := by decide +kernel
theorem dX11_shareRow_40 : decode cX11_shareRow 40 = .ok (.getfield 30, 3) := by decide +kernel
theorem dX11_shareRow_43 : decode cX11_shareRow 43 = .ok (.getfield 164, 3) := by decide +kernel
theorem dX11_shareRow_46 : decode cX11_shareRow 46 = .ok (.getfield 337, 3) := by decide +kernel
theorem dX11_shareRow_49 : decode cX11_shareRow 49 = .ok (.iload_n 2, 1) := by decide +kernel
theorem dX11_shareRow_50 : decode cX11_shareRow 50 = .ok (.iaload, 1) := by decide +kernel
theorem dX11_shareRow_51 : decode cX11_shareRow 51 = .ok (.ireturn, 1) := by decide +kernel
set_option maxRecDepth 20000 in
theorem ggX11_wrong_X11_within : GoodIn wsX11_wrong wsX11_within := goodIn_r _ [8] (by decide +kernel) (by decide +kernel)
set_option maxRecDepth 20000 in
theorem gX11_wrong_X11_within : GoodIn wsX11_wrong (va_wsS RX11 119 yX11_within wsX11_within) := goodIn_app (goodIn_of _ (by decide +kernel)) ggX11_wrong_X11_within
set_option maxRecDepth 20000 in
theorem ggX11_wrong_X6_offRow : GoodIn wsX11_wrong wsX6_offRow := goodIn_r _ [13, 14, 15, 16, 17, 18, 19, 20, 21, 22, 23, 24, 12, 25, 26, 27, 28, 29, 30, 31, 32, 33, 34, 35, 36, 37, 38, 39, 40, 41, 42, 43, 44, 45, 46, 47, 48, 49, 50, 51, 52, 53, 54, 55, 56, 57, 58, 59, 60, 61, 62, 63, 64, 65, 87, 88, 89, 90, 91, 92, 93] (by decide +kernel) (by decide +kernel)
set_option maxRecDepth 20000 in
theorem gX11_wrong_X6_offRow : GoodIn wsX11_wrong (wsV RX11 341 RX6 yX6_offRow wsX6_offRow) := goodIn_app (goodIn_of _ (by decide +kernel)) ggX11_wrong_X6_offRow
theorem dX11_wrong_0 : decode cX11_wrong 0 = .ok (.iload_n 1, 1) := by decide +kernel
theorem dX11_wrong_1 : decode cX11_wrong 1 = .ok (.i2l, 1) := by decide +kernel
theorem dX11_wrong_2 : decode cX11_wrong 2 = .ok (.lconst 1, 1) := by decide +kernel
theorem dX11_wrong_3 : decode cX11_wrong 3 = .ok (.ldc2_w 156, 3) := by decide +kernel
theorem dX11_wrong_6 : decode cX11_wrong 6 = .ok (.invokestatic 119, 3) := by decide +kernel
theorem dX11_wrong_9 : decode cX11_wrong 9 = .ok (.ifCond .ne 5, 3) := by decide +kernel
theorem dX11_wrong_12 : decode cX11_wrong 12 = .ok (.iconst (-1), 1) := by decide +kernel
theorem dX11_wrong_13 : decode cX11_wrong 13 = .ok (.ireturn, 1) := by decide +kernel
theorem dX11_wrong_14 : decode cX11_wrong 14 = .ok (.iload_n 1, 1) := by decide +kernel
theorem dX11_wrong_15 : decode cX11_wrong 15 = .ok (.aload_n 0, 1) := by decide +kernel
theorem dX11_wrong_16 : decode cX11_wrong 16 = .ok (.getfield 30, 3) := by decide +kernel
theorem dX11_wrong_19 : decode cX11_wrong 19 = .ok (.getfield 164, 3) := by decide +kernel
theorem dX11_wrong_22 : decode cX11_wrong 22 = .ok (.getfield 340, 3) := by decide +kernel
theorem dX11_wrong_25 : decode cX11_wrong 25 = .ok (.if_icmp .le 8, 3) := by decide +kernel
theorem dX11_wrong_28 : decode cX11_wrong 28 = .ok (.bipush (-2), 2) := by decide +kernel
theorem dX11_wrong_30 : decode cX11_wrong 30 = .ok (.goto 14, 3) := by decide +kernel
theorem dX11_wrong_33 : decode cX11_wrong 33 = .ok (.aload_n 0, 1) := by decide +kernel
theorem dX11_wrong_34 : decode cX11_wrong 34 = .ok (.getfield 30, 3) := by decide +kernel
theorem dX11_wrong_37 : decode cX11_wrong 37 = .ok (.getfield 164, 3) := by decide +kernel
theorem dX11_wrong_40 : decode cX11_wrong 40 = .ok (.iload_n 1, 1) := by decide +kernel
theorem dX11_wrong_41 : decode cX11_wrong 41 = .ok (.invokevirtual 341, 3) := by decide +kernel
theorem dX11_wrong_44 : decode cX11_wrong 44 = .ok (.ireturn, 1) := by decide +kernel
set_option maxRecDepth 20000 in
theorem ggX11_pair_X11_within : GoodIn wsX11_pair wsX11_within := goodIn_r _ [6] (by decide +kernel) (by decide +kernel)
set_option maxRecDepth 20000 in
theorem gX11_pair_X11_within : GoodIn wsX11_pair (va_wsS RX11 119 yX11_within wsX11_within) := goodIn_app (goodIn_of _ (by decide +kernel)) ggX11_pair_X11_within
set_option maxRecDepth 20000 in
theorem ggX11_pair_X11_paired : GoodIn wsX11_pair wsX11_paired := goodIn_r _ [9, 10, 11, 5, 12, 13] (by decide +kernel) (by decide +kernel)
set_option maxRecDepth 20000 in
theorem gX11_pair_X11_paired : GoodIn wsX11_pair (va_wsS RX11 346 yX11_paired wsX11_paired) := goodIn_app (goodIn_of _ (by decide +kernel)) ggX11_pair_X11_paired
theorem dX11_pair_0 : decode cX11_pair 0 = .ok (.iload_n 1, 1) := by decide +kernel
theorem dX11_pair_1 : decode cX11_pair 1 = .ok (.i2l, 1) := by decide +kernel
theorem dX11_pair_2 : decode cX11_pair 2 = .ok (.lconst 0, 1) := by decide +kernel
theorem dX11_pair_3 : decode cX11_pair 3 = .ok (.ldc2_w 344, 3) := by decide +kernel
theorem dX11_pair_6 : decode cX11_pair 6 = .ok (.invokestatic 119, 3) := by decide +kernel
theorem dX11_pair_9 : decode cX11_pair 9 = .ok (.ifCond .eq 15, 3) := by decide +kernel
theorem dX11_pair_12 : decode cX11_pair 12 = .ok (.iload_n 2, 1) := by decide +kernel
theorem dX11_pair_13 : decode cX11_pair 13 = .ok (.i2l, 1) := by decide +kernel
theorem dX11_pair_14 : decode cX11_pair 14 = .ok (.lconst 0, 1) := by decide +kernel
theorem dX11_pair_15 : decode cX11_pair 15 = .ok (.ldc2_w 344, 3) := by decide +kernel
theorem dX11_pair_18 : decode cX11_pair 18 = .ok (.invokestatic 119, 3) := by decide +kernel
theorem dX11_pair_21 : decode cX11_pair 21 = .ok (.ifCond .ne 7, 3) := by decide +kernel
theorem dX11_pair_24 : decode cX11_pair 24 = .ok (.ldc2_w 131, 3) := by decide +kernel
theorem dX11_pair_27 : decode cX11_pair 27 = .ok (.lreturn, 1) := by decide +kernel
theorem dX11_pair_28 : decode cX11_pair 28 = .ok (.iload_n 1, 1) := by decide +kernel
theorem dX11_pair_29 : decode cX11_pair 29 = .ok (.i2l, 1) := by decide +kernel
theorem dX11_pair_30 : decode cX11_pair 30 = .ok (.iload_n 2, 1) := by decide +kernel
theorem dX11_pair_31 : decode cX11_pair 31 = .ok (.i2l, 1) := by decide +kernel
theorem dX11_pair_32 : decode cX11_pair 32 = .ok (.invokestatic 346, 3) := by decide +kernel
theorem dX11_pair_35 : decode cX11_pair 35 = .ok (.lreturn, 1) := by decide +kernel
set_option maxRecDepth 20000 in
theorem ggX11_paired_X11_triangle : GoodIn wsX11_paired wsX11_triangle := goodIn_r _ [4, 5] (by decide +kernel) (by decide +kernel)
set_option maxRecDepth 20000 in
theorem gX11_paired_X11_triangle : GoodIn wsX11_paired (va_wsS RX11 350 yX11_triangle wsX11_triangle) := goodIn_app (goodIn_of _ (by decide +kernel)) ggX11_paired_X11_triangle
theorem dX11_paired_0 : decode cX11_paired 0 = .ok (.lload_n 0, 1) := by decide +kernel
theorem dX11_paired_1 : decode cX11_paired 1 = .ok (.lload_n 2, 1) := by decide +kernel
theorem dX11_paired_2 : decode cX11_paired 2 = .ok (.ladd, 1) := by decide +kernel
theorem dX11_paired_3 : decode cX11_paired 3 = .ok (.invokestatic 350, 3) := by decide +kernel
theorem dX11_paired_6 : decode cX11_paired 6 = .ok (.lload_n 2, 1) := by decide +kernel
theorem dX11_paired_7 : decode cX11_paired 7 = .ok (.ladd, 1) := by decide +kernel
theorem dX11_paired_8 : decode cX11_paired 8 = .ok (.lreturn, 1) := by decide +kernel
theorem dX11_triangle_0 : decode cX11_triangle 0 = .ok (.lload_n 0, 1) := by decide +kernel
theorem dX11_triangle_1 : decode cX11_triangle 1 = .ok (.lload_n 0, 1) := by decide +kernel
theorem dX11_triangle_2 : decode cX11_triangle 2 = .ok (.lconst 1, 1) := by decide +kernel
theorem dX11_triangle_3 : decode cX11_triangle 3 = .ok (.ladd, 1) := by decide +kernel
theorem dX11_triangle_4 : decode cX11_triangle 4 = .ok (.lmul, 1) := by decide +kernel
theorem dX11_triangle_5 : decode cX11_triangle 5 = .ok (.ldc2_w 152, 3) := by decide +kernel
theorem dX11_triangle_8 : decode cX11_triangle 8 = .ok (.ldiv, 1) := by decide +kernel
theorem dX11_triangle_9 : decode cX11_triangle 9 = .ok (.lreturn, 1) := by decide +kernel
set_option maxRecDepth 20000 in
theorem ggX11_unpair_X11_within : GoodIn wsX11_unpair wsX11_within := goodIn_r _ [8] (by decide +kernel) (by decide +kernel)
set_option maxRecDepth 20000 in
theorem gX11_unpair_X11_within : GoodIn wsX11_unpair (va_wsS RX11 119 yX11_within wsX11_within) := goodIn_app (goodIn_of _ (by decide +kernel)) ggX11_unpair_X11_within
set_option maxRecDepth 20000 in
theorem ggX11_unpair_X11_triangle : GoodIn wsX11_unpair wsX11_triangle := goodIn_r _ [11, 4] (by decide +kernel) (by decide +kernel)
set_option maxRecDepth 20000 in
theorem gX11_unpair_X11_triangle : GoodIn wsX11_unpair (va_wsS RX11 350 yX11_triangle wsX11_triangle) := goodIn_app (goodIn_of _ (by decide +kernel)) ggX11_unpair_X11_triangle
theorem dX11_unpair_0 : decode cX11_unpair 0 = .ok (.lload_n 1, 1) := by decide +kernel
theorem dX11_unpair_1 : decode cX11_unpair 1 = .ok (.lconst 0, 1) := by decide +kernel
theorem dX11_unpair_2 : decode cX11_unpair 2 = .ok (.ldc2_w 150, 3) := by decide +kernel
theorem dX11_unpair_5 : decode cX11_unpair 5 = .ok (.invokestatic 119, 3) := by decide +kernel
theorem dX11_unpair_8 : decode cX11_unpair 8 = .ok (.ifCond .ne 7, 3) := by decide +kernel
theorem dX11_unpair_11 : decode cX11_unpair 11 = .ok (.ldc2_w 131, 3) := by decide +kernel
theorem dX11_unpair_14 : decode cX11_unpair 14 = .ok (.lreturn, 1) := by decide +kernel
theorem dX11_unpair_15 : decode cX11_unpair 15 = .ok (.lconst 0, 1) := by decide +kernel
theorem dX11_unpair_16 : decode cX11_unpair 16 = .ok (.lstore 4, 2) := by decide +kernel
theorem dX11_unpair_18 : decode cX11_unpair 18 = .ok (.ldc2_w 353, 3) := by decide +kernel
theorem dX11_unpair_21 : decode cX11_unpair 21 = .ok (.lstore 6, 2) := by decide +kernel
theorem dX11_unpair_23 : decode cX11_unpair 23 = .ok (.lload 6, 2) := by decide +kernel
theorem dX11_unpair_25 : decode cX11_unpair 25 = .ok (.lconst 0, 1) := by decide +kernel
theorem dX11_unpair_26 : decode cX11_unpair 26 = .ok (.lcmp, 1) := by decide +kernel
theorem dX11_unpair_27 : decode cX11_unpair 27 = .ok (.ifCond .le 34, 3) := by decide +kernel
theorem dX11_unpair_30 : decode cX11_unpair 30 = .ok (.lload 4, 2) := by decide +kernel
theorem dX11_unpair_32 : decode cX11_unpair 32 = .ok (.lload 6, 2) := by decide +kernel
theorem dX11_unpair_34 : decode cX11_unpair 34 = .ok (.ladd, 1) := by decide +kernel
theorem dX11_unpair_35 : decode cX11_unpair 35 = .ok (.invokestatic 350, 3) := by decide +kernel
theorem dX11_unpair_38 : decode cX11_unpair 38 = .ok (.lload_n 1, 1) := by decide +kernel
theorem dX11_unpair_39 : decode cX11_unpair 39 = .ok (.lcmp, 1) := by decide +kernel
theorem dX11_unpair_40 : decode cX11_unpair 40 = .ok (.ifCond .gt 10, 3) := by decide +kernel
theorem dX11_unpair_43 : decode cX11_unpair 43 = .ok (.lload 4, 2) := by decide +kernel
theorem dX11_unpair_45 : decode cX11_unpair 45 = .ok (.lload 6, 2) := by decide +kernel
theorem dX11_unpair_47 : decode cX11_unpair 47 = .ok (.ladd, 1) := by decide +kernel
theorem dX11_unpair_48 : decode cX11_unpair 48 = .ok (.lstore 4, 2) := by decide +kernel
theorem dX11_unpair_50 : decode cX11_unpair 50 = .ok (.lload 6, 2) := by decide +kernel
theorem dX11_unpair_52 : decode cX11_unpair 52 = .ok (.ldc2_w 152, 3) := by decide +kernel
theorem dX11_unpair_55 : decode cX11_unpair 55 = .ok (.ldiv, 1) := by decide +kernel
theorem dX11_unpair_56 : decode cX11_unpair 56 = .ok (.lstore 6, 2) := by decide +kernel
theorem dX11_unpair_58 : decode cX11_unpair 58 = .ok (.goto (-35), 3) := by decide +kernel
theorem dX11_unpair_61 : decode cX11_unpair 61 = .ok (.lload_n 1, 1) := by decide +kernel
theorem dX11_unpair_62 : decode cX11_unpair 62 = .ok (.lload 4, 2) := by decide +kernel
theorem dX11_unpair_64 : decode cX11_unpair 64 = .ok (.invokestatic 350, 3) := by decide +kernel
theorem dX11_unpair_67 : decode cX11_unpair 67 = .ok (.lsub, 1) := by decide +kernel
theorem dX11_unpair_68 : decode cX11_unpair 68 = .ok (.lstore 6, 2) := by decide +kernel
theorem dX11_unpair_70 : decode cX11_unpair 70 = .ok (.iload_n 3, 1) := by decide +kernel
theorem dX11_unpair_71 : decode cX11_unpair 71 = .ok (.ifCond .eq 8, 3) := by decide +kernel
theorem dX11_unpair_74 : decode cX11_unpair 74 = .ok (.lload 6, 2) := by decide +kernel
theorem dX11_unpair_76 : decode cX11_unpair 76 = .ok (.goto 8, 3) := by decide +kernel
theorem dX11_unpair_79 : decode cX11_unpair 79 = .ok (.lload 4, 2) := by decide +kernel
theorem dX11_unpair_81 : decode cX11_unpair 81 = .ok (.lload 6, 2) := by decide +kernel
theorem dX11_unpair_83 : decode cX11_unpair 83 = .ok (.lsub, 1) := by decide +kernel
theorem dX11_unpair_84 : decode cX11_unpair 84 = .ok (.lreturn, 1) := by decide +kernel
set_option maxRecDepth 20000 in
theorem ggX11_number_X11_isRow : GoodIn wsX11_number wsX11_isRow := goodIn_r _ [9, 2, 10, 31, 32, 33, 34, 35, 36, 37, 38, 39, 40, 41, 42, 43, 44, 45, 46, 47, 48, 49, 50, 51] (by decide +kernel) (by decide +kernel)
set_option maxRecDepth 20000 in
theorem gX11_number_X11_isRow : GoodIn wsX11_number (wsV RX11 103 RX11 yX11_isRow wsX11_isRow) := goodIn_app (goodIn_of _ (by decide +kernel)) ggX11_number_X11_isRow
set_option maxRecDepth 20000 in
theorem ggX11_number_X7_isSomeBelowZero : GoodIn wsX11_number wsX7_isSomeBelowZero := goodIn_r _ [15, 16, 17, 18, 14, 19, 20, 21, 22, 42, 43, 44, 45, 46, 47, 48, 49, 50, 51] (by decide +kernel) (by decide +kernel)
set_option maxRecDepth 20000 in
theorem gX11_number_X7_isSomeBelowZero : GoodIn wsX11_number (wsV RX11 133 RX7 yX7_isSomeBelowZero wsX7_isSomeBelowZero) := goodIn_app (goodIn_of _ (by decide +kernel)) ggX11_number_X7_isSomeBelowZero
set_option maxRecDepth 20000 in
theorem ggX11_number_X7_numberAt : GoodIn wsX11_number wsX7_numberAt := goodIn_r _ [19, 20, 21, 22, 42, 43, 44, 45, 46, 47, 48, 49, 50, 51] (by decide +kernel) (by decide +kernel)
set_option maxRecDepth 20000 in
theorem gX11_number_X7_numberAt : GoodIn wsX11_number (wsV RX11 111 RX7 yX7_numberAt wsX7_numberAt) := goodIn_app (goodIn_of _ (by decide +kernel)) ggX11_number_X7_numberAt
set_option maxRecDepth 20000 in
theorem ggX11_number_X11_paired : GoodIn wsX11_number wsX11_paired := goodIn_r _ [26, 27, 28, 8, 29, 30] (by decide +kernel) (by decide +kernel)
set_option maxRecDepth 20000 in
theorem gX11_number_X11_paired : GoodIn wsX11_number (va_wsS RX11 346 yX11_paired wsX11_paired) := goodIn_app (goodIn_of _ (by decide +kernel)) ggX11_number_X11_paired
theorem dX11_number_0 : decode cX11_number 0 = .ok (.aload_n 0, 1) := by decide +kernel
theorem dX11_number_1 : decode cX11_number 1 = .ok (.iload_n 1, 1) := by decide +kernel
theorem dX11_number_2 : decode cX11_number 2 = .ok (.invokevirtual 103, 3) := by decide +kernel
theorem dX11_number_5 : decode cX11_number 5 = .ok (.ifCond .ne 7, 3) := by decide +kernel
theorem dX11_number_8 : decode cX11_number 8 = .ok (.ldc2_w 131, 3) := by decide +kernel
theorem dX11_number_11 : decode cX11_number 11 = .ok (.lreturn, 1) := by decide +kernel
theorem dX11_number_12 : decode cX11_number 12 = .ok (.aload_n 0, 1) := by decide +kernel
theorem dX11_number_13 : decode cX11_number 13 = .ok (.getfield 30, 3) := by decide +kernel
theorem dX11_number_16 : decode cX11_number 16 = .ok (.getfield 107, 3) := by decide +kernel
theorem dX11_number_19 : decode cX11_number 19 = .ok (.iload_n 1, 1) := by decide +kernel
theorem dX11_number_20 : decode cX11_number 20 = .ok (.iaload, 1) := by decide +kernel
theorem dX11_number_21 : decode cX11_number 21 = .ok (.istore_n 2, 1) := by decide +kernel
theorem dX11_number_22 : decode cX11_number 22 = .ok (.iload_n 2, 1) := by decide +kernel
theorem dX11_number_23 : decode cX11_number 23 = .ok (.ifCond .eq 19, 3) := by decide +kernel
theorem dX11_number_26 : decode cX11_number 26 = .ok (.iload_n 2, 1) := by decide +kernel
theorem dX11_number_27 : decode cX11_number 27 = .ok (.iconst 4, 1) := by decide +kernel
theorem dX11_number_28 : decode cX11_number 28 = .ok (.if_icmp .gt 14, 3) := by decide +kernel
theorem dX11_number_31 : decode cX11_number 31 = .ok (.aload_n 0, 1) := by decide +kernel
theorem dX11_number_32 : decode cX11_number 32 = .ok (.getfield 30, 3) := by decide +kernel
theorem dX11_number_35 : decode cX11_number 35 = .ok (.iload_n 1, 1) := by decide +kernel
theorem dX11_number_36 : decode cX11_number 36 = .ok (.invokevirtual 133, 3) := by decide +kernel
theorem dX11_number_39 : decode cX11_number 39 = .ok (.ifCond .eq 7, 3) := by decide +kernel
theorem dX11_number_42 : decode cX11_number 42 = .ok (.ldc2_w 136, 3) := by decide +kernel
theorem dX11_number_45 : decode cX11_number 45 = .ok (.lreturn, 1) := by decide +kernel
theorem dX11_number_46 : decode cX11_number 46 = .ok (.aload_n 0, 1) := by decide +kernel
theorem dX11_number_47 : decode cX11_number 47 = .ok (.getfield 30, 3) := by decide +kernel
theorem dX11_number_50 : decode cX11_number 50 = .ok (.iload_n 1, 1) := by decide +kernel
theorem dX11_number_51 : decode cX11_number 51 = .ok (.iconst 0, 1) := by decide +kernel
theorem dX11_number_52 : decode cX11_number 52 = .ok (.invokevirtual 111, 3) := by decide +kernel
theorem dX11_number_55 : decode cX11_number 55 = .ok (.i2l, 1) := by decide +kernel
theorem dX11_number_56 : decode cX11_number 56 = .ok (.lstore_n 3, 1) := by decide +kernel
theorem dX11_number_57 : decode cX11_number 57 = .ok (.iconst 1, 1) := by decide +kernel
theorem dX11_number_58 : decode cX11_number 58 = .ok (.istore 5, 2) := by decide +kernel
theorem dX11_number_60 : decode cX11_number 60 = .ok (.iload 5, 2) := by decide +kernel
theorem dX11_number_62 : decode cX11_number 62 = .ok (.iload_n 2, 1) := by decide +kernel
theorem dX11_number_63 : decode cX11_number 63 = .ok (.if_icmp .ge 25, 3) := by decide +kernel
theorem dX11_number_66 : decode cX11_number 66 = .ok (.lload_n 3, 1) := by decide +kernel
theorem dX11_number_67 : decode cX11_number 67 = .ok (.aload_n 0, 1) := by decide +kernel
theorem dX11_number_68 : decode cX11_number 68 = .ok (.getfield 30, 3) := by decide +kernel
theorem dX11_number_71 : decode cX11_number 71 = .ok (.iload_n 1, 1) := by decide +kernel
theorem dX11_number_72 : decode cX11_number 72 = .ok (.iload 5, 2) := by decide +kernel
theorem dX11_number_74 : decode cX11_number 74 = .ok (.invokevirtual 111, 3) := by decide +kernel
theorem dX11_number_77 : decode cX11_number 77 = .ok (.i2l, 1) := by decide +kernel
theorem dX11_number_78 : decode cX11_number 78 = .ok (.invokestatic 346, 3) := by decide +kernel
theorem dX11_number_81 : decode cX11_number 81 = .ok (.lstore_n 3, 1) := by decide +kernel
theorem dX11_number_82 : decode cX11_number 82 = .ok (.iinc 5 1, 3) := by decide +kernel
theorem dX11_number_85 : decode cX11_number 85 = .ok (.goto (-25), 3) := by decide +kernel
theorem dX11_number_88 : decode cX11_number 88 = .ok (.lload_n 3, 1) := by decide +kernel
theorem dX11_number_89 : decode cX11_number 89 = .ok (.lreturn, 1) := by decide +kernel
set_option maxRecDepth 20000 in
theorem ggX11_count_X11_slotsThatHold : GoodIn wsX11_count wsX11_slotsThatHold := goodIn_r _ [20, 21, 22, 23, 24, 25, 26, 27, 28, 29, 30, 31, 32, 33, 54, 55, 56, 57] (by decide +kernel) (by decide +kernel)
set_option maxRecDepth 20000 in
theorem gX11_count_X11_slotsThatHold : GoodIn wsX11_count (wsV RX11 356 RX11 yX11_slotsThatHold wsX11_slotsThatHold) := goodIn_app (goodIn_of _ (by decide +kernel)) ggX11_count_X11_slotsThatHold
theorem dX11_count_0 : decode cX11_count 0 = .ok (.iload_n 1, 1) := by decide +kernel
theorem dX11_count_1 : decode cX11_count 1 = .ok (.tableswitch 156 0 11 #[63, 71, 82, 93, 104, 112, 120, 125, 133, 138, 146, 151], 63) := by decide +kernel
theorem dX11_count_64 : decode cX11_count 64 = .ok (.aload_n 0, 1) := by decide +kernel
theorem dX11_count_65 : decode cX11_count 65 = .ok (.getfield 30, 3) := by decide +kernel
theorem dX11_count_68 : decode cX11_count 68 = .ok (.getfield 100, 3) := by decide +kernel
theorem dX11_count_71 : decode cX11_count 71 = .ok (.ireturn, 1) := by decide +kernel
theorem dX11_count_72 : decode cX11_count 72 = .ok (.aload_n 0, 1) := by decide +kernel
theorem dX11_count_73 : decode cX11_count 73 = .ok (.getfield 30, 3) := by decide +kernel
theorem dX11_count_76 : decode cX11_count 76 = .ok (.getfield 164, 3) := by decide +kernel
theorem dX11_count_79 : decode cX11_count 79 = .ok (.getfield 340, 3) := by decide +kernel
theorem dX11_count_82 : decode cX11_count 82 = .ok (.ireturn, 1) := by decide +kernel
theorem dX11_count_83 : decode cX11_count 83 = .ok (.aload_n 0, 1) := by decide +kernel
theorem dX11_count_84 : decode cX11_count 84 = .ok (.getfield 30, 3) := by decide +kernel
theorem dX11_count_87 : decode cX11_count 87 = .ok (.getfield 306, 3) := by decide +kernel
theorem dX11_count_90 : decode cX11_count 90 = .ok (.getfield 355, 3) := by decide +kernel
theorem dX11_count_93 : decode cX11_count 93 = .ok (.ireturn, 1) := by decide +kernel
theorem dX11_count_94 : decode cX11_count 94 = .ok (.aload_n 0, 1) := by decide +kernel
theorem dX11_count_95 : decode cX11_count 95 = .ok (.getfield 30, 3) := by decide +kernel
theorem dX11_count_98 : decode cX11_count 98 = .ok (.getfield 164, 3) := by decide +kernel
theorem dX11_count_101 : decode cX11_count 101 = .ok (.getfield 173, 3) := by decide +kernel
theorem dX11_count_104 : decode cX11_count 104 = .ok (.ireturn, 1) := by decide +kernel
theorem dX11_count_105 : decode cX11_count 105 = .ok (.aload_n 0, 1) := by decide +kernel
theorem dX11_count_106 : decode cX11_count 106 = .ok (.getfield 30, 3) := by decide +kernel
theorem dX11_count_109 : decode cX11_count 109 = .ok (.getfield 77, 3) := by decide +kernel
theorem dX11_count_112 : decode cX11_count 112 = .ok (.ireturn, 1) := by decide +kernel
theorem dX11_count_113 : decode cX11_count 113 = .ok (.aload_n 0, 1) := by decide +kernel
theorem dX11_count_114 : decode cX11_count 114 = .ok (.getfield 30, 3) := by decide +kernel
theorem dX11_count_117 : decode cX11_count 117 = .ok (.getfield 80, 3) := by decide +kernel
theorem dX11_count_120 : decode cX11_count 120 = .ok (.ireturn, 1) := by decide +kernel
theorem dX11_count_121 : decode cX11_count 121 = .ok (.aload_n 0, 1) := by decide +kernel
theorem dX11_count_122 : decode cX11_count 122 = .ok (.getfield 13, 3) := by decide +kernel
theorem dX11_count_125 : decode cX11_count 125 = .ok (.ireturn, 1) := by decide +kernel
theorem dX11_count_126 : decode cX11_count 126 = .ok (.aload_n 0, 1) := by decide +kernel
theorem dX11_count_127 : decode cX11_count 127 = .ok (.getfield 37, 3) := by decide +kernel
theorem dX11_count_130 : decode cX11_count 130 = .ok (.getfield 246, 3) := by decide +kernel
theorem dX11_count_133 : decode cX11_count 133 = .ok (.ireturn, 1) := by decide +kernel
theorem dX11_count_134 : decode cX11_count 134 = .ok (.aload_n 0, 1) := by decide +kernel
theorem dX11_count_135 : decode cX11_count 135 = .ok (.invokevirtual 356, 3) := by decide +kernel
theorem dX11_count_138 : decode cX11_count 138 = .ok (.ireturn, 1) := by decide +kernel
theorem dX11_count_139 : decode cX11_count 139 = .ok (.aload_n 0, 1) := by decide +kernel
theorem dX11_count_140 : decode cX11_count 140 = .ok (.getfield 30, 3) := by decide +kernel
theorem dX11_count_143 : decode cX11_count 143 = .ok (.getfield 288, 3) := by decide +kernel
theorem dX11_count_146 : decode cX11_count 146 = .ok (.ireturn, 1) := by decide +kernel
theorem dX11_count_147 : decode cX11_count 147 = .ok (.aload_n 0, 1) := by decide +kernel
theorem dX11_count_148 : decode cX11_count 148 = .ok (.getfield 45, 3) := by decide +kernel
theorem dX11_count_151 : decode cX11_count 151 = .ok (.ireturn, 1) := by decide +kernel
theorem dX11_count_152 : decode cX11_count 152 = .ok (.aload_n 0, 1) := by decide +kernel
theorem dX11_count_153 : decode cX11_count 153 = .ok (.getfield 48, 3) := by decide +kernel
theorem dX11_count_156 : decode cX11_count 156 = .ok (.ireturn, 1) := by decide +kernel
theorem dX11_count_157 : decode cX11_count 157 = .ok (.iconst (-1), 1) := by decide +kernel
theorem dX11_count_158 : decode cX11_count 158 = .ok (.ireturn, 1) := by decide +kernel
theorem dX11_slotsThatHold_0 : decode cX11_slotsThatHold 0 = .ok (.iconst 0, 1) := by decide +kernel
theorem dX11_slotsThatHold_1 : decode cX11_slotsThatHold 1 = .ok (.istore_n 1, 1) := by decide +kernel
theorem dX11_slotsThatHold_2 : decode cX11_slotsThatHold 2 = .ok (.iconst 0, 1) := by decide +kernel
theorem dX11_slotsThatHold_3 : decode cX11_slotsThatHold 3 = .ok (.istore_n 2, 1) := by decide +kernel
theorem dX11_slotsThatHold_4 : decode cX11_slotsThatHold 4 = .ok (.iload_n 2, 1) := by decide +kernel
theorem dX11_slotsThatHold_5 : decode cX11_slotsThatHold 5 = .ok (.iconst 3, 1) := by decide +kernel
theorem dX11_slotsThatHold_6 : decode cX11_slotsThatHold 6 = .ok (.if_icmp .ge 24, 3) := by decide +kernel
theorem dX11_slotsThatHold_9 : decode cX11_slotsThatHold 9 = .ok (.aload_n 0, 1) := by decide +kernel
theorem dX11_slotsThatHold_10 : decode cX11_slotsThatHold 10 = .ok (.getfield 41, 3) := by decide +kernel
theorem dX11_slotsThatHold_13 : decode cX11_slotsThatHold 13 = .ok (.iload_n 2, 1) := by decide +kernel
theorem dX11_slotsThatHold_14 : decode cX11_slotsThatHold 14 = .ok (.aaload, 1) := by decide +kernel
theorem dX11_slotsThatHold_15 : decode cX11_slotsThatHold 15 = .ok (.getfield 73, 3) := by decide +kernel
theorem dX11_slotsThatHold_18 : decode cX11_slotsThatHold 18 = .ok (.ifCond .eq 6, 3) := by decide +kernel
theorem dX11_slotsThatHold_21 : decode cX11_slotsThatHold 21 = .ok (.iinc 1 1, 3) := by decide +kernel
theorem dX11_slotsThatHold_24 : decode cX11_slotsThatHold 24 = .ok (.iinc 2 1, 3) := by decide +kernel
theorem dX11_slotsThatHold_27 : decode cX11_slotsThatHold 27 = .ok (.goto (-23), 3) := by decide +kernel
theorem dX11_slotsThatHold_30 : decode cX11_slotsThatHold 30 = .ok (.iload_n 1, 1) := by decide +kernel
theorem dX11_slotsThatHold_31 : decode cX11_slotsThatHold 31 = .ok (.ireturn, 1) := by decide +kernel
