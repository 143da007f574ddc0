set_option maxRecDepth 20000 in
theorem ggX5_init_X7_init : GoodIn wsX5_init wsX7_init := goodIn_r _ [22, 23, 2, 3, 24, 25, 26, 27, 28, 29, 30, 31, 32, 33, 34, 35, 36, 37, 38, 39, 40, 41, 42, 43, 44, 45, 46, 47, 48, 49, 50, 51, 52, 53, 54, 55, 56, 57, 58, 59, 60, 61, 62, 63, 64, 65, 66, 67, 68, 69, 70, 71, 72, 10, 73, 74, 75, 76, 77, 78, 79, 80, 81, 82, 83, 84, 85, 86, 87, 88, 89, 176, 177, 178, 179, 180, 181, 182, 183, 184, 185, 201, 202, 203, 204, 205, 206, 207, 208, 209, 210, 211, 212, 213, 214, 215] (by decide +kernel) (by decide +kernel)
set_option maxRecDepth 20000 in
theorem gX5_init_X7_init : GoodIn wsX5_init (wsX7_init) := ggX5_init_X7_init
set_option maxRecDepth 20000 in
theorem ggX5_init_X8_init : GoodIn wsX5_init wsX8_init := goodIn_r _ [92, 93, 2, 3, 25, 94, 95, 27, 96, 97, 98, 99, 100, 14, 101, 102, 103, 104, 105, 106, 107, 108, 109, 110, 111, 112, 113, 114, 115, 116, 117, 118, 119, 120, 121, 122, 123, 124, 125, 126, 127, 128, 129, 130, 131, 132, 133, 134, 135, 136, 137, 138, 139, 140, 141, 142, 143, 144, 145, 146, 147, 148, 149, 150, 151, 152, 153, 154, 186, 187, 188, 189, 190] (by decide +kernel) (by decide +kernel)
set_option maxRecDepth 20000 in
theorem gX5_init_X8_init : GoodIn wsX5_init (wsX8_init) := ggX5_init_X8_init
set_option maxRecDepth 20000 in
theorem ggX5_init_X3_init : GoodIn wsX5_init wsX3_init := goodIn_r _ [156, 157, 2, 3, 158, 31, 32, 159, 160, 161, 162, 163, 164, 165, 166, 25, 167, 168, 45, 46, 47, 48, 49, 50, 51, 52, 201, 202, 203, 204, 205, 191, 192, 193, 194, 195, 196, 197, 198, 199, 200] (by decide +kernel) (by decide +kernel)
set_option maxRecDepth 20000 in
theorem gX5_init_X3_init_n40 : GoodIn wsX5_init (wsX3_init) := ggX5_init_X3_init
theorem dX5_init_0 : decode cX5_init 0 = .ok (.aload_n 0, 1) := by decide +kernel
theorem dX5_init_1 : decode cX5_init 1 = .ok (.invokespecial 3, 3) := by decide +kernel
theorem dX5_init_4 : decode cX5_init 4 = .ok (.aload_n 0, 1) := by decide +kernel
theorem dX5_init_5 : decode cX5_init 5 = .ok (.iconst (-1), 1) := by decide +kernel
theorem dX5_init_6 : decode cX5_init 6 = .ok (.putfield 9, 3) := by decide +kernel
theorem dX5_init_9 : decode cX5_init 9 = .ok (.aload_n 0, 1) := by decide +kernel
theorem dX5_init_10 : decode cX5_init 10 = .ok (.iconst 0, 1) := by decide +kernel
theorem dX5_init_11 : decode cX5_init 11 = .ok (.putfield 15, 3) := by decide +kernel
theorem dX5_init_14 : decode cX5_init 14 = .ok (.aload_n 0, 1) := by decide +kernel
theorem dX5_init_15 : decode cX5_init 15 = .ok (.iconst 0, 1) := by decide +kernel
theorem dX5_init_16 : decode cX5_init 16 = .ok (.putfield 18, 3) := by decide +kernel
theorem dX5_init_19 : decode cX5_init 19 = .ok (.aload_n 0, 1) := by decide +kernel
theorem dX5_init_20 : decode cX5_init 20 = .ok (.iconst 0, 1) := by decide +kernel
theorem dX5_init_21 : decode cX5_init 21 = .ok (.putfield 21, 3) := by decide +kernel
theorem dX5_init_24 : decode cX5_init 24 = .ok (.aload_n 0, 1) := by decide +kernel
theorem dX5_init_25 : decode cX5_init 25 = .ok (.new 24, 3) := by decide +kernel
theorem dX5_init_28 : decode cX5_init 28 = .ok (.dup, 1) := by decide +kernel
theorem dX5_init_29 : decode cX5_init 29 = .ok (.invokespecial 26, 3) := by decide +kernel
theorem dX5_init_32 : decode cX5_init 32 = .ok (.putfield 27, 3) := by decide +kernel
theorem dX5_init_35 : decode cX5_init 35 = .ok (.aload_n 0, 1) := by decide +kernel
theorem dX5_init_36 : decode cX5_init 36 = .ok (.new 31, 3) := by decide +kernel
theorem dX5_init_39 : decode cX5_init 39 = .ok (.dup, 1) := by decide +kernel
theorem dX5_init_40 : decode cX5_init 40 = .ok (.invokespecial 33, 3) := by decide +kernel
theorem dX5_init_43 : decode cX5_init 43 = .ok (.putfield 34, 3) := by decide +kernel
theorem dX5_init_46 : decode cX5_init 46 = .ok (.aload_n 0, 1) := by decide +kernel
theorem dX5_init_47 : decode cX5_init 47 = .ok (.new 38, 3) := by decide +kernel
theorem dX5_init_50 : decode cX5_init 50 = .ok (.dup, 1) := by decide +kernel
theorem dX5_init_51 : decode cX5_init 51 = .ok (.invokespecial 40, 3) := by decide +kernel
theorem dX5_init_54 : decode cX5_init 54 = .ok (.putfield 41, 3) := by decide +kernel
theorem dX5_init_57 : decode cX5_init 57 = .ok (.return_, 1) := by decide +kernel
set_option maxRecDepth 20000 in
theorem ggX5_readDraft_X7_clear : GoodIn wsX5_readDraft wsX7_clear := goodIn_r _ [10, 11, 12, 13, 14, 15, 16, 17, 18, 19, 20, 21, 22, 23, 24, 25, 26, 27, 28, 29, 30, 31, 32, 33, 34, 35, 36, 37, 38, 39, 40, 41, 42, 43, 320, 321, 322, 323, 324, 325, 326, 327, 328, 329, 330, 331, 332, 333, 334, 335, 336, 337, 338, 339, 340, 341, 342, 343, 344] (by decide +kernel) (by decide +kernel)
set_option maxRecDepth 20000 in
theorem gX5_readDraft_X7_clear : GoodIn wsX5_readDraft (wsV RX5 45 RX7 yX7_clear wsX7_clear) := goodIn_app (goodIn_of _ (by decide +kernel)) ggX5_readDraft_X7_clear
set_option maxRecDepth 20000 in
theorem ggX5_readDraft_X8_cut : GoodIn wsX5_readDraft wsX8_cut := goodIn_r _ [48, 49, 50, 51, 52, 53, 47, 54, 55, 56, 57, 58, 59, 60, 61, 62, 63, 64, 65, 66, 67, 68, 69, 70, 71, 72, 73, 74, 75, 76, 77, 78, 79, 80, 81, 82, 83, 84, 85, 86, 87, 88, 89, 345, 346, 347, 348, 349] (by decide +kernel) (by decide +kernel)
set_option maxRecDepth 20000 in
theorem gX5_readDraft_X8_cut : GoodIn wsX5_readDraft (wsV RX5 48 RX8 yX8_cut wsX8_cut) := goodIn_app (goodIn_of _ (by decide +kernel)) ggX5_readDraft_X8_cut
set_option maxRecDepth 20000 in
theorem ggX5_readDraft_X5_kind : GoodIn wsX5_readDraft wsX5_kind := goodIn_r _ [94, 3, 2, 95, 313, 314, 315, 316, 317, 318, 319, 345, 346, 347, 348, 349] (by decide +kernel) (by decide +kernel)
set_option maxRecDepth 20000 in
theorem gX5_readDraft_X5_kind : GoodIn wsX5_readDraft (wsV RX5 52 RX5 yX5_kind wsX5_kind) := goodIn_app (goodIn_of _ (by decide +kernel)) ggX5_readDraft_X5_kind
set_option maxRecDepth 20000 in
theorem ggX5_readDraft_X5_readTell : GoodIn wsX5_readDraft wsX5_readTell := goodIn_r _ [99, 1, 90, 91, 92, 93, 94, 3, 2, 95, 100, 101, 102, 103, 4, 104, 5, 105, 106, 107, 9, 108, 11, 13, 109, 14, 110, 111, 112, 113, 114, 115, 116, 117, 118, 119, 120, 121, 122, 123, 124, 125, 126, 127, 128, 129, 130, 131, 132, 133, 134, 135, 136, 137, 138, 139, 140, 141, 142, 143, 144, 145, 146, 147, 148, 149, 150, 151, 152, 153, 154, 155, 156, 157, 158, 159, 160, 161, 162, 163, 164, 165, 19, 20, 21, 22, 23, 166, 167, 168, 169, 170, 171, 172, 173, 174, 175, 176, 177, 178, 179, 180, 181, 182, 183, 25, 26, 27, 28, 29, 184, 185, 186, 187, 188, 189, 190, 191, 192, 193, 194, 195, 196, 197, 198, 199, 200, 201, 202, 203, 204, 205, 206, 207, 208, 209, 210, 211, 212, 213, 214, 215, 216, 217, 218, 219, 220, 221, 222, 223, 224, 225, 226, 227, 228, 229, 230, 231, 232, 233, 234, 235, 236, 237, 238, 239, 240, 241, 242, 243, 244, 245, 246, 247, 248, 249, 250, 251, 252, 253, 254, 255, 256, 257, 258, 259, 260, 261, 262, 263, 264, 265, 266, 267, 268, 269, 270, 271, 33, 272, 35, 273, 274, 275, 276, 277, 278, 279, 280, 281, 282, 283, 284, 285, 286, 287, 288, 289, 290, 291, 292, 293, 294, 295, 40, 296, 42, 43, 297, 298, 299, 300, 301, 302, 303, 304, 305, 313, 314, 315, 316, 317, 318, 319, 345, 346, 347, 348, 349, 320, 321, 322, 323, 324, 325, 326, 327, 328, 329, 335, 336, 337, 338, 339, 340, 341, 342, 343, 344, 350, 351, 352, 353, 354, 355, 356, 357, 358, 359, 330, 331, 332, 333, 334] (by decide +kernel) (by decide +kernel)
set_option maxRecDepth 20000 in
theorem gX5_readDraft_X5_readTell : GoodIn wsX5_readDraft (wsV RX5 56 RX5 yX5_readTell wsX5_readTell) := goodIn_app (goodIn_of _ (by decide +kernel)) ggX5_readDraft_X5_readTell
set_option maxRecDepth 20000 in
theorem ggX5_readDraft_X5_findGreat : GoodIn wsX5_readDraft wsX5_findGreat := goodIn_r _ [309, 1, 268, 310, 4, 311, 292, 312, 5, 313, 314, 315, 316, 317, 318, 319, 320, 321, 322, 323, 324, 325, 326, 327, 328, 329, 335, 336, 337, 338, 339, 340, 341] (by decide +kernel) (by decide +kernel)
set_option maxRecDepth 20000 in
theorem gX5_readDraft_X5_findGreat : GoodIn wsX5_readDraft (wsV RX5 60 RX5 yX5_findGreat wsX5_findGreat) := goodIn_app (goodIn_of _ (by decide +kernel)) ggX5_readDraft_X5_findGreat
theorem dX5_readDraft_0 : decode cX5_readDraft 0 = .ok (.aload_n 0, 1) := by decide +kernel
theorem dX5_readDraft_1 : decode cX5_readDraft 1 = .ok (.getfield 27, 3) := by decide +kernel
theorem dX5_readDraft_4 : decode cX5_readDraft 4 = .ok (.invokevirtual 45, 3) := by decide +kernel
theorem dX5_readDraft_7 : decode cX5_readDraft 7 = .ok (.aload_n 0, 1) := by decide +kernel
theorem dX5_readDraft_8 : decode cX5_readDraft 8 = .ok (.getfield 34, 3) := by decide +kernel
theorem dX5_readDraft_11 : decode cX5_readDraft 11 = .ok (.aload_n 1, 1) := by decide +kernel
theorem dX5_readDraft_12 : decode cX5_readDraft 12 = .ok (.iload_n 2, 1) := by decide +kernel
theorem dX5_readDraft_13 : decode cX5_readDraft 13 = .ok (.invokevirtual 48, 3) := by decide +kernel
theorem dX5_readDraft_16 : decode cX5_readDraft 16 = .ok (.aload_n 0, 1) := by decide +kernel
theorem dX5_readDraft_17 : decode cX5_readDraft 17 = .ok (.iconst 0, 1) := by decide +kernel
theorem dX5_readDraft_18 : decode cX5_readDraft 18 = .ok (.putfield 18, 3) := by decide +kernel
theorem dX5_readDraft_21 : decode cX5_readDraft 21 = .ok (.aload_n 0, 1) := by decide +kernel
theorem dX5_readDraft_22 : decode cX5_readDraft 22 = .ok (.iconst 0, 1) := by decide +kernel
theorem dX5_readDraft_23 : decode cX5_readDraft 23 = .ok (.putfield 15, 3) := by decide +kernel
theorem dX5_readDraft_26 : decode cX5_readDraft 26 = .ok (.aload_n 0, 1) := by decide +kernel
theorem dX5_readDraft_27 : decode cX5_readDraft 27 = .ok (.iconst (-1), 1) := by decide +kernel
theorem dX5_readDraft_28 : decode cX5_readDraft 28 = .ok (.putfield 9, 3) := by decide +kernel
theorem dX5_readDraft_31 : decode cX5_readDraft 31 = .ok (.iconst 1, 1) := by decide +kernel
theorem dX5_readDraft_32 : decode cX5_readDraft 32 = .ok (.istore_n 3, 1) := by decide +kernel
theorem dX5_readDraft_33 : decode cX5_readDraft 33 = .ok (.iconst 0, 1) := by decide +kernel
theorem dX5_readDraft_34 : decode cX5_readDraft 34 = .ok (.istore 4, 2) := by decide +kernel
theorem dX5_readDraft_36 : decode cX5_readDraft 36 = .ok (.iload 4, 2) := by decide +kernel
theorem dX5_readDraft_38 : decode cX5_readDraft 38 = .ok (.sipush 400, 3) := by decide +kernel
theorem dX5_readDraft_41 : decode cX5_readDraft 41 = .ok (.if_icmp .gt 25, 3) := by decide +kernel
theorem dX5_readDraft_44 : decode cX5_readDraft 44 = .ok (.iload_n 3, 1) := by decide +kernel
theorem dX5_readDraft_45 : decode cX5_readDraft 45 = .ok (.ifCond .eq 21, 3) := by decide +kernel
theorem dX5_readDraft_48 : decode cX5_readDraft 48 = .ok (.aload_n 0, 1) := by decide +kernel
theorem dX5_readDraft_49 : decode cX5_readDraft 49 = .ok (.invokevirtual 52, 3) := by decide +kernel
theorem dX5_readDraft_52 : decode cX5_readDraft 52 = .ok (.ifCond .eq 14, 3) := by decide +kernel
theorem dX5_readDraft_55 : decode cX5_readDraft 55 = .ok (.aload_n 0, 1) := by decide +kernel
theorem dX5_readDraft_56 : decode cX5_readDraft 56 = .ok (.invokevirtual 56, 3) := by decide +kernel
theorem dX5_readDraft_59 : decode cX5_readDraft 59 = .ok (.istore_n 3, 1) := by decide +kernel
theorem dX5_readDraft_60 : decode cX5_readDraft 60 = .ok (.iinc 4 1, 3) := by decide +kernel
theorem dX5_readDraft_63 : decode cX5_readDraft 63 = .ok (.goto (-27), 3) := by decide +kernel
theorem dX5_readDraft_66 : decode cX5_readDraft 66 = .ok (.aload_n 0, 1) := by decide +kernel
theorem dX5_readDraft_67 : decode cX5_readDraft 67 = .ok (.getfield 15, 3) := by decide +kernel
theorem dX5_readDraft_70 : decode cX5_readDraft 70 = .ok (.ifCond .ne 7, 3) := by decide +kernel
theorem dX5_readDraft_73 : decode cX5_readDraft 73 = .ok (.aload_n 0, 1) := by decide +kernel
theorem dX5_readDraft_74 : decode cX5_readDraft 74 = .ok (.invokevirtual 60, 3) := by decide +kernel
theorem dX5_readDraft_77 : decode cX5_readDraft 77 = .ok (.aload_n 0, 1) := by decide +kernel
theorem dX5_readDraft_78 : decode cX5_readDraft 78 = .ok (.getfield 15, 3) := by decide +kernel
theorem dX5_readDraft_81 : decode cX5_readDraft 81 = .ok (.ireturn, 1) := by decide +kernel
theorem dX5_exchange_0 : decode cX5_exchange 0 = .ok (.aload_n 0, 1) := by decide +kernel
theorem dX5_exchange_1 : decode cX5_exchange 1 = .ok (.getfield 27, 3) := by decide +kernel
theorem dX5_exchange_4 : decode cX5_exchange 4 = .ok (.astore_n 2, 1) := by decide +kernel
theorem dX5_exchange_5 : decode cX5_exchange 5 = .ok (.aload_n 0, 1) := by decide +kernel
theorem dX5_exchange_6 : decode cX5_exchange 6 = .ok (.aload_n 1, 1) := by decide +kernel
theorem dX5_exchange_7 : decode cX5_exchange 7 = .ok (.putfield 27, 3) := by decide +kernel
theorem dX5_exchange_10 : decode cX5_exchange 10 = .ok (.aload_n 2, 1) := by decide +kernel
theorem dX5_exchange_11 : decode cX5_exchange 11 = .ok (.areturn, 1) := by decide +kernel
theorem dX5_kind_0 : decode cX5_kind 0 = .ok (.aload_n 0, 1) := by decide +kernel
theorem dX5_kind_1 : decode cX5_kind 1 = .ok (.getfield 18, 3) := by decide +kernel
theorem dX5_kind_4 : decode cX5_kind 4 = .ok (.sipush 400, 3) := by decide +kernel
theorem dX5_kind_7 : decode cX5_kind 7 = .ok (.if_icmp .gt 18, 3) := by decide +kernel
theorem dX5_kind_10 : decode cX5_kind 10 = .ok (.aload_n 0, 1) := by decide +kernel
theorem dX5_kind_11 : decode cX5_kind 11 = .ok (.getfield 34, 3) := by decide +kernel
theorem dX5_kind_14 : decode cX5_kind 14 = .ok (.getfield 63, 3) := by decide +kernel
theorem dX5_kind_17 : decode cX5_kind 17 = .ok (.aload_n 0, 1) := by decide +kernel
theorem dX5_kind_18 : decode cX5_kind 18 = .ok (.getfield 18, 3) := by decide +kernel
theorem dX5_kind_21 : decode cX5_kind 21 = .ok (.iaload, 1) := by decide +kernel
theorem dX5_kind_22 : decode cX5_kind 22 = .ok (.goto 4, 3) := by decide +kernel
theorem dX5_kind_25 : decode cX5_kind 25 = .ok (.iconst 0, 1) := by decide +kernel
theorem dX5_kind_26 : decode cX5_kind 26 = .ok (.ireturn, 1) := by decide +kernel
set_option maxRecDepth 20000 in
theorem ggX5_readTell_X5_kind : GoodIn wsX5_readTell wsX5_kind := goodIn_r _ [6, 7, 8, 9, 237, 238, 239, 240, 241, 242, 243, 244, 245, 246, 247, 248] (by decide +kernel) (by decide +kernel)
set_option maxRecDepth 20000 in
theorem gX5_readTell_X5_kind : GoodIn wsX5_readTell (wsV RX5 52 RX5 yX5_kind wsX5_kind) := goodIn_app (goodIn_of _ (by decide +kernel)) ggX5_readTell_X5_kind
set_option maxRecDepth 20000 in
theorem ggX5_readTell_X5_stop : GoodIn wsX5_readTell wsX5_stop := goodIn_r _ [13, 14, 8, 15, 7, 16, 237, 238, 239, 240, 241, 242, 243, 244, 245, 246, 247, 248] (by decide +kernel) (by decide +kernel)
set_option maxRecDepth 20000 in
theorem gX5_readTell_X5_stop : GoodIn wsX5_readTell (wsV RX5 67 RX5 yX5_stop wsX5_stop) := goodIn_app (goodIn_of _ (by decide +kernel)) ggX5_readTell_X5_stop
set_option maxRecDepth 20000 in
theorem ggX5_readTell_X7_isFullOf : GoodIn wsX5_readTell wsX7_isFullOf := goodIn_r _ [21, 22, 23, 24, 25, 26, 249, 250, 251, 252, 253, 254, 255, 256, 257, 258, 259, 260, 261, 262, 263, 264, 265, 266, 267, 268] (by decide +kernel) (by decide +kernel)
set_option maxRecDepth 20000 in
theorem gX5_readTell_X7_isFullOf : GoodIn wsX5_readTell (wsV RX5 71 RX7 yX7_isFullOf wsX7_isFullOf) := goodIn_app (goodIn_of _ (by decide +kernel)) ggX5_readTell_X7_isFullOf
set_option maxRecDepth 20000 in
theorem ggX5_readTell_X5_take : GoodIn wsX5_readTell wsX5_take := goodIn_r _ [30, 7, 2, 3, 4, 5, 6, 8, 9, 10, 11, 12, 13, 14, 15, 16, 237, 238, 239, 240, 241, 242, 243, 244, 245, 246, 247, 248] (by decide +kernel) (by decide +kernel)
set_option maxRecDepth 20000 in
theorem gX5_readTell_X5_take : GoodIn wsX5_readTell (wsV RX5 74 RX5 yX5_take wsX5_take) := goodIn_app (goodIn_of _ (by decide +kernel)) ggX5_readTell_X5_take
set_option maxRecDepth 20000 in
theorem ggX5_readTell_X5_takeName : GoodIn wsX5_readTell wsX5_takeName := goodIn_r _ [34, 1, 27, 28, 29, 5, 30, 7, 2, 3, 4, 6, 8, 9, 10, 11, 12, 13, 14, 15, 16, 35, 36, 37, 38, 39, 40, 41, 42, 20, 43, 22, 44, 45, 46, 47, 48, 237, 238, 239, 240, 241, 242, 243, 244, 245, 246, 247, 248, 249, 250, 251, 252, 253, 254, 255, 256, 257, 258] (by decide +kernel) (by decide +kernel)
set_option maxRecDepth 20000 in
theorem gX5_readTell_X5_takeName : GoodIn wsX5_readTell (wsV RX5 77 RX5 yX5_takeName wsX5_takeName) := goodIn_app (goodIn_of _ (by decide +kernel)) ggX5_readTell_X5_takeName
set_option maxRecDepth 20000 in
theorem ggX5_readTell_X5_noteSize : GoodIn wsX5_readTell wsX5_noteSize := goodIn_r _ [52, 53, 54, 55, 56, 5, 57, 35, 36, 37, 38, 7, 8, 39, 58, 59, 60, 45, 46, 47, 48, 14, 15, 16, 237, 238, 239, 240, 241, 242, 243, 244, 245, 246, 247, 248] (by decide +kernel) (by decide +kernel)
set_option maxRecDepth 20000 in
theorem gX5_readTell_X5_noteSize : GoodIn wsX5_readTell (wsV RX5 80 RX5 yX5_noteSize wsX5_noteSize) := goodIn_app (goodIn_of _ (by decide +kernel)) ggX5_readTell_X5_noteSize
set_option maxRecDepth 20000 in
theorem ggX5_readTell_X5_readLaw : GoodIn wsX5_readTell wsX5_readLaw := goodIn_r _ [64, 65, 66, 67, 27, 28, 29, 5, 30, 7, 2, 3, 4, 6, 8, 9, 10, 11, 12, 13, 14, 15, 16, 68, 69, 70, 71, 72, 73, 74, 75, 76, 77, 78, 79, 80, 81, 82, 83, 84, 85, 86, 35, 36, 37, 38, 39, 87, 88, 89, 90, 91, 92, 93, 94, 95, 96, 97, 98, 99, 100, 101, 102, 103, 104, 105, 106, 107, 108, 109, 110, 111, 112, 113, 114, 115, 116, 117, 118, 119, 120, 121, 122, 123, 124, 125, 126, 127, 128, 129, 130, 131, 132, 133, 237, 238, 239, 240, 241, 242, 243, 269, 270, 271, 272, 273, 274, 275, 276, 277, 278, 244, 245, 246, 247, 248, 279, 280, 281, 282, 283] (by decide +kernel) (by decide +kernel)
set_option maxRecDepth 20000 in
theorem gX5_readTell_X5_readLaw : GoodIn wsX5_readTell (wsV RX5 83 RX5 yX5_readLaw wsX5_readLaw) := goodIn_app (goodIn_of _ (by decide +kernel)) ggX5_readTell_X5_readLaw
set_option maxRecDepth 20000 in
theorem ggX5_readTell_X5_tellRow : GoodIn wsX5_readTell wsX5_tellRow := goodIn_r _ [137, 53, 65, 138, 1, 139, 140, 141, 84, 142, 143, 144, 145, 146, 147, 148, 149, 150, 151, 152, 153, 154, 155, 156, 157, 158, 86, 108, 109, 159, 160, 161, 162, 163, 164, 165, 20, 166, 22, 167, 168, 169, 170, 171, 172, 237, 238, 239, 240, 241, 242, 243, 269, 270, 271, 272, 273, 274, 275, 276, 277, 278, 279, 280, 281, 282, 283, 249, 250, 251, 252, 253, 254, 255, 256, 257, 258] (by decide +kernel) (by decide +kernel)
set_option maxRecDepth 20000 in
theorem gX5_readTell_X5_tellRow : GoodIn wsX5_readTell (wsV RX5 86 RX5 yX5_tellRow wsX5_tellRow) := goodIn_app (goodIn_of _ (by decide +kernel)) ggX5_readTell_X5_tellRow
set_option maxRecDepth 20000 in
theorem ggX5_readTell_X5_readList : GoodIn wsX5_readTell wsX5_readList := goodIn_r _ [176, 1, 2, 3, 4, 5, 6, 7, 8, 9, 27, 28, 29, 30, 10, 11, 12, 13, 14, 15, 16, 54, 55, 56, 57, 35, 36, 37, 38, 39, 58, 59, 60, 45, 46, 47, 48, 163, 164, 165, 20, 166, 22, 167, 168, 169, 170, 171, 172, 237, 238, 239, 240, 241, 242, 243, 244, 245, 246, 247, 248, 249, 250, 251, 252, 253, 254, 255, 256, 257, 258] (by decide +kernel) (by decide +kernel)
set_option maxRecDepth 20000 in
theorem gX5_readTell_X5_readList : GoodIn wsX5_readTell (wsV RX5 89 RX5 yX5_readList wsX5_readList) := goodIn_app (goodIn_of _ (by decide +kernel)) ggX5_readTell_X5_readList
set_option maxRecDepth 20000 in
theorem ggX5_readTell_X5_tellAsk : GoodIn wsX5_readTell wsX5_tellAsk := goodIn_r _ [180, 1, 181, 65, 138, 182, 183, 184, 84, 185, 86, 108, 186, 187, 188, 189, 109, 237, 238, 239, 240, 241, 242, 243, 249, 250, 251, 252, 253, 254, 255, 256, 257, 258, 269, 270, 271, 272, 273, 274, 275, 276, 277, 278, 279, 280, 281, 282, 283] (by decide +kernel) (by decide +kernel)
set_option maxRecDepth 20000 in
theorem gX5_readTell_X5_tellAsk : GoodIn wsX5_readTell (wsV RX5 92 RX5 yX5_tellAsk wsX5_tellAsk) := goodIn_app (goodIn_of _ (by decide +kernel)) ggX5_readTell_X5_tellAsk
set_option maxRecDepth 20000 in
theorem ggX5_readTell_X5_tellShare : GoodIn wsX5_readTell wsX5_tellShare := goodIn_r _ [193, 1, 194, 7, 8, 15, 35, 36, 37, 5, 38, 39, 54, 55, 56, 57, 58, 59, 60, 45, 46, 47, 48, 14, 16, 195, 196, 197, 198, 199, 200, 201, 202, 203, 204, 205, 206, 207, 237, 238, 239, 240, 241, 242, 243, 249, 250, 251, 252, 253, 254, 255, 256, 257, 258, 244, 245, 246, 247, 248, 259, 260, 261, 262, 263, 264, 265] (by decide +kernel) (by decide +kernel)
set_option maxRecDepth 20000 in
theorem gX5_readTell_X5_tellShare : GoodIn wsX5_readTell (wsV RX5 95 RX5 yX5_tellShare wsX5_tellShare) := goodIn_app (goodIn_of _ (by decide +kernel)) ggX5_readTell_X5_tellShare
set_option maxRecDepth 20000 in
theorem ggX5_readTell_X5_tellBound : GoodIn wsX5_readTell wsX5_tellBound := goodIn_r _ [211, 1, 212, 213, 54, 55, 56, 5, 57, 35, 36, 37, 38, 7, 8, 39, 58, 59, 60, 45, 46, 47, 48, 14, 15, 16, 237, 238, 239, 240, 241, 242, 243, 249, 250, 251, 252, 253, 254, 255, 256, 257, 258, 244, 245, 246, 247, 248] (by decide +kernel) (by decide +kernel)
set_option maxRecDepth 20000 in
theorem gX5_readTell_X5_tellBound : GoodIn wsX5_readTell (wsV RX5 98 RX5 yX5_tellBound wsX5_tellBound) := goodIn_app (goodIn_of _ (by decide +kernel)) ggX5_readTell_X5_tellBound
set_option maxRecDepth 20000 in
theorem ggX5_readTell_X5_tellNumber : GoodIn wsX5_readTell wsX5_tellNumber := goodIn_r _ [217, 1, 218, 219, 194, 220, 35, 36, 37, 5, 38, 7, 8, 39, 54, 55, 56, 57, 58, 59, 60, 45, 46, 47, 48, 14, 15, 16, 221, 222, 223, 224, 225, 226, 227, 228, 229, 230, 231, 232, 233, 234, 235, 236, 237, 238, 239, 240, 241, 242, 243, 249, 250, 251, 252, 253, 254, 255, 256, 257, 258, 259, 260, 261, 262, 263, 264, 265, 244, 245, 246, 247, 248, 266, 267, 268] (by decide +kernel) (by decide +kernel)
set_option maxRecDepth 20000 in
theorem gX5_readTell_X5_tellNumber : GoodIn wsX5_readTell (wsV RX5 101 RX5 yX5_tellNumber wsX5_tellNumber) := goodIn_app (goodIn_of _ (by decide +kernel)) ggX5_readTell_X5_tellNumber
theorem dX5_readTell_0 : decode cX5_readTell 0 = .ok (.aload_n 0, 1) := by decide +kernel
theorem dX5_readTell_1 : decode cX5_readTell 1 = .ok (.invokevirtual 52, 3) := by decide +kernel
theorem dX5_readTell_4 : decode cX5_readTell 4 = .ok (.istore_n 1, 1) := by decide +kernel
theorem dX5_readTell_5 : decode cX5_readTell 5 = .ok (.iload_n 1, 1) := by decide +kernel
theorem dX5_readTell_6 : decode cX5_readTell 6 = .ok (.sipush 256, 3) := by decide +kernel
theorem dX5_readTell_9 : decode cX5_readTell 9 = .ok (.if_icmp .lt 10, 3) := by decide +kernel
theorem dX5_readTell_12 : decode cX5_readTell 12 = .ok (.iload_n 1, 1) := by decide +kernel
theorem dX5_readTell_13 : decode cX5_readTell 13 = .ok (.sipush 263, 3) := by decide +kernel
theorem dX5_readTell_16 : decode cX5_readTell 16 = .ok (.if_icmp .le 9, 3) := by decide +kernel
theorem dX5_readTell_19 : decode cX5_readTell 19 = .ok (.aload_n 0, 1) := by decide +kernel
theorem dX5_readTell_20 : decode cX5_readTell 20 = .ok (.iconst 1, 1) := by decide +kernel
theorem dX5_readTell_21 : decode cX5_readTell 21 = .ok (.invokevirtual 67, 3) := by decide +kernel
theorem dX5_readTell_24 : decode cX5_readTell 24 = .ok (.ireturn, 1) := by decide +kernel
theorem dX5_readTell_25 : decode cX5_readTell 25 = .ok (.aload_n 0, 1) := by decide +kernel
theorem dX5_readTell_26 : decode cX5_readTell 26 = .ok (.getfield 27, 3) := by decide +kernel
theorem dX5_readTell_29 : decode cX5_readTell 29 = .ok (.iload_n 1, 1) := by decide +kernel
theorem dX5_readTell_30 : decode cX5_readTell 30 = .ok (.invokevirtual 71, 3) := by decide +kernel
theorem dX5_readTell_33 : decode cX5_readTell 33 = .ok (.ifCond .eq 9, 3) := by decide +kernel
theorem dX5_readTell_36 : decode cX5_readTell 36 = .ok (.aload_n 0, 1) := by decide +kernel
theorem dX5_readTell_37 : decode cX5_readTell 37 = .ok (.iconst 2, 1) := by decide +kernel
theorem dX5_readTell_38 : decode cX5_readTell 38 = .ok (.invokevirtual 67, 3) := by decide +kernel
theorem dX5_readTell_41 : decode cX5_readTell 41 = .ok (.ireturn, 1) := by decide +kernel
theorem dX5_readTell_42 : decode cX5_readTell 42 = .ok (.aload_n 0, 1) := by decide +kernel
theorem dX5_readTell_43 : decode cX5_readTell 43 = .ok (.iload_n 1, 1) := by decide +kernel
theorem dX5_readTell_44 : decode cX5_readTell 44 = .ok (.invokevirtual 74, 3) := by decide +kernel
theorem dX5_readTell_47 : decode cX5_readTell 47 = .ok (.ifCond .ne 5, 3) := by decide +kernel
theorem dX5_readTell_50 : decode cX5_readTell 50 = .ok (.iconst 0, 1) := by decide +kernel
theorem dX5_readTell_51 : decode cX5_readTell 51 = .ok (.ireturn, 1) := by decide +kernel
theorem dX5_readTell_52 : decode cX5_readTell 52 = .ok (.iload_n 1, 1) := by decide +kernel
theorem dX5_readTell_53 : decode cX5_readTell 53 = .ok (.tableswitch 210 256 262 #[43, 85, 114, 210, 134, 210, 172], 43) := by decide +kernel
theorem dX5_readTell_96 : decode cX5_readTell 96 = .ok (.aload_n 0, 1) := by decide +kernel
theorem dX5_readTell_97 : decode cX5_readTell 97 = .ok (.invokevirtual 77, 3) := by decide +kernel
theorem dX5_readTell_100 : decode cX5_readTell 100 = .ok (.ifCond .eq 36, 3) := by decide +kernel
theorem dX5_readTell_103 : decode cX5_readTell 103 = .ok (.aload_n 0, 1) := by decide +kernel
theorem dX5_readTell_104 : decode cX5_readTell 104 = .ok (.iconst 3, 1) := by decide +kernel
theorem dX5_readTell_105 : decode cX5_readTell 105 = .ok (.invokevirtual 74, 3) := by decide +kernel
theorem dX5_readTell_108 : decode cX5_readTell 108 = .ok (.ifCond .eq 28, 3) := by decide +kernel
theorem dX5_readTell_111 : decode cX5_readTell 111 = .ok (.aload_n 0, 1) := by decide +kernel
theorem dX5_readTell_112 : decode cX5_readTell 112 = .ok (.invokevirtual 80, 3) := by decide +kernel
theorem dX5_readTell_115 : decode cX5_readTell 115 = .ok (.ifCond .eq 21, 3) := by decide +kernel
theorem dX5_readTell_118 : decode cX5_readTell 118 = .ok (.aload_n 0, 1) := by decide +kernel
theorem dX5_readTell_119 : decode cX5_readTell 119 = .ok (.invokevirtual 83, 3) := by decide +kernel
theorem dX5_readTell_122 : decode cX5_readTell 122 = .ok (.ifCond .eq 14, 3) := by decide +kernel
theorem dX5_readTell_125 : decode cX5_readTell 125 = .ok (.aload_n 0, 1) := by decide +kernel
theorem dX5_readTell_126 : decode cX5_readTell 126 = .ok (.invokevirtual 86, 3) := by decide +kernel
theorem dX5_readTell_129 : decode cX5_readTell 129 = .ok (.ifCond .eq 7, 3) := by decide +kernel
theorem dX5_readTell_132 : decode cX5_readTell 132 = .ok (.iconst 1, 1) := by decide +kernel
theorem dX5_readTell_133 : decode cX5_readTell 133 = .ok (.goto 4, 3) := by decide +kernel
theorem dX5_readTell_136 : decode cX5_readTell 136 = .ok (.iconst 0, 1) := by decide +kernel
theorem dX5_readTell_137 : decode cX5_readTell 137 = .ok (.ireturn, 1) := by decide +kernel
theorem dX5_readTell_138 : decode cX5_readTell 138 = .ok (.aload_n 0, 1) := by decide +kernel
theorem dX5_readTell_139 : decode cX5_readTell 139 = .ok (.invokevirtual 77, 3) := by decide +kernel
theorem dX5_readTell_142 : decode cX5_readTell 142 = .ok (.ifCond .eq 23, 3) := by decide +kernel
theorem dX5_readTell_145 : decode cX5_readTell 145 = .ok (.aload_n 0, 1) := by decide +kernel
theorem dX5_readTell_146 : decode cX5_readTell 146 = .ok (.invokevirtual 89, 3) := by decide +kernel
theorem dX5_readTell_149 : decode cX5_readTell 149 = .ok (.ifCond .eq 16, 3) := by decide +kernel
theorem dX5_readTell_152 : decode cX5_readTell 152 = .ok (.aload_n 0, 1) := by decide +kernel
theorem dX5_readTell_153 : decode cX5_readTell 153 = .ok (.bipush 59, 2) := by decide +kernel
theorem dX5_readTell_155 : decode cX5_readTell 155 = .ok (.invokevirtual 74, 3) := by decide +kernel
theorem dX5_readTell_158 : decode cX5_readTell 158 = .ok (.ifCond .eq 7, 3) := by decide +kernel
theorem dX5_readTell_161 : decode cX5_readTell 161 = .ok (.iconst 1, 1) := by decide +kernel
theorem dX5_readTell_162 : decode cX5_readTell 162 = .ok (.goto 4, 3) := by decide +kernel
theorem dX5_readTell_165 : decode cX5_readTell 165 = .ok (.iconst 0, 1) := by decide +kernel
theorem dX5_readTell_166 : decode cX5_readTell 166 = .ok (.ireturn, 1) := by decide +kernel
theorem dX5_readTell_167 : decode cX5_readTell 167 = .ok (.aload_n 0, 1) := by decide +kernel
theorem dX5_readTell_168 : decode cX5_readTell 168 = .ok (.invokevirtual 83, 3) := by decide +kernel
theorem dX5_readTell_171 : decode cX5_readTell 171 = .ok (.ifCond .eq 14, 3) := by decide +kernel
theorem dX5_readTell_174 : decode cX5_readTell 174 = .ok (.aload_n 0, 1) := by decide +kernel
theorem dX5_readTell_175 : decode cX5_readTell 175 = .ok (.invokevirtual 92, 3) := by decide +kernel
theorem dX5_readTell_178 : decode cX5_readTell 178 = .ok (.ifCond .eq 7, 3) := by decide +kernel
theorem dX5_readTell_181 : decode cX5_readTell 181 = .ok (.iconst 1, 1) := by decide +kernel
theorem dX5_readTell_182 : decode cX5_readTell 182 = .ok (.goto 4, 3) := by decide +kernel
theorem dX5_readTell_185 : decode cX5_readTell 185 = .ok (.iconst 0, 1) := by decide +kernel
theorem dX5_readTell_186 : decode cX5_readTell 186 = .ok (.ireturn, 1) := by decide +kernel
theorem dX5_readTell_187 : decode cX5_readTell 187 = .ok (.aload_n 0, 1) := by decide +kernel
theorem dX5_readTell_188 : decode cX5_readTell 188 = .ok (.iconst 3, 1) := by decide +kernel
theorem dX5_readTell_189 : decode cX5_readTell 189 = .ok (.invokevirtual 74, 3) := by decide +kernel
theorem dX5_readTell_192 : decode cX5_readTell 192 = .ok (.ifCond .eq 31, 3) := by decide +kernel
theorem dX5_readTell_195 : decode cX5_readTell 195 = .ok (.aload_n 0, 1) := by decide +kernel
theorem dX5_readTell_196 : decode cX5_readTell 196 = .ok (.iconst 3, 1) := by decide +kernel
theorem dX5_readTell_197 : decode cX5_readTell 197 = .ok (.invokevirtual 74, 3) := by decide +kernel
theorem dX5_readTell_200 : decode cX5_readTell 200 = .ok (.ifCond .eq 23, 3) := by decide +kernel
theorem dX5_readTell_203 : decode cX5_readTell 203 = .ok (.aload_n 0, 1) := by decide +kernel
theorem dX5_readTell_204 : decode cX5_readTell 204 = .ok (.invokevirtual 95, 3) := by decide +kernel
theorem dX5_readTell_207 : decode cX5_readTell 207 = .ok (.ifCond .eq 16, 3) := by decide +kernel
theorem dX5_readTell_210 : decode cX5_readTell 210 = .ok (.aload_n 0, 1) := by decide +kernel
theorem dX5_readTell_211 : decode cX5_readTell 211 = .ok (.bipush 59, 2) := by decide +kernel
theorem dX5_readTell_213 : decode cX5_readTell 213 = .ok (.invokevirtual 74, 3) := by decide +kernel
theorem dX5_readTell_216 : decode cX5_readTell 216 = .ok (.ifCond .eq 7, 3) := by decide +kernel
theorem dX5_readTell_219 : decode cX5_readTell 219 = .ok (.iconst 1, 1) := by decide +kernel
theorem dX5_readTell_220 : decode cX5_readTell 220 = .ok (.goto 4, 3) := by decide +kernel
theorem dX5_readTell_223 : decode cX5_readTell 223 = .ok (.iconst 0, 1) := by decide +kernel
theorem dX5_readTell_224 : decode cX5_readTell 224 = .ok (.ireturn, 1) := by decide +kernel
theorem dX5_readTell_225 : decode cX5_readTell 225 = .ok (.aload_n 0, 1) := by decide +kernel
theorem dX5_readTell_226 : decode cX5_readTell 226 = .ok (.iconst 3, 1) := by decide +kernel
theorem dX5_readTell_227 : decode cX5_readTell 227 = .ok (.invokevirtual 74, 3) := by decide +kernel
theorem dX5_readTell_230 : decode cX5_readTell 230 = .ok (.ifCond .eq 31, 3) := by decide +kernel
theorem dX5_readTell_233 : decode cX5_readTell 233 = .ok (.aload_n 0, 1) := by decide +kernel
theorem dX5_readTell_234 : decode cX5_readTell 234 = .ok (.iconst 3, 1) := by decide +kernel
theorem dX5_readTell_235 : decode cX5_readTell 235 = .ok (.invokevirtual 74, 3) := by decide +kernel
theorem dX5_readTell_238 : decode cX5_readTell 238 = .ok (.ifCond .eq 23, 3) := by decide +kernel
theorem dX5_readTell_241 : decode cX5_readTell 241 = .ok (.aload_n 0, 1) := by decide +kernel
theorem dX5_readTell_242 : decode cX5_readTell 242 = .ok (.invokevirtual 98, 3) := by decide +kernel
theorem dX5_readTell_245 : decode cX5_readTell 245 = .ok (.ifCond .eq 16, 3) := by decide +kernel
theorem dX5_readTell_248 : decode cX5_readTell 248 = .ok (.aload_n 0, 1) := by decide +kernel
theorem dX5_readTell_249 : decode cX5_readTell 249 = .ok (.bipush 59, 2) := by decide +kernel
theorem dX5_readTell_251 : decode cX5_readTell 251 = .ok (.invokevirtual 74, 3) := by decide +kernel
theorem dX5_readTell_254 : decode cX5_readTell 254 = .ok (.ifCond .eq 7, 3) := by decide +kernel
theorem dX5_readTell_257 : decode cX5_readTell 257 = .ok (.iconst 1, 1) := by decide +kernel
theorem dX5_readTell_258 : decode cX5_readTell 258 = .ok (.goto 4, 3) := by decide +kernel
theorem dX5_readTell_261 : decode cX5_readTell 261 = .ok (.iconst 0, 1) := by decide +kernel
theorem dX5_readTell_262 : decode cX5_readTell 262 = .ok (.ireturn, 1) := by decide +kernel
theorem dX5_readTell_263 : decode cX5_readTell 263 = .ok (.aload_n 0, 1) := by decide +kernel
theorem dX5_readTell_264 : decode cX5_readTell 264 = .ok (.iconst 3, 1) := by decide +kernel
theorem dX5_readTell_265 : decode cX5_readTell 265 = .ok (.invokevirtual 74, 3) := by decide +kernel
theorem dX5_readTell_268 : decode cX5_readTell 268 = .ok (.ifCond .eq 24, 3) := by decide +kernel
theorem dX5_readTell_271 : decode cX5_readTell 271 = .ok (.aload_n 0, 1) := by decide +kernel
theorem dX5_readTell_272 : decode cX5_readTell 272 = .ok (.iload_n 1, 1) := by decide +kernel
theorem dX5_readTell_273 : decode cX5_readTell 273 = .ok (.invokevirtual 101, 3) := by decide +kernel
theorem dX5_readTell_276 : decode cX5_readTell 276 = .ok (.ifCond .eq 16, 3) := by decide +kernel
theorem dX5_readTell_279 : decode cX5_readTell 279 = .ok (.aload_n 0, 1) := by decide +kernel
theorem dX5_readTell_280 : decode cX5_readTell 280 = .ok (.bipush 59, 2) := by decide +kernel
theorem dX5_readTell_282 : decode cX5_readTell 282 = .ok (.invokevirtual 74, 3) := by decide +kernel
theorem dX5_readTell_285 : decode cX5_readTell 285 = .ok (.ifCond .eq 7, 3) := by decide +kernel
theorem dX5_readTell_288 : decode cX5_readTell 288 = .ok (.iconst 1, 1) := by decide +kernel
theorem dX5_readTell_289 : decode cX5_readTell 289 = .ok (.goto 4, 3) := by decide +kernel
theorem dX5_readTell_292 : decode cX5_readTell 292 = .ok (.iconst 0, 1) := by decide +kernel
theorem dX5_readTell_293 : decode cX5_readTell 293 = .ok (.ireturn, 1) := by decide +kernel
theorem dX5_stop_0 : decode cX5_stop 0 = .ok (.aload_n 0, 1) := by decide +kernel
theorem dX5_stop_1 : decode cX5_stop 1 = .ok (.iload_n 1, 1) := by decide +kernel
theorem dX5_stop_2 : decode cX5_stop 2 = .ok (.putfield 15, 3) := by decide +kernel
theorem dX5_stop_5 : decode cX5_stop 5 = .ok (.aload_n 0, 1) := by decide +kernel
theorem dX5_stop_6 : decode cX5_stop 6 = .ok (.aload_n 0, 1) := by decide +kernel
theorem dX5_stop_7 : decode cX5_stop 7 = .ok (.getfield 34, 3) := by decide +kernel
theorem dX5_stop_10 : decode cX5_stop 10 = .ok (.getfield 104, 3) := by decide +kernel
theorem dX5_stop_13 : decode cX5_stop 13 = .ok (.aload_n 0, 1) := by decide +kernel
theorem dX5_stop_14 : decode cX5_stop 14 = .ok (.getfield 18, 3) := by decide +kernel
theorem dX5_stop_17 : decode cX5_stop 17 = .ok (.iaload, 1) := by decide +kernel
theorem dX5_stop_18 : decode cX5_stop 18 = .ok (.putfield 9, 3) := by decide +kernel
theorem dX5_stop_21 : decode cX5_stop 21 = .ok (.iconst 0, 1) := by decide +kernel
theorem dX5_stop_22 : decode cX5_stop 22 = .ok (.ireturn, 1) := by decide +kernel
theorem dX5_note_0 : decode cX5_note 0 = .ok (.aload_n 0, 1) := by decide +kernel
theorem dX5_note_1 : decode cX5_note 1 = .ok (.getfield 15, 3) := by decide +kernel
theorem dX5_note_4 : decode cX5_note 4 = .ok (.ifCond .ne 34, 3) := by decide +kernel
theorem dX5_note_7 : decode cX5_note 7 = .ok (.aload_n 0, 1) := by decide +kernel
theorem dX5_note_8 : decode cX5_note 8 = .ok (.getfield 18, 3) := by decide +kernel
theorem dX5_note_11 : decode cX5_note 11 = .ok (.iload_n 2, 1) := by decide +kernel
theorem dX5_note_12 : decode cX5_note 12 = .ok (.if_icmp .lt 26, 3) := by decide +kernel
theorem dX5_note_15 : decode cX5_note 15 = .ok (.aload_n 0, 1) := by decide +kernel
theorem dX5_note_16 : decode cX5_note 16 = .ok (.iload_n 1, 1) := by decide +kernel
theorem dX5_note_17 : decode cX5_note 17 = .ok (.putfield 15, 3) := by decide +kernel
theorem dX5_note_20 : decode cX5_note 20 = .ok (.aload_n 0, 1) := by decide +kernel
theorem dX5_note_21 : decode cX5_note 21 = .ok (.aload_n 0, 1) := by decide +kernel
theorem dX5_note_22 : decode cX5_note 22 = .ok (.getfield 34, 3) := by decide +kernel
theorem dX5_note_25 : decode cX5_note 25 = .ok (.getfield 104, 3) := by decide +kernel
theorem dX5_note_28 : decode cX5_note 28 = .ok (.aload_n 0, 1) := by decide +kernel
theorem dX5_note_29 : decode cX5_note 29 = .ok (.getfield 18, 3) := by decide +kernel
theorem dX5_note_32 : decode cX5_note 32 = .ok (.iload_n 2, 1) := by decide +kernel
theorem dX5_note_33 : decode cX5_note 33 = .ok (.isub, 1) := by decide +kernel
theorem dX5_note_34 : decode cX5_note 34 = .ok (.iaload, 1) := by decide +kernel
theorem dX5_note_35 : decode cX5_note 35 = .ok (.putfield 9, 3) := by decide +kernel
theorem dX5_note_38 : decode cX5_note 38 = .ok (.return_, 1) := by decide +kernel
set_option maxRecDepth 20000 in
theorem ggX5_take_X5_kind : GoodIn wsX5_take wsX5_kind := goodIn_r _ [6, 1, 7, 8, 16, 17, 18, 19, 20, 21, 22, 23, 24, 25, 26, 27] (by decide +kernel) (by decide +kernel)
set_option maxRecDepth 20000 in
theorem gX5_take_X5_kind : GoodIn wsX5_take (wsV RX5 52 RX5 yX5_kind wsX5_kind) := goodIn_app (goodIn_of _ (by decide +kernel)) ggX5_take_X5_kind
set_option maxRecDepth 20000 in
theorem ggX5_take_X5_stop : GoodIn wsX5_take wsX5_stop := goodIn_r _ [12, 13, 7, 14, 1, 15, 16, 17, 18, 19, 20, 21, 22, 23, 24, 25, 26, 27] (by decide +kernel) (by decide +kernel)
set_option maxRecDepth 20000 in
theorem gX5_take_X5_stop : GoodIn wsX5_take (wsV RX5 67 RX5 yX5_stop wsX5_stop) := goodIn_app (goodIn_of _ (by decide +kernel)) ggX5_take_X5_stop
theorem dX5_take_0 : decode cX5_take 0 = .ok (.aload_n 0, 1) := by decide +kernel
theorem dX5_take_1 : decode cX5_take 1 = .ok (.invokevirtual 52, 3) := by decide +kernel
theorem dX5_take_4 : decode cX5_take 4 = .ok (.iload_n 1, 1) := by decide +kernel
theorem dX5_take_5 : decode cX5_take 5 = .ok (.if_icmp .eq 9, 3) := by decide +kernel
theorem dX5_take_8 : decode cX5_take 8 = .ok (.aload_n 0, 1) := by decide +kernel
theorem dX5_take_9 : decode cX5_take 9 = .ok (.iconst 1, 1) := by decide +kernel
theorem dX5_take_10 : decode cX5_take 10 = .ok (.invokevirtual 67, 3) := by decide +kernel
theorem dX5_take_13 : decode cX5_take 13 = .ok (.ireturn, 1) := by decide +kernel
theorem dX5_take_14 : decode cX5_take 14 = .ok (.aload_n 0, 1) := by decide +kernel
theorem dX5_take_15 : decode cX5_take 15 = .ok (.getfield 18, 3) := by decide +kernel
theorem dX5_take_18 : decode cX5_take 18 = .ok (.sipush 400, 3) := by decide +kernel
theorem dX5_take_21 : decode cX5_take 21 = .ok (.if_icmp .lt 9, 3) := by decide +kernel
theorem dX5_take_24 : decode cX5_take 24 = .ok (.aload_n 0, 1) := by decide +kernel
theorem dX5_take_25 : decode cX5_take 25 = .ok (.iconst 2, 1) := by decide +kernel
theorem dX5_take_26 : decode cX5_take 26 = .ok (.invokevirtual 67, 3) := by decide +kernel
theorem dX5_take_29 : decode cX5_take 29 = .ok (.ireturn, 1) := by decide +kernel
theorem dX5_take_30 : decode cX5_take 30 = .ok (.aload_n 0, 1) := by decide +kernel
theorem dX5_take_31 : decode cX5_take 31 = .ok (.dup, 1) := by decide +kernel
theorem dX5_take_32 : decode cX5_take 32 = .ok (.getfield 18, 3) := by decide +kernel
theorem dX5_take_35 : decode cX5_take 35 = .ok (.iconst 1, 1) := by decide +kernel
theorem dX5_take_36 : decode cX5_take 36 = .ok (.iadd, 1) := by decide +kernel
theorem dX5_take_37 : decode cX5_take 37 = .ok (.putfield 18, 3) := by decide +kernel
theorem dX5_take_40 : decode cX5_take 40 = .ok (.iconst 1, 1) := by decide +kernel
theorem dX5_take_41 : decode cX5_take 41 = .ok (.ireturn, 1) := by decide +kernel
theorem dX5_taken_0 : decode cX5_taken 0 = .ok (.aload_n 0, 1) := by decide +kernel
theorem dX5_taken_1 : decode cX5_taken 1 = .ok (.getfield 18, 3) := by decide +kernel
theorem dX5_taken_4 : decode cX5_taken 4 = .ok (.iload_n 1, 1) := by decide +kernel
theorem dX5_taken_5 : decode cX5_taken 5 = .ok (.if_icmp .lt 20, 3) := by decide +kernel
theorem dX5_taken_8 : decode cX5_taken 8 = .ok (.aload_n 0, 1) := by decide +kernel
theorem dX5_taken_9 : decode cX5_taken 9 = .ok (.getfield 34, 3) := by decide +kernel
theorem dX5_taken_12 : decode cX5_taken 12 = .ok (.getfield 107, 3) := by decide +kernel
theorem dX5_taken_15 : decode cX5_taken 15 = .ok (.aload_n 0, 1) := by decide +kernel
theorem dX5_taken_16 : decode cX5_taken 16 = .ok (.getfield 18, 3) := by decide +kernel
theorem dX5_taken_19 : decode cX5_taken 19 = .ok (.iload_n 1, 1) := by decide +kernel
theorem dX5_taken_20 : decode cX5_taken 20 = .ok (.isub, 1) := by decide +kernel
theorem dX5_taken_21 : decode cX5_taken 21 = .ok (.laload, 1) := by decide +kernel
theorem dX5_taken_22 : decode cX5_taken 22 = .ok (.goto 4, 3) := by decide +kernel
theorem dX5_taken_25 : decode cX5_taken 25 = .ok (.lconst 0, 1) := by decide +kernel
theorem dX5_taken_26 : decode cX5_taken 26 = .ok (.lreturn, 1) := by decide +kernel
set_option maxRecDepth 20000 in
theorem ggX5_takenWithin_X5_taken : GoodIn wsX5_takenWithin wsX5_taken := goodIn_r _ [5, 6, 7, 8, 19, 20, 21, 22, 23, 24, 25, 26, 27, 28, 29, 30] (by decide +kernel) (by decide +kernel)
set_option maxRecDepth 20000 in
theorem gX5_takenWithin_X5_taken : GoodIn wsX5_takenWithin (wsV RX5 111 RX5 yX5_taken wsX5_taken) := goodIn_app (goodIn_of _ (by decide +kernel)) ggX5_takenWithin_X5_taken
set_option maxRecDepth 20000 in
theorem ggX5_takenWithin_X11_within : GoodIn wsX5_takenWithin wsX11_within := goodIn_r _ [11] (by decide +kernel) (by decide +kernel)
set_option maxRecDepth 20000 in
theorem gX5_takenWithin_X11_within_n115 : GoodIn wsX5_takenWithin (wsX11_within) := ggX5_takenWithin_X11_within
set_option maxRecDepth 20000 in
theorem ggX5_takenWithin_X5_note : GoodIn wsX5_takenWithin wsX5_note := goodIn_r _ [15, 16, 6, 7, 17, 18, 19, 20, 21, 22, 23, 24, 25, 26, 27, 28, 29, 30] (by decide +kernel) (by decide +kernel)
set_option maxRecDepth 20000 in
theorem gX5_takenWithin_X5_note : GoodIn wsX5_takenWithin (wsV RX5 119 RX5 yX5_note wsX5_note) := goodIn_app (goodIn_of _ (by decide +kernel)) ggX5_takenWithin_X5_note
theorem dX5_takenWithin_0 : decode cX5_takenWithin 0 = .ok (.aload_n 0, 1) := by decide +kernel
theorem dX5_takenWithin_1 : decode cX5_takenWithin 1 = .ok (.iload_n 1, 1) := by decide +kernel
theorem dX5_takenWithin_2 : decode cX5_takenWithin 2 = .ok (.invokevirtual 111, 3) := by decide +kernel
theorem dX5_takenWithin_5 : decode cX5_takenWithin 5 = .ok (.iload_n 2, 1) := by decide +kernel
theorem dX5_takenWithin_6 : decode cX5_takenWithin 6 = .ok (.i2l, 1) := by decide +kernel
theorem dX5_takenWithin_7 : decode cX5_takenWithin 7 = .ok (.iload_n 3, 1) := by decide +kernel
theorem dX5_takenWithin_8 : decode cX5_takenWithin 8 = .ok (.i2l, 1) := by decide +kernel
theorem dX5_takenWithin_9 : decode cX5_takenWithin 9 = .ok (.invokestatic 115, 3) := by decide +kernel
theorem dX5_takenWithin_12 : decode cX5_takenWithin 12 = .ok (.istore 4, 2) := by decide +kernel
theorem dX5_takenWithin_14 : decode cX5_takenWithin 14 = .ok (.iload 4, 2) := by decide +kernel
theorem dX5_takenWithin_16 : decode cX5_takenWithin 16 = .ok (.ifCond .ne 9, 3) := by decide +kernel
theorem dX5_takenWithin_19 : decode cX5_takenWithin 19 = .ok (.aload_n 0, 1) := by decide +kernel
theorem dX5_takenWithin_20 : decode cX5_takenWithin 20 = .ok (.iconst 5, 1) := by decide +kernel
theorem dX5_takenWithin_21 : decode cX5_takenWithin 21 = .ok (.iload_n 1, 1) := by decide +kernel
theorem dX5_takenWithin_22 : decode cX5_takenWithin 22 = .ok (.invokevirtual 119, 3) := by decide +kernel
theorem dX5_takenWithin_25 : decode cX5_takenWithin 25 = .ok (.iload 4, 2) := by decide +kernel
theorem dX5_takenWithin_27 : decode cX5_takenWithin 27 = .ok (.ireturn, 1) := by decide +kernel
set_option maxRecDepth 20000 in
theorem ggX5_takeName_X5_take : GoodIn wsX5_takeName wsX5_take := goodIn_r _ [6, 7, 8, 9, 10, 5, 11, 12, 13, 14, 15, 16, 17, 18, 19, 20, 37, 38, 39, 40, 41, 42, 43, 44, 45, 46, 47, 48] (by decide +kernel) (by decide +kernel)
set_option maxRecDepth 20000 in
theorem gX5_takeName_X5_take : GoodIn wsX5_takeName (wsV RX5 74 RX5 yX5_take wsX5_take) := goodIn_app (goodIn_of _ (by decide +kernel)) ggX5_takeName_X5_take
set_option maxRecDepth 20000 in
theorem ggX5_takeName_X5_taken : GoodIn wsX5_takeName wsX5_taken := goodIn_r _ [24, 7, 12, 25, 37, 38, 39, 40, 41, 42, 43, 44, 45, 46, 47, 48] (by decide +kernel) (by decide +kernel)
set_option maxRecDepth 20000 in
theorem gX5_takeName_X5_taken : GoodIn wsX5_takeName (wsV RX5 111 RX5 yX5_taken wsX5_taken) := goodIn_app (goodIn_of _ (by decide +kernel)) ggX5_takeName_X5_taken
set_option maxRecDepth 20000 in
theorem ggX5_takeName_X7_tellName : GoodIn wsX5_takeName wsX7_tellName := goodIn_r _ [30, 31, 32, 49, 50, 51, 52, 53, 54, 55, 56, 57, 58] (by decide +kernel) (by decide +kernel)
set_option maxRecDepth 20000 in
theorem gX5_takeName_X7_tellName : GoodIn wsX5_takeName (wsV RX5 123 RX7 yX7_tellName wsX7_tellName) := goodIn_app (goodIn_of _ (by decide +kernel)) ggX5_takeName_X7_tellName
set_option maxRecDepth 20000 in
theorem ggX5_takeName_X5_note : GoodIn wsX5_takeName wsX5_note := goodIn_r _ [36, 18, 7, 12, 19, 20, 37, 38, 39, 40, 41, 42, 43, 44, 45, 46, 47, 48] (by decide +kernel) (by decide +kernel)
set_option maxRecDepth 20000 in
theorem gX5_takeName_X5_note : GoodIn wsX5_takeName (wsV RX5 119 RX5 yX5_note wsX5_note) := goodIn_app (goodIn_of _ (by decide +kernel)) ggX5_takeName_X5_note
theorem dX5_takeName_0 : decode cX5_takeName 0 = .ok (.aload_n 0, 1) := by decide +kernel
theorem dX5_takeName_1 : decode cX5_takeName 1 = .ok (.iconst 2, 1) := by decide +kernel
theorem dX5_takeName_2 : decode cX5_takeName 2 = .ok (.invokevirtual 74, 3) := by decide +kernel
theorem dX5_takeName_5 : decode cX5_takeName 5 = .ok (.ifCond .ne 5, 3) := by decide +kernel
theorem dX5_takeName_8 : decode cX5_takeName 8 = .ok (.iconst 0, 1) := by decide +kernel
theorem dX5_takeName_9 : decode cX5_takeName 9 = .ok (.ireturn, 1) := by decide +kernel
theorem dX5_takeName_10 : decode cX5_takeName 10 = .ok (.aload_n 0, 1) := by decide +kernel
theorem dX5_takeName_11 : decode cX5_takeName 11 = .ok (.getfield 27, 3) := by decide +kernel
theorem dX5_takeName_14 : decode cX5_takeName 14 = .ok (.aload_n 0, 1) := by decide +kernel
theorem dX5_takeName_15 : decode cX5_takeName 15 = .ok (.iconst 1, 1) := by decide +kernel
theorem dX5_takeName_16 : decode cX5_takeName 16 = .ok (.invokevirtual 111, 3) := by decide +kernel
theorem dX5_takeName_19 : decode cX5_takeName 19 = .ok (.invokevirtual 123, 3) := by decide +kernel
theorem dX5_takeName_22 : decode cX5_takeName 22 = .ok (.ifCond .ne 9, 3) := by decide +kernel
theorem dX5_takeName_25 : decode cX5_takeName 25 = .ok (.aload_n 0, 1) := by decide +kernel
theorem dX5_takeName_26 : decode cX5_takeName 26 = .ok (.iconst 3, 1) := by decide +kernel
theorem dX5_takeName_27 : decode cX5_takeName 27 = .ok (.iconst 1, 1) := by decide +kernel
theorem dX5_takeName_28 : decode cX5_takeName 28 = .ok (.invokevirtual 119, 3) := by decide +kernel
theorem dX5_takeName_31 : decode cX5_takeName 31 = .ok (.iconst 1, 1) := by decide +kernel
theorem dX5_takeName_32 : decode cX5_takeName 32 = .ok (.ireturn, 1) := by decide +kernel
set_option maxRecDepth 20000 in
theorem ggX5_noteSize_X5_takenWithin : GoodIn wsX5_noteSize wsX5_takenWithin := goodIn_r _ [6, 7, 8, 9, 5, 10, 11, 12, 13, 14, 15, 16, 17, 18, 19, 20, 21, 22, 23, 24, 25, 26, 27, 28, 29, 30, 31, 32, 33, 34, 35] (by decide +kernel) (by decide +kernel)
set_option maxRecDepth 20000 in
theorem gX5_noteSize_X5_takenWithin : GoodIn wsX5_noteSize (wsV RX5 127 RX5 yX5_takenWithin wsX5_takenWithin) := goodIn_app (goodIn_of _ (by decide +kernel)) ggX5_noteSize_X5_takenWithin
set_option maxRecDepth 20000 in
theorem ggX5_noteSize_X5_taken : GoodIn wsX5_noteSize wsX5_taken := goodIn_r _ [10, 11, 12, 13, 24, 25, 26, 27, 28, 29, 30, 31, 32, 33, 34, 35] (by decide +kernel) (by decide +kernel)
set_option maxRecDepth 20000 in
theorem gX5_noteSize_X5_taken : GoodIn wsX5_noteSize (wsV RX5 111 RX5 yX5_taken wsX5_taken) := goodIn_app (goodIn_of _ (by decide +kernel)) ggX5_noteSize_X5_taken
theorem dX5_noteSize_0 : decode cX5_noteSize 0 = .ok (.aload_n 0, 1) := by decide +kernel
theorem dX5_noteSize_1 : decode cX5_noteSize 1 = .ok (.aload_n 0, 1) := by decide +kernel
theorem dX5_noteSize_2 : decode cX5_noteSize 2 = .ok (.iconst 1, 1) := by decide +kernel
theorem dX5_noteSize_3 : decode cX5_noteSize 3 = .ok (.iconst 1, 1) := by decide +kernel
theorem dX5_noteSize_4 : decode cX5_noteSize 4 = .ok (.bipush 6, 2) := by decide +kernel
theorem dX5_noteSize_6 : decode cX5_noteSize 6 = .ok (.invokevirtual 127, 3) := by decide +kernel
theorem dX5_noteSize_9 : decode cX5_noteSize 9 = .ok (.ifCond .eq 12, 3) := by decide +kernel
theorem dX5_noteSize_12 : decode cX5_noteSize 12 = .ok (.aload_n 0, 1) := by decide +kernel
theorem dX5_noteSize_13 : decode cX5_noteSize 13 = .ok (.iconst 1, 1) := by decide +kernel
theorem dX5_noteSize_14 : decode cX5_noteSize 14 = .ok (.invokevirtual 111, 3) := by decide +kernel
theorem dX5_noteSize_17 : decode cX5_noteSize 17 = .ok (.l2i, 1) := by decide +kernel
theorem dX5_noteSize_18 : decode cX5_noteSize 18 = .ok (.goto 4, 3) := by decide +kernel
theorem dX5_noteSize_21 : decode cX5_noteSize 21 = .ok (.iconst 0, 1) := by decide +kernel
theorem dX5_noteSize_22 : decode cX5_noteSize 22 = .ok (.putfield 21, 3) := by decide +kernel
theorem dX5_noteSize_25 : decode cX5_noteSize 25 = .ok (.iconst 1, 1) := by decide +kernel
theorem dX5_noteSize_26 : decode cX5_noteSize 26 = .ok (.ireturn, 1) := by decide +kernel
set_option maxRecDepth 20000 in
theorem ggX5_tellRow_X2_numberAt : GoodIn wsX5_tellRow wsX2_numberAt := goodIn_r _ [9, 10, 11, 12, 13, 14, 15, 16, 17, 18, 19, 8, 20, 21, 22, 23, 24, 25, 26, 27, 28, 29, 30, 31, 32, 62, 63, 64, 65, 66] (by decide +kernel) (by decide +kernel)
set_option maxRecDepth 20000 in
theorem gX5_tellRow_X2_numberAt : GoodIn wsX5_tellRow (wsV RX5 135 RX2 yX2_numberAt wsX2_numberAt) := goodIn_app (goodIn_of _ (by decide +kernel)) ggX5_tellRow_X2_numberAt
set_option maxRecDepth 20000 in
theorem ggX5_tellRow_X7_tellNumber : GoodIn wsX5_tellRow wsX7_tellNumber := goodIn_r _ [37, 38, 39, 67, 68, 69, 70, 71, 72, 73, 74, 75, 76] (by decide +kernel) (by decide +kernel)
set_option maxRecDepth 20000 in
theorem gX5_tellRow_X7_tellNumber : GoodIn wsX5_tellRow (wsV RX5 141 RX7 yX7_tellNumber wsX7_tellNumber) := goodIn_app (goodIn_of _ (by decide +kernel)) ggX5_tellRow_X7_tellNumber
set_option maxRecDepth 20000 in
theorem ggX5_tellRow_X7_endRow : GoodIn wsX5_tellRow wsX7_endRow := goodIn_r _ [43, 38, 44, 67, 68, 69, 70, 71, 72, 73, 74, 75, 76] (by decide +kernel) (by decide +kernel)
set_option maxRecDepth 20000 in
theorem gX5_tellRow_X7_endRow : GoodIn wsX5_tellRow (wsV RX5 143 RX7 yX7_endRow wsX7_endRow) := goodIn_app (goodIn_of _ (by decide +kernel)) ggX5_tellRow_X7_endRow
theorem dX5_tellRow_0 : decode cX5_tellRow 0 = .ok (.iconst 0, 1) := by decide +kernel
theorem dX5_tellRow_1 : decode cX5_tellRow 1 = .ok (.istore_n 1, 1) := by decide +kernel
theorem dX5_tellRow_2 : decode cX5_tellRow 2 = .ok (.iconst 0, 1) := by decide +kernel
theorem dX5_tellRow_3 : decode cX5_tellRow 3 = .ok (.istore_n 2, 1) := by decide +kernel
theorem dX5_tellRow_4 : decode cX5_tellRow 4 = .ok (.iload_n 2, 1) := by decide +kernel
theorem dX5_tellRow_5 : decode cX5_tellRow 5 = .ok (.aload_n 0, 1) := by decide +kernel
theorem dX5_tellRow_6 : decode cX5_tellRow 6 = .ok (.getfield 21, 3) := by decide +kernel
theorem dX5_tellRow_9 : decode cX5_tellRow 9 = .ok (.if_icmp .ge 35, 3) := by decide +kernel
theorem dX5_tellRow_12 : decode cX5_tellRow 12 = .ok (.aload_n 0, 1) := by decide +kernel
theorem dX5_tellRow_13 : decode cX5_tellRow 13 = .ok (.getfield 41, 3) := by decide +kernel
theorem dX5_tellRow_16 : decode cX5_tellRow 16 = .ok (.getfield 131, 3) := by decide +kernel
theorem dX5_tellRow_19 : decode cX5_tellRow 19 = .ok (.iload_n 2, 1) := by decide +kernel
theorem dX5_tellRow_20 : decode cX5_tellRow 20 = .ok (.iload_n 1, 1) := by decide +kernel
theorem dX5_tellRow_21 : decode cX5_tellRow 21 = .ok (.aload_n 0, 1) := by decide +kernel
theorem dX5_tellRow_22 : decode cX5_tellRow 22 = .ok (.getfield 21, 3) := by decide +kernel
theorem dX5_tellRow_25 : decode cX5_tellRow 25 = .ok (.invokevirtual 135, 3) := by decide +kernel
theorem dX5_tellRow_28 : decode cX5_tellRow 28 = .ok (.istore_n 1, 1) := by decide +kernel
theorem dX5_tellRow_29 : decode cX5_tellRow 29 = .ok (.aload_n 0, 1) := by decide +kernel
theorem dX5_tellRow_30 : decode cX5_tellRow 30 = .ok (.getfield 27, 3) := by decide +kernel
theorem dX5_tellRow_33 : decode cX5_tellRow 33 = .ok (.iload_n 2, 1) := by decide +kernel
theorem dX5_tellRow_34 : decode cX5_tellRow 34 = .ok (.iload_n 1, 1) := by decide +kernel
theorem dX5_tellRow_35 : decode cX5_tellRow 35 = .ok (.invokevirtual 141, 3) := by decide +kernel
theorem dX5_tellRow_38 : decode cX5_tellRow 38 = .ok (.iinc 2 1, 3) := by decide +kernel
theorem dX5_tellRow_41 : decode cX5_tellRow 41 = .ok (.goto (-37), 3) := by decide +kernel
theorem dX5_tellRow_44 : decode cX5_tellRow 44 = .ok (.aload_n 0, 1) := by decide +kernel
theorem dX5_tellRow_45 : decode cX5_tellRow 45 = .ok (.getfield 27, 3) := by decide +kernel
theorem dX5_tellRow_48 : decode cX5_tellRow 48 = .ok (.aload_n 0, 1) := by decide +kernel
theorem dX5_tellRow_49 : decode cX5_tellRow 49 = .ok (.getfield 21, 3) := by decide +kernel
theorem dX5_tellRow_52 : decode cX5_tellRow 52 = .ok (.invokevirtual 143, 3) := by decide +kernel
theorem dX5_tellRow_55 : decode cX5_tellRow 55 = .ok (.iconst 1, 1) := by decide +kernel
theorem dX5_tellRow_56 : decode cX5_tellRow 56 = .ok (.ireturn, 1) := by decide +kernel
set_option maxRecDepth 20000 in
theorem ggX5_tellAsk_X2_copy : GoodIn wsX5_tellAsk wsX2_copy := goodIn_r _ [9, 10, 11, 12, 13, 14, 15, 16, 44, 45, 46, 47, 48] (by decide +kernel) (by decide +kernel)
set_option maxRecDepth 20000 in
theorem gX5_tellAsk_X2_copy : GoodIn wsX5_tellAsk (wsV RX5 150 RX2 yX2_copy wsX2_copy) := goodIn_app (goodIn_of _ (by decide +kernel)) ggX5_tellAsk_X2_copy
theorem dX5_tellAsk_0 : decode cX5_tellAsk 0 = .ok (.aload_n 0, 1) := by decide +kernel
theorem dX5_tellAsk_1 : decode cX5_tellAsk 1 = .ok (.getfield 27, 3) := by decide +kernel
theorem dX5_tellAsk_4 : decode cX5_tellAsk 4 = .ok (.getfield 147, 3) := by decide +kernel
theorem dX5_tellAsk_7 : decode cX5_tellAsk 7 = .ok (.aload_n 0, 1) := by decide +kernel
theorem dX5_tellAsk_8 : decode cX5_tellAsk 8 = .ok (.getfield 41, 3) := by decide +kernel
theorem dX5_tellAsk_11 : decode cX5_tellAsk 11 = .ok (.getfield 131, 3) := by decide +kernel
theorem dX5_tellAsk_14 : decode cX5_tellAsk 14 = .ok (.invokevirtual 150, 3) := by decide +kernel
theorem dX5_tellAsk_17 : decode cX5_tellAsk 17 = .ok (.iconst 1, 1) := by decide +kernel
theorem dX5_tellAsk_18 : decode cX5_tellAsk 18 = .ok (.ireturn, 1) := by decide +kernel
set_option maxRecDepth 20000 in
theorem ggX5_readList_X5_kind : GoodIn wsX5_readList wsX5_kind := goodIn_r _ [6, 7, 8, 9, 49, 50, 51, 52, 53, 54, 55, 56, 57, 58, 59, 60] (by decide +kernel) (by decide +kernel)
set_option maxRecDepth 20000 in
theorem gX5_readList_X5_kind : GoodIn wsX5_readList (wsV RX5 52 RX5 yX5_kind wsX5_kind) := goodIn_app (goodIn_of _ (by decide +kernel)) ggX5_readList_X5_kind
set_option maxRecDepth 20000 in
theorem ggX5_readList_X5_take : GoodIn wsX5_readList wsX5_take := goodIn_r _ [13, 7, 2, 3, 4, 5, 6, 8, 9, 14, 15, 16, 17, 18, 19, 20, 49, 50, 51, 52, 53, 54, 55, 56, 57, 58, 59, 60] (by decide +kernel) (by decide +kernel)
set_option maxRecDepth 20000 in
theorem gX5_readList_X5_take : GoodIn wsX5_readList (wsV RX5 74 RX5 yX5_take wsX5_take) := goodIn_app (goodIn_of _ (by decide +kernel)) ggX5_readList_X5_take
set_option maxRecDepth 20000 in
theorem ggX5_readList_X5_stop : GoodIn wsX5_readList wsX5_stop := goodIn_r _ [17, 18, 8, 19, 7, 20, 49, 50, 51, 52, 53, 54, 55, 56, 57, 58, 59, 60] (by decide +kernel) (by decide +kernel)
set_option maxRecDepth 20000 in
theorem gX5_readList_X5_stop : GoodIn wsX5_readList (wsV RX5 67 RX5 yX5_stop wsX5_stop) := goodIn_app (goodIn_of _ (by decide +kernel)) ggX5_readList_X5_stop
set_option maxRecDepth 20000 in
theorem ggX5_readList_X5_takenWithin : GoodIn wsX5_readList wsX5_takenWithin := goodIn_r _ [24, 25, 26, 27, 5, 28, 7, 8, 29, 30, 31, 32, 33, 34, 35, 36, 18, 19, 20, 49, 50, 51, 52, 53, 54, 55, 56, 57, 58, 59, 60] (by decide +kernel) (by decide +kernel)
set_option maxRecDepth 20000 in
theorem gX5_readList_X5_takenWithin : GoodIn wsX5_readList (wsV RX5 127 RX5 yX5_takenWithin wsX5_takenWithin) := goodIn_app (goodIn_of _ (by decide +kernel)) ggX5_readList_X5_takenWithin
set_option maxRecDepth 20000 in
theorem ggX5_readList_X5_taken : GoodIn wsX5_readList wsX5_taken := goodIn_r _ [28, 7, 8, 29, 49, 50, 51, 52, 53, 54, 55, 56, 57, 58, 59, 60] (by decide +kernel) (by decide +kernel)
set_option maxRecDepth 20000 in
theorem gX5_readList_X5_taken : GoodIn wsX5_readList (wsV RX5 111 RX5 yX5_taken wsX5_taken) := goodIn_app (goodIn_of _ (by decide +kernel)) ggX5_readList_X5_taken
set_option maxRecDepth 20000 in
theorem ggX5_readList_X7_tellNumber : GoodIn wsX5_readList wsX7_tellNumber := goodIn_r _ [41, 42, 43, 61, 62, 63, 64, 65, 66, 67, 68, 69, 70] (by decide +kernel) (by decide +kernel)
set_option maxRecDepth 20000 in
theorem gX5_readList_X7_tellNumber : GoodIn wsX5_readList (wsV RX5 141 RX7 yX7_tellNumber wsX7_tellNumber) := goodIn_app (goodIn_of _ (by decide +kernel)) ggX5_readList_X7_tellNumber
set_option maxRecDepth 20000 in
theorem ggX5_readList_X7_endRow : GoodIn wsX5_readList wsX7_endRow := goodIn_r _ [47, 42, 48, 61, 62, 63, 64, 65, 66, 67, 68, 69, 70] (by decide +kernel) (by decide +kernel)
set_option maxRecDepth 20000 in
theorem gX5_readList_X7_endRow : GoodIn wsX5_readList (wsV RX5 143 RX7 yX7_endRow wsX7_endRow) := goodIn_app (goodIn_of _ (by decide +kernel)) ggX5_readList_X7_endRow
theorem dX5_readList_0 : decode cX5_readList 0 = .ok (.iconst 0, 1) := by decide +kernel
theorem dX5_readList_1 : decode cX5_readList 1 = .ok (.istore_n 1, 1) := by decide +kernel
theorem dX5_readList_2 : decode cX5_readList 2 = .ok (.iconst 0, 1) := by decide +kernel
theorem dX5_readList_3 : decode cX5_readList 3 = .ok (.istore_n 2, 1) := by decide +kernel
theorem dX5_readList_4 : decode cX5_readList 4 = .ok (.iload_n 2, 1) := by decide +kernel
theorem dX5_readList_5 : decode cX5_readList 5 = .ok (.bipush 6, 2) := by decide +kernel
theorem dX5_readList_7 : decode cX5_readList 7 = .ok (.if_icmp .gt 118, 3) := by decide +kernel
theorem dX5_readList_10 : decode cX5_readList 10 = .ok (.aload_n 0, 1) := by decide +kernel
theorem dX5_readList_11 : decode cX5_readList 11 = .ok (.invokevirtual 52, 3) := by decide +kernel
theorem dX5_readList_14 : decode cX5_readList 14 = .ok (.bipush 59, 2) := by decide +kernel
theorem dX5_readList_16 : decode cX5_readList 16 = .ok (.if_icmp .eq 109, 3) := by decide +kernel
theorem dX5_readList_19 : decode cX5_readList 19 = .ok (.aload_n 0, 1) := by decide +kernel
theorem dX5_readList_20 : decode cX5_readList 20 = .ok (.invokevirtual 52, 3) := by decide +kernel
theorem dX5_readList_23 : decode cX5_readList 23 = .ok (.bipush 45, 2) := by decide +kernel
theorem dX5_readList_25 : decode cX5_readList 25 = .ok (.if_icmp .ne 7, 3) := by decide +kernel
theorem dX5_readList_28 : decode cX5_readList 28 = .ok (.iconst 1, 1) := by decide +kernel
theorem dX5_readList_29 : decode cX5_readList 29 = .ok (.goto 4, 3) := by decide +kernel
theorem dX5_readList_32 : decode cX5_readList 32 = .ok (.iconst 0, 1) := by decide +kernel
theorem dX5_readList_33 : decode cX5_readList 33 = .ok (.istore_n 3, 1) := by decide +kernel
theorem dX5_readList_34 : decode cX5_readList 34 = .ok (.iload_n 3, 1) := by decide +kernel
theorem dX5_readList_35 : decode cX5_readList 35 = .ok (.ifCond .eq 14, 3) := by decide +kernel
theorem dX5_readList_38 : decode cX5_readList 38 = .ok (.aload_n 0, 1) := by decide +kernel
theorem dX5_readList_39 : decode cX5_readList 39 = .ok (.bipush 45, 2) := by decide +kernel
theorem dX5_readList_41 : decode cX5_readList 41 = .ok (.invokevirtual 74, 3) := by decide +kernel
theorem dX5_readList_44 : decode cX5_readList 44 = .ok (.ifCond .ne 5, 3) := by decide +kernel
theorem dX5_readList_47 : decode cX5_readList 47 = .ok (.iconst 0, 1) := by decide +kernel
theorem dX5_readList_48 : decode cX5_readList 48 = .ok (.ireturn, 1) := by decide +kernel
theorem dX5_readList_49 : decode cX5_readList 49 = .ok (.iload_n 1, 1) := by decide +kernel
theorem dX5_readList_50 : decode cX5_readList 50 = .ok (.bipush 6, 2) := by decide +kernel
theorem dX5_readList_52 : decode cX5_readList 52 = .ok (.if_icmp .ne 17, 3) := by decide +kernel
theorem dX5_readList_55 : decode cX5_readList 55 = .ok (.aload_n 0, 1) := by decide +kernel
theorem dX5_readList_56 : decode cX5_readList 56 = .ok (.invokevirtual 52, 3) := by decide +kernel
theorem dX5_readList_59 : decode cX5_readList 59 = .ok (.iconst 3, 1) := by decide +kernel
theorem dX5_readList_60 : decode cX5_readList 60 = .ok (.if_icmp .ne 9, 3) := by decide +kernel
theorem dX5_readList_63 : decode cX5_readList 63 = .ok (.aload_n 0, 1) := by decide +kernel
theorem dX5_readList_64 : decode cX5_readList 64 = .ok (.iconst 2, 1) := by decide +kernel
theorem dX5_readList_65 : decode cX5_readList 65 = .ok (.invokevirtual 67, 3) := by decide +kernel
theorem dX5_readList_68 : decode cX5_readList 68 = .ok (.ireturn, 1) := by decide +kernel
theorem dX5_readList_69 : decode cX5_readList 69 = .ok (.aload_n 0, 1) := by decide +kernel
theorem dX5_readList_70 : decode cX5_readList 70 = .ok (.iconst 3, 1) := by decide +kernel
theorem dX5_readList_71 : decode cX5_readList 71 = .ok (.invokevirtual 74, 3) := by decide +kernel
theorem dX5_readList_74 : decode cX5_readList 74 = .ok (.ifCond .ne 5, 3) := by decide +kernel
theorem dX5_readList_77 : decode cX5_readList 77 = .ok (.iconst 0, 1) := by decide +kernel
theorem dX5_readList_78 : decode cX5_readList 78 = .ok (.ireturn, 1) := by decide +kernel
theorem dX5_readList_79 : decode cX5_readList 79 = .ok (.aload_n 0, 1) := by decide +kernel
theorem dX5_readList_80 : decode cX5_readList 80 = .ok (.iconst 1, 1) := by decide +kernel
theorem dX5_readList_81 : decode cX5_readList 81 = .ok (.iconst 0, 1) := by decide +kernel
theorem dX5_readList_82 : decode cX5_readList 82 = .ok (.bipush 99, 2) := by decide +kernel
theorem dX5_readList_84 : decode cX5_readList 84 = .ok (.invokevirtual 127, 3) := by decide +kernel
theorem dX5_readList_87 : decode cX5_readList 87 = .ok (.pop, 1) := by decide +kernel
theorem dX5_readList_88 : decode cX5_readList 88 = .ok (.aload_n 0, 1) := by decide +kernel
theorem dX5_readList_89 : decode cX5_readList 89 = .ok (.iconst 1, 1) := by decide +kernel
theorem dX5_readList_90 : decode cX5_readList 90 = .ok (.invokevirtual 111, 3) := by decide +kernel
theorem dX5_readList_93 : decode cX5_readList 93 = .ok (.l2i, 1) := by decide +kernel
theorem dX5_readList_94 : decode cX5_readList 94 = .ok (.istore 4, 2) := by decide +kernel
theorem dX5_readList_96 : decode cX5_readList 96 = .ok (.aload_n 0, 1) := by decide +kernel
theorem dX5_readList_97 : decode cX5_readList 97 = .ok (.getfield 27, 3) := by decide +kernel
theorem dX5_readList_100 : decode cX5_readList 100 = .ok (.iload_n 1, 1) := by decide +kernel
theorem dX5_readList_101 : decode cX5_readList 101 = .ok (.iload_n 3, 1) := by decide +kernel
theorem dX5_readList_102 : decode cX5_readList 102 = .ok (.ifCond .eq 9, 3) := by decide +kernel
theorem dX5_readList_105 : decode cX5_readList 105 = .ok (.iload 4, 2) := by decide +kernel
theorem dX5_readList_107 : decode cX5_readList 107 = .ok (.ineg, 1) := by decide +kernel
theorem dX5_readList_108 : decode cX5_readList 108 = .ok (.goto 5, 3) := by decide +kernel
theorem dX5_readList_111 : decode cX5_readList 111 = .ok (.iload 4, 2) := by decide +kernel
theorem dX5_readList_113 : decode cX5_readList 113 = .ok (.invokevirtual 141, 3) := by decide +kernel
theorem dX5_readList_116 : decode cX5_readList 116 = .ok (.iinc 1 1, 3) := by decide +kernel
theorem dX5_readList_119 : decode cX5_readList 119 = .ok (.iinc 2 1, 3) := by decide +kernel
theorem dX5_readList_122 : decode cX5_readList 122 = .ok (.goto (-118), 3) := by decide +kernel
theorem dX5_readList_125 : decode cX5_readList 125 = .ok (.aload_n 0, 1) := by decide +kernel
theorem dX5_readList_126 : decode cX5_readList 126 = .ok (.getfield 27, 3) := by decide +kernel
theorem dX5_readList_129 : decode cX5_readList 129 = .ok (.iload_n 1, 1) := by decide +kernel
theorem dX5_readList_130 : decode cX5_readList 130 = .ok (.invokevirtual 143, 3) := by decide +kernel
theorem dX5_readList_133 : decode cX5_readList 133 = .ok (.iconst 1, 1) := by decide +kernel
theorem dX5_readList_134 : decode cX5_readList 134 = .ok (.ireturn, 1) := by decide +kernel
set_option maxRecDepth 20000 in
theorem ggX5_tellShare_X5_taken : GoodIn wsX5_tellShare wsX5_taken := goodIn_r _ [10, 3, 4, 11, 38, 39, 40, 41, 42, 43, 44, 55, 56, 57, 58, 59] (by decide +kernel) (by decide +kernel)
set_option maxRecDepth 20000 in
theorem gX5_tellShare_X5_taken : GoodIn wsX5_tellShare (wsV RX5 111 RX5 yX5_taken wsX5_taken) := goodIn_app (goodIn_of _ (by decide +kernel)) ggX5_tellShare_X5_taken
set_option maxRecDepth 20000 in
theorem ggX5_tellShare_X5_takenWithin : GoodIn wsX5_tellShare wsX5_takenWithin := goodIn_r _ [15, 6, 7, 8, 9, 10, 3, 4, 11, 16, 17, 18, 19, 20, 21, 22, 23, 5, 24, 38, 39, 40, 41, 42, 43, 44, 55, 56, 57, 58, 59] (by decide +kernel) (by decide +kernel)
set_option maxRecDepth 20000 in
theorem gX5_tellShare_X5_takenWithin : GoodIn wsX5_tellShare (wsV RX5 127 RX5 yX5_takenWithin wsX5_takenWithin) := goodIn_app (goodIn_of _ (by decide +kernel)) ggX5_tellShare_X5_takenWithin
set_option maxRecDepth 20000 in
theorem ggX5_tellShare_X6_isAt : GoodIn wsX5_tellShare wsX6_isAt := goodIn_r _ [29, 30, 31, 60, 61, 62, 63, 64, 65, 66] (by decide +kernel) (by decide +kernel)
set_option maxRecDepth 20000 in
theorem gX5_tellShare_X6_isAt : GoodIn wsX5_tellShare (wsV RX5 158 RX6 yX6_isAt wsX6_isAt) := goodIn_app (goodIn_of _ (by decide +kernel)) ggX5_tellShare_X6_isAt
set_option maxRecDepth 20000 in
theorem ggX5_tellShare_X5_note : GoodIn wsX5_tellShare wsX5_note := goodIn_r _ [22, 23, 3, 4, 5, 24, 38, 39, 40, 41, 42, 43, 44, 55, 56, 57, 58, 59] (by decide +kernel) (by decide +kernel)
set_option maxRecDepth 20000 in
theorem gX5_tellShare_X5_note : GoodIn wsX5_tellShare (wsV RX5 119 RX5 yX5_note wsX5_note) := goodIn_app (goodIn_of _ (by decide +kernel)) ggX5_tellShare_X5_note
set_option maxRecDepth 20000 in
theorem ggX5_tellShare_X6_add : GoodIn wsX5_tellShare wsX6_add := goodIn_r _ [35, 30, 31, 36, 37, 60, 61, 62, 63, 64, 65, 66] (by decide +kernel) (by decide +kernel)
set_option maxRecDepth 20000 in
theorem gX5_tellShare_X6_add : GoodIn wsX5_tellShare (wsV RX5 163 RX6 yX6_add wsX6_add) := goodIn_app (goodIn_of _ (by decide +kernel)) ggX5_tellShare_X6_add
theorem dX5_tellShare_0 : decode cX5_tellShare 0 = .ok (.aload_n 0, 1) := by decide +kernel
theorem dX5_tellShare_1 : decode cX5_tellShare 1 = .ok (.iconst 2, 1) := by decide +kernel
theorem dX5_tellShare_2 : decode cX5_tellShare 2 = .ok (.invokevirtual 111, 3) := by decide +kernel
theorem dX5_tellShare_5 : decode cX5_tellShare 5 = .ok (.l2i, 1) := by decide +kernel
theorem dX5_tellShare_6 : decode cX5_tellShare 6 = .ok (.istore_n 1, 1) := by decide +kernel
theorem dX5_tellShare_7 : decode cX5_tellShare 7 = .ok (.aload_n 0, 1) := by decide +kernel
theorem dX5_tellShare_8 : decode cX5_tellShare 8 = .ok (.iconst 2, 1) := by decide +kernel
theorem dX5_tellShare_9 : decode cX5_tellShare 9 = .ok (.iconst 1, 1) := by decide +kernel
theorem dX5_tellShare_10 : decode cX5_tellShare 10 = .ok (.bipush 96, 2) := by decide +kernel
theorem dX5_tellShare_12 : decode cX5_tellShare 12 = .ok (.invokevirtual 127, 3) := by decide +kernel
theorem dX5_tellShare_15 : decode cX5_tellShare 15 = .ok (.ifCond .eq 23, 3) := by decide +kernel
theorem dX5_tellShare_18 : decode cX5_tellShare 18 = .ok (.aload_n 0, 1) := by decide +kernel
theorem dX5_tellShare_19 : decode cX5_tellShare 19 = .ok (.getfield 27, 3) := by decide +kernel
theorem dX5_tellShare_22 : decode cX5_tellShare 22 = .ok (.getfield 154, 3) := by decide +kernel
theorem dX5_tellShare_25 : decode cX5_tellShare 25 = .ok (.iload_n 1, 1) := by decide +kernel
theorem dX5_tellShare_26 : decode cX5_tellShare 26 = .ok (.invokevirtual 158, 3) := by decide +kernel
theorem dX5_tellShare_29 : decode cX5_tellShare 29 = .ok (.ifCond .eq 9, 3) := by decide +kernel
theorem dX5_tellShare_32 : decode cX5_tellShare 32 = .ok (.aload_n 0, 1) := by decide +kernel
theorem dX5_tellShare_33 : decode cX5_tellShare 33 = .ok (.iconst 5, 1) := by decide +kernel
theorem dX5_tellShare_34 : decode cX5_tellShare 34 = .ok (.iconst 2, 1) := by decide +kernel
theorem dX5_tellShare_35 : decode cX5_tellShare 35 = .ok (.invokevirtual 119, 3) := by decide +kernel
theorem dX5_tellShare_38 : decode cX5_tellShare 38 = .ok (.aload_n 0, 1) := by decide +kernel
theorem dX5_tellShare_39 : decode cX5_tellShare 39 = .ok (.iconst 1, 1) := by decide +kernel
theorem dX5_tellShare_40 : decode cX5_tellShare 40 = .ok (.iconst 0, 1) := by decide +kernel
theorem dX5_tellShare_41 : decode cX5_tellShare 41 = .ok (.bipush 96, 2) := by decide +kernel
theorem dX5_tellShare_43 : decode cX5_tellShare 43 = .ok (.invokevirtual 127, 3) := by decide +kernel
theorem dX5_tellShare_46 : decode cX5_tellShare 46 = .ok (.pop, 1) := by decide +kernel
theorem dX5_tellShare_47 : decode cX5_tellShare 47 = .ok (.aload_n 0, 1) := by decide +kernel
theorem dX5_tellShare_48 : decode cX5_tellShare 48 = .ok (.getfield 27, 3) := by decide +kernel
theorem dX5_tellShare_51 : decode cX5_tellShare 51 = .ok (.getfield 154, 3) := by decide +kernel
theorem dX5_tellShare_54 : decode cX5_tellShare 54 = .ok (.iload_n 1, 1) := by decide +kernel
theorem dX5_tellShare_55 : decode cX5_tellShare 55 = .ok (.aload_n 0, 1) := by decide +kernel
theorem dX5_tellShare_56 : decode cX5_tellShare 56 = .ok (.iconst 1, 1) := by decide +kernel
theorem dX5_tellShare_57 : decode cX5_tellShare 57 = .ok (.invokevirtual 111, 3) := by decide +kernel
theorem dX5_tellShare_60 : decode cX5_tellShare 60 = .ok (.l2i, 1) := by decide +kernel
theorem dX5_tellShare_61 : decode cX5_tellShare 61 = .ok (.aload_n 0, 1) := by decide +kernel
theorem dX5_tellShare_62 : decode cX5_tellShare 62 = .ok (.getfield 18, 3) := by decide +kernel
theorem dX5_tellShare_65 : decode cX5_tellShare 65 = .ok (.iconst 2, 1) := by decide +kernel
theorem dX5_tellShare_66 : decode cX5_tellShare 66 = .ok (.if_icmp .lt 20, 3) := by decide +kernel
theorem dX5_tellShare_69 : decode cX5_tellShare 69 = .ok (.aload_n 0, 1) := by decide +kernel
theorem dX5_tellShare_70 : decode cX5_tellShare 70 = .ok (.getfield 34, 3) := by decide +kernel
theorem dX5_tellShare_73 : decode cX5_tellShare 73 = .ok (.getfield 104, 3) := by decide +kernel
theorem dX5_tellShare_76 : decode cX5_tellShare 76 = .ok (.aload_n 0, 1) := by decide +kernel
theorem dX5_tellShare_77 : decode cX5_tellShare 77 = .ok (.getfield 18, 3) := by decide +kernel
theorem dX5_tellShare_80 : decode cX5_tellShare 80 = .ok (.iconst 2, 1) := by decide +kernel
theorem dX5_tellShare_81 : decode cX5_tellShare 81 = .ok (.isub, 1) := by decide +kernel
theorem dX5_tellShare_82 : decode cX5_tellShare 82 = .ok (.iaload, 1) := by decide +kernel
theorem dX5_tellShare_83 : decode cX5_tellShare 83 = .ok (.goto 4, 3) := by decide +kernel
theorem dX5_tellShare_86 : decode cX5_tellShare 86 = .ok (.iconst 0, 1) := by decide +kernel
theorem dX5_tellShare_87 : decode cX5_tellShare 87 = .ok (.invokevirtual 163, 3) := by decide +kernel
theorem dX5_tellShare_90 : decode cX5_tellShare 90 = .ok (.iconst 1, 1) := by decide +kernel
theorem dX5_tellShare_91 : decode cX5_tellShare 91 = .ok (.ireturn, 1) := by decide +kernel
set_option maxRecDepth 20000 in
theorem ggX5_tellBound_X5_takenWithin : GoodIn wsX5_tellBound wsX5_takenWithin := goodIn_r _ [8, 9, 10, 11, 7, 12, 13, 14, 15, 16, 17, 18, 19, 20, 21, 22, 23, 24, 25, 26, 27, 28, 29, 30, 31, 32, 43, 44, 45, 46, 47] (by decide +kernel) (by decide +kernel)
set_option maxRecDepth 20000 in
theorem gX5_tellBound_X5_takenWithin : GoodIn wsX5_tellBound (wsV RX5 127 RX5 yX5_takenWithin wsX5_takenWithin) := goodIn_app (goodIn_of _ (by decide +kernel)) ggX5_tellBound_X5_takenWithin
set_option maxRecDepth 20000 in
theorem ggX5_tellBound_X5_taken : GoodIn wsX5_tellBound wsX5_taken := goodIn_r _ [12, 13, 14, 15, 26, 27, 28, 29, 30, 31, 32, 43, 44, 45, 46, 47] (by decide +kernel) (by decide +kernel)
set_option maxRecDepth 20000 in
theorem gX5_tellBound_X5_taken : GoodIn wsX5_tellBound (wsV RX5 111 RX5 yX5_taken wsX5_taken) := goodIn_app (goodIn_of _ (by decide +kernel)) ggX5_tellBound_X5_taken
theorem dX5_tellBound_0 : decode cX5_tellBound 0 = .ok (.aload_n 0, 1) := by decide +kernel
theorem dX5_tellBound_1 : decode cX5_tellBound 1 = .ok (.iconst 2, 1) := by decide +kernel
theorem dX5_tellBound_2 : decode cX5_tellBound 2 = .ok (.iconst 1, 1) := by decide +kernel
theorem dX5_tellBound_3 : decode cX5_tellBound 3 = .ok (.iconst 4, 1) := by decide +kernel
theorem dX5_tellBound_4 : decode cX5_tellBound 4 = .ok (.invokevirtual 127, 3) := by decide +kernel
theorem dX5_tellBound_7 : decode cX5_tellBound 7 = .ok (.ifCond .eq 40, 3) := by decide +kernel
theorem dX5_tellBound_10 : decode cX5_tellBound 10 = .ok (.aload_n 0, 1) := by decide +kernel
theorem dX5_tellBound_11 : decode cX5_tellBound 11 = .ok (.iconst 1, 1) := by decide +kernel
theorem dX5_tellBound_12 : decode cX5_tellBound 12 = .ok (.iconst 1, 1) := by decide +kernel
theorem dX5_tellBound_13 : decode cX5_tellBound 13 = .ok (.bipush 9, 2) := by decide +kernel
theorem dX5_tellBound_15 : decode cX5_tellBound 15 = .ok (.invokevirtual 127, 3) := by decide +kernel
theorem dX5_tellBound_18 : decode cX5_tellBound 18 = .ok (.ifCond .eq 29, 3) := by decide +kernel
theorem dX5_tellBound_21 : decode cX5_tellBound 21 = .ok (.aload_n 0, 1) := by decide +kernel
theorem dX5_tellBound_22 : decode cX5_tellBound 22 = .ok (.getfield 27, 3) := by decide +kernel
theorem dX5_tellBound_25 : decode cX5_tellBound 25 = .ok (.aload_n 0, 1) := by decide +kernel
theorem dX5_tellBound_26 : decode cX5_tellBound 26 = .ok (.iconst 2, 1) := by decide +kernel
theorem dX5_tellBound_27 : decode cX5_tellBound 27 = .ok (.invokevirtual 111, 3) := by decide +kernel
theorem dX5_tellBound_30 : decode cX5_tellBound 30 = .ok (.l2i, 1) := by decide +kernel
theorem dX5_tellBound_31 : decode cX5_tellBound 31 = .ok (.putfield 169, 3) := by decide +kernel
theorem dX5_tellBound_34 : decode cX5_tellBound 34 = .ok (.aload_n 0, 1) := by decide +kernel
theorem dX5_tellBound_35 : decode cX5_tellBound 35 = .ok (.getfield 27, 3) := by decide +kernel
theorem dX5_tellBound_38 : decode cX5_tellBound 38 = .ok (.aload_n 0, 1) := by decide +kernel
theorem dX5_tellBound_39 : decode cX5_tellBound 39 = .ok (.iconst 1, 1) := by decide +kernel
theorem dX5_tellBound_40 : decode cX5_tellBound 40 = .ok (.invokevirtual 111, 3) := by decide +kernel
theorem dX5_tellBound_43 : decode cX5_tellBound 43 = .ok (.l2i, 1) := by decide +kernel
theorem dX5_tellBound_44 : decode cX5_tellBound 44 = .ok (.putfield 172, 3) := by decide +kernel
theorem dX5_tellBound_47 : decode cX5_tellBound 47 = .ok (.iconst 1, 1) := by decide +kernel
theorem dX5_tellBound_48 : decode cX5_tellBound 48 = .ok (.ireturn, 1) := by decide +kernel
set_option maxRecDepth 20000 in
theorem ggX5_tellNumber_X5_taken : GoodIn wsX5_tellNumber wsX5_taken := goodIn_r _ [10, 11, 12, 13, 44, 45, 46, 47, 48, 49, 50, 68, 69, 70, 71, 72] (by decide +kernel) (by decide +kernel)
set_option maxRecDepth 20000 in
theorem gX5_tellNumber_X5_taken : GoodIn wsX5_tellNumber (wsV RX5 111 RX5 yX5_taken wsX5_taken) := goodIn_app (goodIn_of _ (by decide +kernel)) ggX5_tellNumber_X5_taken
set_option maxRecDepth 20000 in
theorem ggX5_tellNumber_X5_takenWithin : GoodIn wsX5_tellNumber wsX5_takenWithin := goodIn_r _ [17, 6, 7, 8, 9, 10, 11, 12, 13, 18, 19, 20, 21, 22, 23, 24, 25, 26, 27, 44, 45, 46, 47, 48, 49, 50, 68, 69, 70, 71, 72] (by decide +kernel) (by decide +kernel)
set_option maxRecDepth 20000 in
theorem gX5_tellNumber_X5_takenWithin : GoodIn wsX5_tellNumber (wsV RX5 127 RX5 yX5_takenWithin wsX5_takenWithin) := goodIn_app (goodIn_of _ (by decide +kernel)) ggX5_tellNumber_X5_takenWithin
set_option maxRecDepth 20000 in
theorem ggX5_tellNumber_X0_add : GoodIn wsX5_tellNumber wsX0_add := goodIn_r _ [32, 33, 34, 35, 36, 37, 31, 38, 73, 74, 75] (by decide +kernel) (by decide +kernel)
set_option maxRecDepth 20000 in
theorem gX5_tellNumber_X0_add : GoodIn wsX5_tellNumber (wsV RX5 181 RX0 yX0_add wsX0_add) := goodIn_app (goodIn_of _ (by decide +kernel)) ggX5_tellNumber_X0_add
set_option maxRecDepth 20000 in
theorem ggX5_tellNumber_X5_isPrime : GoodIn wsX5_tellNumber wsX5_isPrime := goodIn_r _ [41, 42, 43, 18, 19, 20] (by decide +kernel) (by decide +kernel)
set_option maxRecDepth 20000 in
theorem gX5_tellNumber_X5_isPrime : GoodIn wsX5_tellNumber (va_wsS RX5 186 yX5_isPrime wsX5_isPrime) := goodIn_app (goodIn_of _ (by decide +kernel)) ggX5_tellNumber_X5_isPrime
set_option maxRecDepth 20000 in
theorem ggX5_tellNumber_X5_note : GoodIn wsX5_tellNumber wsX5_note := goodIn_r _ [24, 25, 11, 12, 26, 27, 44, 45, 46, 47, 48, 49, 50, 68, 69, 70, 71, 72] (by decide +kernel) (by decide +kernel)
set_option maxRecDepth 20000 in
theorem gX5_tellNumber_X5_note : GoodIn wsX5_tellNumber (wsV RX5 119 RX5 yX5_note wsX5_note) := goodIn_app (goodIn_of _ (by decide +kernel)) ggX5_tellNumber_X5_note
theorem dX5_tellNumber_0 : decode cX5_tellNumber 0 = .ok (.aload_n 0, 1) := by decide +kernel
theorem dX5_tellNumber_1 : decode cX5_tellNumber 1 = .ok (.iconst 1, 1) := by decide +kernel
theorem dX5_tellNumber_2 : decode cX5_tellNumber 2 = .ok (.invokevirtual 111, 3) := by decide +kernel
theorem dX5_tellNumber_5 : decode cX5_tellNumber 5 = .ok (.l2i, 1) := by decide +kernel
theorem dX5_tellNumber_6 : decode cX5_tellNumber 6 = .ok (.istore_n 2, 1) := by decide +kernel
theorem dX5_tellNumber_7 : decode cX5_tellNumber 7 = .ok (.iload_n 1, 1) := by decide +kernel
theorem dX5_tellNumber_8 : decode cX5_tellNumber 8 = .ok (.sipush 261, 3) := by decide +kernel
theorem dX5_tellNumber_11 : decode cX5_tellNumber 11 = .ok (.if_icmp .ne 27, 3) := by decide +kernel
theorem dX5_tellNumber_14 : decode cX5_tellNumber 14 = .ok (.aload_n 0, 1) := by decide +kernel
theorem dX5_tellNumber_15 : decode cX5_tellNumber 15 = .ok (.iconst 1, 1) := by decide +kernel
theorem dX5_tellNumber_16 : decode cX5_tellNumber 16 = .ok (.iconst 0, 1) := by decide +kernel
theorem dX5_tellNumber_17 : decode cX5_tellNumber 17 = .ok (.sipush 999, 3) := by decide +kernel
theorem dX5_tellNumber_20 : decode cX5_tellNumber 20 = .ok (.invokevirtual 127, 3) := by decide +kernel
theorem dX5_tellNumber_23 : decode cX5_tellNumber 23 = .ok (.pop, 1) := by decide +kernel
theorem dX5_tellNumber_24 : decode cX5_tellNumber 24 = .ok (.aload_n 0, 1) := by decide +kernel
theorem dX5_tellNumber_25 : decode cX5_tellNumber 25 = .ok (.getfield 27, 3) := by decide +kernel
theorem dX5_tellNumber_28 : decode cX5_tellNumber 28 = .ok (.getfield 177, 3) := by decide +kernel
theorem dX5_tellNumber_31 : decode cX5_tellNumber 31 = .ok (.iload_n 2, 1) := by decide +kernel
theorem dX5_tellNumber_32 : decode cX5_tellNumber 32 = .ok (.invokevirtual 181, 3) := by decide +kernel
theorem dX5_tellNumber_35 : decode cX5_tellNumber 35 = .ok (.goto 57, 3) := by decide +kernel
theorem dX5_tellNumber_38 : decode cX5_tellNumber 38 = .ok (.iload_n 1, 1) := by decide +kernel
theorem dX5_tellNumber_39 : decode cX5_tellNumber 39 = .ok (.sipush 263, 3) := by decide +kernel
theorem dX5_tellNumber_42 : decode cX5_tellNumber 42 = .ok (.if_icmp .ne 23, 3) := by decide +kernel
theorem dX5_tellNumber_45 : decode cX5_tellNumber 45 = .ok (.aload_n 0, 1) := by decide +kernel
theorem dX5_tellNumber_46 : decode cX5_tellNumber 46 = .ok (.iconst 1, 1) := by decide +kernel
theorem dX5_tellNumber_47 : decode cX5_tellNumber 47 = .ok (.iconst 0, 1) := by decide +kernel
theorem dX5_tellNumber_48 : decode cX5_tellNumber 48 = .ok (.bipush 9, 2) := by decide +kernel
theorem dX5_tellNumber_50 : decode cX5_tellNumber 50 = .ok (.invokevirtual 127, 3) := by decide +kernel
theorem dX5_tellNumber_53 : decode cX5_tellNumber 53 = .ok (.pop, 1) := by decide +kernel
theorem dX5_tellNumber_54 : decode cX5_tellNumber 54 = .ok (.aload_n 0, 1) := by decide +kernel
theorem dX5_tellNumber_55 : decode cX5_tellNumber 55 = .ok (.getfield 27, 3) := by decide +kernel
theorem dX5_tellNumber_58 : decode cX5_tellNumber 58 = .ok (.iload_n 2, 1) := by decide +kernel
theorem dX5_tellNumber_59 : decode cX5_tellNumber 59 = .ok (.putfield 183, 3) := by decide +kernel
theorem dX5_tellNumber_62 : decode cX5_tellNumber 62 = .ok (.goto 30, 3) := by decide +kernel
theorem dX5_tellNumber_65 : decode cX5_tellNumber 65 = .ok (.iload_n 2, 1) := by decide +kernel
theorem dX5_tellNumber_66 : decode cX5_tellNumber 66 = .ok (.invokestatic 186, 3) := by decide +kernel
theorem dX5_tellNumber_69 : decode cX5_tellNumber 69 = .ok (.ifCond .eq 17, 3) := by decide +kernel
theorem dX5_tellNumber_72 : decode cX5_tellNumber 72 = .ok (.aload_n 0, 1) := by decide +kernel
theorem dX5_tellNumber_73 : decode cX5_tellNumber 73 = .ok (.getfield 27, 3) := by decide +kernel
theorem dX5_tellNumber_76 : decode cX5_tellNumber 76 = .ok (.getfield 154, 3) := by decide +kernel
theorem dX5_tellNumber_79 : decode cX5_tellNumber 79 = .ok (.iload_n 2, 1) := by decide +kernel
theorem dX5_tellNumber_80 : decode cX5_tellNumber 80 = .ok (.putfield 189, 3) := by decide +kernel
theorem dX5_tellNumber_83 : decode cX5_tellNumber 83 = .ok (.goto 9, 3) := by decide +kernel
theorem dX5_tellNumber_86 : decode cX5_tellNumber 86 = .ok (.aload_n 0, 1) := by decide +kernel
theorem dX5_tellNumber_87 : decode cX5_tellNumber 87 = .ok (.iconst 5, 1) := by decide +kernel
theorem dX5_tellNumber_88 : decode cX5_tellNumber 88 = .ok (.iconst 1, 1) := by decide +kernel
theorem dX5_tellNumber_89 : decode cX5_tellNumber 89 = .ok (.invokevirtual 119, 3) := by decide +kernel
theorem dX5_tellNumber_92 : decode cX5_tellNumber 92 = .ok (.iconst 1, 1) := by decide +kernel
theorem dX5_tellNumber_93 : decode cX5_tellNumber 93 = .ok (.ireturn, 1) := by decide +kernel
set_option maxRecDepth 20000 in
theorem ggX5_isPrime_X11_within : GoodIn wsX5_isPrime wsX11_within := goodIn_r _ [5] (by decide +kernel) (by decide +kernel)
set_option maxRecDepth 20000 in
theorem gX5_isPrime_X11_within_n115 : GoodIn wsX5_isPrime (wsX11_within) := ggX5_isPrime_X11_within
theorem dX5_isPrime_0 : decode cX5_isPrime 0 = .ok (.iconst 2, 1) := by decide +kernel
theorem dX5_isPrime_1 : decode cX5_isPrime 1 = .ok (.istore_n 1, 1) := by decide +kernel
theorem dX5_isPrime_2 : decode cX5_isPrime 2 = .ok (.iload_n 1, 1) := by decide +kernel
theorem dX5_isPrime_3 : decode cX5_isPrime 3 = .ok (.iload_n 0, 1) := by decide +kernel
theorem dX5_isPrime_4 : decode cX5_isPrime 4 = .ok (.if_icmp .ge 17, 3) := by decide +kernel
theorem dX5_isPrime_7 : decode cX5_isPrime 7 = .ok (.iload_n 0, 1) := by decide +kernel
theorem dX5_isPrime_8 : decode cX5_isPrime 8 = .ok (.iload_n 1, 1) := by decide +kernel
theorem dX5_isPrime_9 : decode cX5_isPrime 9 = .ok (.irem, 1) := by decide +kernel
theorem dX5_isPrime_10 : decode cX5_isPrime 10 = .ok (.ifCond .ne 5, 3) := by decide +kernel
theorem dX5_isPrime_13 : decode cX5_isPrime 13 = .ok (.iconst 0, 1) := by decide +kernel
theorem dX5_isPrime_14 : decode cX5_isPrime 14 = .ok (.ireturn, 1) := by decide +kernel
theorem dX5_isPrime_15 : decode cX5_isPrime 15 = .ok (.iinc 1 1, 3) := by decide +kernel
theorem dX5_isPrime_18 : decode cX5_isPrime 18 = .ok (.goto (-16), 3) := by decide +kernel
theorem dX5_isPrime_21 : decode cX5_isPrime 21 = .ok (.iload_n 0, 1) := by decide +kernel
theorem dX5_isPrime_22 : decode cX5_isPrime 22 = .ok (.i2l, 1) := by decide +kernel
theorem dX5_isPrime_23 : decode cX5_isPrime 23 = .ok (.ldc2_w 192, 3) := by decide +kernel
theorem dX5_isPrime_26 : decode cX5_isPrime 26 = .ok (.ldc2_w 194, 3) := by decide +kernel
theorem dX5_isPrime_29 : decode cX5_isPrime 29 = .ok (.invokestatic 115, 3) := by decide +kernel
theorem dX5_isPrime_32 : decode cX5_isPrime 32 = .ok (.ireturn, 1) := by decide +kernel
set_option maxRecDepth 20000 in
theorem ggX5_readLaw_X5_take : GoodIn wsX5_readLaw wsX5_take := goodIn_r _ [8, 9, 10, 11, 12, 7, 13, 14, 15, 16, 17, 18, 19, 20, 21, 22, 94, 95, 96, 97, 98, 99, 100, 111, 112, 113, 114, 115] (by decide +kernel) (by decide +kernel)
set_option maxRecDepth 20000 in
theorem gX5_readLaw_X5_take : GoodIn wsX5_readLaw (wsV RX5 74 RX5 yX5_take wsX5_take) := goodIn_app (goodIn_of _ (by decide +kernel)) ggX5_readLaw_X5_take
set_option maxRecDepth 20000 in
theorem ggX5_readLaw_X3_begin : GoodIn wsX5_readLaw wsX3_begin := goodIn_r _ [27, 28, 29, 30, 31, 32, 33, 34, 35, 36, 37, 38, 39, 40, 41, 101, 102, 103, 104, 105, 106, 107, 108, 109, 110, 116, 117, 118, 119, 120] (by decide +kernel) (by decide +kernel)
set_option maxRecDepth 20000 in
theorem gX5_readLaw_X3_begin : GoodIn wsX5_readLaw (wsV RX5 196 RX3 yX3_begin wsX3_begin) := goodIn_app (goodIn_of _ (by decide +kernel)) ggX5_readLaw_X3_begin
set_option maxRecDepth 20000 in
theorem ggX5_readLaw_X5_kind : GoodIn wsX5_readLaw wsX5_kind := goodIn_r _ [13, 9, 14, 15, 94, 95, 96, 97, 98, 99, 100, 111, 112, 113, 114, 115] (by decide +kernel) (by decide +kernel)
set_option maxRecDepth 20000 in
theorem gX5_readLaw_X5_kind : GoodIn wsX5_readLaw (wsV RX5 52 RX5 yX5_kind wsX5_kind) := goodIn_app (goodIn_of _ (by decide +kernel)) ggX5_readLaw_X5_kind
set_option maxRecDepth 20000 in
theorem ggX5_readLaw_X5_taken : GoodIn wsX5_readLaw wsX5_taken := goodIn_r _ [45, 9, 14, 46, 94, 95, 96, 97, 98, 99, 100, 111, 112, 113, 114, 115] (by decide +kernel) (by decide +kernel)
set_option maxRecDepth 20000 in
theorem gX5_readLaw_X5_taken : GoodIn wsX5_readLaw (wsV RX5 111 RX5 yX5_taken wsX5_taken) := goodIn_app (goodIn_of _ (by decide +kernel)) ggX5_readLaw_X5_taken
set_option maxRecDepth 20000 in
theorem ggX5_readLaw_X3_unit : GoodIn wsX5_readLaw wsX3_unit := goodIn_r _ [50, 31, 30, 28, 51, 52, 53, 26, 54, 33, 32, 55, 56, 57, 58, 34, 59, 60, 61, 62, 35, 63, 64, 65, 66, 39, 67, 41, 68, 69, 101, 102, 103, 104, 105, 106, 107, 108, 109, 110, 116, 117, 118, 119, 120] (by decide +kernel) (by decide +kernel)
set_option maxRecDepth 20000 in
theorem gX5_readLaw_X3_unit : GoodIn wsX5_readLaw (wsV RX5 206 RX3 yX3_unit wsX3_unit) := goodIn_app (goodIn_of _ (by decide +kernel)) ggX5_readLaw_X3_unit
set_option maxRecDepth 20000 in
theorem ggX5_readLaw_X3_behindUnit : GoodIn wsX5_readLaw wsX3_behindUnit := goodIn_r _ [73, 30, 34, 32, 74, 75, 26, 76, 77, 78, 79, 80, 35, 63, 28, 64, 65, 66, 39, 67, 41, 68, 69, 59, 60, 61, 62, 81, 82, 83, 84, 85, 86, 87, 88, 89, 31, 29, 90, 91, 92, 93, 101, 102, 103, 104, 105, 106, 107, 108, 109, 110, 116, 117, 118, 119, 120] (by decide +kernel) (by decide +kernel)
set_option maxRecDepth 20000 in
theorem gX5_readLaw_X3_behindUnit : GoodIn wsX5_readLaw (wsV RX5 210 RX3 yX3_behindUnit wsX3_behindUnit) := goodIn_app (goodIn_of _ (by decide +kernel)) ggX5_readLaw_X3_behindUnit
set_option maxRecDepth 20000 in
theorem ggX5_readLaw_X5_stop : GoodIn wsX5_readLaw wsX5_stop := goodIn_r _ [19, 20, 14, 21, 9, 22, 94, 95, 96, 97, 98, 99, 100, 111, 112, 113, 114, 115] (by decide +kernel) (by decide +kernel)
set_option maxRecDepth 20000 in
theorem gX5_readLaw_X5_stop : GoodIn wsX5_readLaw (wsV RX5 67 RX5 yX5_stop wsX5_stop) := goodIn_app (goodIn_of _ (by decide +kernel)) ggX5_readLaw_X5_stop
theorem dX5_readLaw_0 : decode cX5_readLaw 0 = .ok (.aload_n 0, 1) := by decide +kernel
theorem dX5_readLaw_1 : decode cX5_readLaw 1 = .ok (.bipush 61, 2) := by decide +kernel
theorem dX5_readLaw_3 : decode cX5_readLaw 3 = .ok (.invokevirtual 74, 3) := by decide +kernel
theorem dX5_readLaw_6 : decode cX5_readLaw 6 = .ok (.ifCond .ne 5, 3) := by decide +kernel
theorem dX5_readLaw_9 : decode cX5_readLaw 9 = .ok (.iconst 0, 1) := by decide +kernel
theorem dX5_readLaw_10 : decode cX5_readLaw 10 = .ok (.ireturn, 1) := by decide +kernel
theorem dX5_readLaw_11 : decode cX5_readLaw 11 = .ok (.aload_n 0, 1) := by decide +kernel
theorem dX5_readLaw_12 : decode cX5_readLaw 12 = .ok (.getfield 41, 3) := by decide +kernel
theorem dX5_readLaw_15 : decode cX5_readLaw 15 = .ok (.invokevirtual 196, 3) := by decide +kernel
theorem dX5_readLaw_18 : decode cX5_readLaw 18 = .ok (.iconst 0, 1) := by decide +kernel
theorem dX5_readLaw_19 : decode cX5_readLaw 19 = .ok (.istore_n 1, 1) := by decide +kernel
theorem dX5_readLaw_20 : decode cX5_readLaw 20 = .ok (.iload_n 1, 1) := by decide +kernel
theorem dX5_readLaw_21 : decode cX5_readLaw 21 = .ok (.sipush 400, 3) := by decide +kernel
theorem dX5_readLaw_24 : decode cX5_readLaw 24 = .ok (.if_icmp .gt 84, 3) := by decide +kernel
theorem dX5_readLaw_27 : decode cX5_readLaw 27 = .ok (.aload_n 0, 1) := by decide +kernel
theorem dX5_readLaw_28 : decode cX5_readLaw 28 = .ok (.getfield 41, 3) := by decide +kernel
theorem dX5_readLaw_31 : decode cX5_readLaw 31 = .ok (.getfield 199, 3) := by decide +kernel
theorem dX5_readLaw_34 : decode cX5_readLaw 34 = .ok (.ifCond .ne 74, 3) := by decide +kernel
theorem dX5_readLaw_37 : decode cX5_readLaw 37 = .ok (.aload_n 0, 1) := by decide +kernel
theorem dX5_readLaw_38 : decode cX5_readLaw 38 = .ok (.getfield 41, 3) := by decide +kernel
theorem dX5_readLaw_41 : decode cX5_readLaw 41 = .ok (.getfield 203, 3) := by decide +kernel
theorem dX5_readLaw_44 : decode cX5_readLaw 44 = .ok (.ifCond .eq 23, 3) := by decide +kernel
theorem dX5_readLaw_47 : decode cX5_readLaw 47 = .ok (.aload_n 0, 1) := by decide +kernel
theorem dX5_readLaw_48 : decode cX5_readLaw 48 = .ok (.getfield 41, 3) := by decide +kernel
theorem dX5_readLaw_51 : decode cX5_readLaw 51 = .ok (.aload_n 0, 1) := by decide +kernel
theorem dX5_readLaw_52 : decode cX5_readLaw 52 = .ok (.invokevirtual 52, 3) := by decide +kernel
theorem dX5_readLaw_55 : decode cX5_readLaw 55 = .ok (.aload_n 0, 1) := by decide +kernel
theorem dX5_readLaw_56 : decode cX5_readLaw 56 = .ok (.iconst 0, 1) := by decide +kernel
theorem dX5_readLaw_57 : decode cX5_readLaw 57 = .ok (.invokevirtual 111, 3) := by decide +kernel
theorem dX5_readLaw_60 : decode cX5_readLaw 60 = .ok (.l2i, 1) := by decide +kernel
theorem dX5_readLaw_61 : decode cX5_readLaw 61 = .ok (.invokevirtual 206, 3) := by decide +kernel
theorem dX5_readLaw_64 : decode cX5_readLaw 64 = .ok (.goto 14, 3) := by decide +kernel
theorem dX5_readLaw_67 : decode cX5_readLaw 67 = .ok (.aload_n 0, 1) := by decide +kernel
theorem dX5_readLaw_68 : decode cX5_readLaw 68 = .ok (.getfield 41, 3) := by decide +kernel
theorem dX5_readLaw_71 : decode cX5_readLaw 71 = .ok (.aload_n 0, 1) := by decide +kernel
theorem dX5_readLaw_72 : decode cX5_readLaw 72 = .ok (.invokevirtual 52, 3) := by decide +kernel
theorem dX5_readLaw_75 : decode cX5_readLaw 75 = .ok (.invokevirtual 210, 3) := by decide +kernel
theorem dX5_readLaw_78 : decode cX5_readLaw 78 = .ok (.istore_n 2, 1) := by decide +kernel
theorem dX5_readLaw_79 : decode cX5_readLaw 79 = .ok (.iload_n 2, 1) := by decide +kernel
theorem dX5_readLaw_80 : decode cX5_readLaw 80 = .ok (.ifCond .eq 9, 3) := by decide +kernel
theorem dX5_readLaw_83 : decode cX5_readLaw 83 = .ok (.aload_n 0, 1) := by decide +kernel
theorem dX5_readLaw_84 : decode cX5_readLaw 84 = .ok (.iload_n 2, 1) := by decide +kernel
theorem dX5_readLaw_85 : decode cX5_readLaw 85 = .ok (.invokevirtual 67, 3) := by decide +kernel
theorem dX5_readLaw_88 : decode cX5_readLaw 88 = .ok (.ireturn, 1) := by decide +kernel
theorem dX5_readLaw_89 : decode cX5_readLaw 89 = .ok (.aload_n 0, 1) := by decide +kernel
theorem dX5_readLaw_90 : decode cX5_readLaw 90 = .ok (.aload_n 0, 1) := by decide +kernel
theorem dX5_readLaw_91 : decode cX5_readLaw 91 = .ok (.invokevirtual 52, 3) := by decide +kernel
theorem dX5_readLaw_94 : decode cX5_readLaw 94 = .ok (.invokevirtual 74, 3) := by decide +kernel
theorem dX5_readLaw_97 : decode cX5_readLaw 97 = .ok (.ifCond .ne 5, 3) := by decide +kernel
theorem dX5_readLaw_100 : decode cX5_readLaw 100 = .ok (.iconst 0, 1) := by decide +kernel
theorem dX5_readLaw_101 : decode cX5_readLaw 101 = .ok (.ireturn, 1) := by decide +kernel
theorem dX5_readLaw_102 : decode cX5_readLaw 102 = .ok (.iinc 1 1, 3) := by decide +kernel
theorem dX5_readLaw_105 : decode cX5_readLaw 105 = .ok (.goto (-85), 3) := by decide +kernel
theorem dX5_readLaw_108 : decode cX5_readLaw 108 = .ok (.iconst 1, 1) := by decide +kernel
theorem dX5_readLaw_109 : decode cX5_readLaw 109 = .ok (.ireturn, 1) := by decide +kernel
theorem dX5_findGreat_0 : decode cX5_findGreat 0 = .ok (.iconst 0, 1) := by decide +kernel
theorem dX5_findGreat_1 : decode cX5_findGreat 1 = .ok (.istore_n 1, 1) := by decide +kernel
theorem dX5_findGreat_2 : decode cX5_findGreat 2 = .ok (.iload_n 1, 1) := by decide +kernel
theorem dX5_findGreat_3 : decode cX5_findGreat 3 = .ok (.aload_n 0, 1) := by decide +kernel
theorem dX5_findGreat_4 : decode cX5_findGreat 4 = .ok (.getfield 27, 3) := by decide +kernel
theorem dX5_findGreat_7 : decode cX5_findGreat 7 = .ok (.getfield 154, 3) := by decide +kernel
theorem dX5_findGreat_10 : decode cX5_findGreat 10 = .ok (.getfield 214, 3) := by decide +kernel
theorem dX5_findGreat_13 : decode cX5_findGreat 13 = .ok (.if_icmp .ge 63, 3) := by decide +kernel
theorem dX5_findGreat_16 : decode cX5_findGreat 16 = .ok (.aload_n 0, 1) := by decide +kernel
theorem dX5_findGreat_17 : decode cX5_findGreat 17 = .ok (.getfield 15, 3) := by decide +kernel
theorem dX5_findGreat_20 : decode cX5_findGreat 20 = .ok (.ifCond .ne 56, 3) := by decide +kernel
theorem dX5_findGreat_23 : decode cX5_findGreat 23 = .ok (.aload_n 0, 1) := by decide +kernel
theorem dX5_findGreat_24 : decode cX5_findGreat 24 = .ok (.getfield 27, 3) := by decide +kernel
theorem dX5_findGreat_27 : decode cX5_findGreat 27 = .ok (.getfield 154, 3) := by decide +kernel
theorem dX5_findGreat_30 : decode cX5_findGreat 30 = .ok (.getfield 217, 3) := by decide +kernel
theorem dX5_findGreat_33 : decode cX5_findGreat 33 = .ok (.iload_n 1, 1) := by decide +kernel
theorem dX5_findGreat_34 : decode cX5_findGreat 34 = .ok (.iaload, 1) := by decide +kernel
theorem dX5_findGreat_35 : decode cX5_findGreat 35 = .ok (.aload_n 0, 1) := by decide +kernel
theorem dX5_findGreat_36 : decode cX5_findGreat 36 = .ok (.getfield 27, 3) := by decide +kernel
theorem dX5_findGreat_39 : decode cX5_findGreat 39 = .ok (.getfield 154, 3) := by decide +kernel
theorem dX5_findGreat_42 : decode cX5_findGreat 42 = .ok (.getfield 189, 3) := by decide +kernel
theorem dX5_findGreat_45 : decode cX5_findGreat 45 = .ok (.if_icmp .lt 25, 3) := by decide +kernel
theorem dX5_findGreat_48 : decode cX5_findGreat 48 = .ok (.aload_n 0, 1) := by decide +kernel
theorem dX5_findGreat_49 : decode cX5_findGreat 49 = .ok (.bipush 6, 2) := by decide +kernel
theorem dX5_findGreat_51 : decode cX5_findGreat 51 = .ok (.putfield 15, 3) := by decide +kernel
theorem dX5_findGreat_54 : decode cX5_findGreat 54 = .ok (.aload_n 0, 1) := by decide +kernel
theorem dX5_findGreat_55 : decode cX5_findGreat 55 = .ok (.aload_n 0, 1) := by decide +kernel
theorem dX5_findGreat_56 : decode cX5_findGreat 56 = .ok (.getfield 27, 3) := by decide +kernel
theorem dX5_findGreat_59 : decode cX5_findGreat 59 = .ok (.getfield 154, 3) := by decide +kernel
theorem dX5_findGreat_62 : decode cX5_findGreat 62 = .ok (.getfield 220, 3) := by decide +kernel
theorem dX5_findGreat_65 : decode cX5_findGreat 65 = .ok (.iload_n 1, 1) := by decide +kernel
theorem dX5_findGreat_66 : decode cX5_findGreat 66 = .ok (.iaload, 1) := by decide +kernel
theorem dX5_findGreat_67 : decode cX5_findGreat 67 = .ok (.putfield 9, 3) := by decide +kernel
theorem dX5_findGreat_70 : decode cX5_findGreat 70 = .ok (.iinc 1 1, 3) := by decide +kernel
theorem dX5_findGreat_73 : decode cX5_findGreat 73 = .ok (.goto (-71), 3) := by decide +kernel
theorem dX5_findGreat_76 : decode cX5_findGreat 76 = .ok (.return_, 1) := by decide +kernel
theorem dX6_init_0 : decode cX6_init 0 = .ok (.aload_n 0, 1) := by decide +kernel
theorem dX6_init_1 : decode cX6_init 1 = .ok (.invokespecial 1, 3) := by decide +kernel
theorem dX6_init_4 : decode cX6_init 4 = .ok (.aload_n 0, 1) := by decide +kernel
theorem dX6_init_5 : decode cX6_init 5 = .ok (.iconst 0, 1) := by decide +kernel
theorem dX6_init_6 : decode cX6_init 6 = .ok (.putfield 7, 3) := by decide +kernel
theorem dX6_init_9 : decode cX6_init 9 = .ok (.aload_n 0, 1) := by decide +kernel
theorem dX6_init_10 : decode cX6_init 10 = .ok (.bipush 97, 2) := by decide +kernel
theorem dX6_init_12 : decode cX6_init 12 = .ok (.putfield 13, 3) := by decide +kernel
theorem dX6_init_15 : decode cX6_init 15 = .ok (.aload_n 0, 1) := by decide +kernel
theorem dX6_init_16 : decode cX6_init 16 = .ok (.bipush 8, 2) := by decide +kernel
theorem dX6_init_18 : decode cX6_init 18 = .ok (.newarray .int, 2) := by decide +kernel
theorem dX6_init_20 : decode cX6_init 20 = .ok (.putfield 16, 3) := by decide +kernel
theorem dX6_init_23 : decode cX6_init 23 = .ok (.aload_n 0, 1) := by decide +kernel
theorem dX6_init_24 : decode cX6_init 24 = .ok (.bipush 8, 2) := by decide +kernel
theorem dX6_init_26 : decode cX6_init 26 = .ok (.newarray .int, 2) := by decide +kernel
theorem dX6_init_28 : decode cX6_init 28 = .ok (.putfield 20, 3) := by decide +kernel
theorem dX6_init_31 : decode cX6_init 31 = .ok (.aload_n 0, 1) := by decide +kernel
theorem dX6_init_32 : decode cX6_init 32 = .ok (.bipush 8, 2) := by decide +kernel
theorem dX6_init_34 : decode cX6_init 34 = .ok (.newarray .int, 2) := by decide +kernel
theorem dX6_init_36 : decode cX6_init 36 = .ok (.putfield 23, 3) := by decide +kernel
theorem dX6_init_39 : decode cX6_init 39 = .ok (.aload_n 0, 1) := by decide +kernel
theorem dX6_init_40 : decode cX6_init 40 = .ok (.bipush 6, 2) := by decide +kernel
theorem dX6_init_42 : decode cX6_init 42 = .ok (.newarray .int, 2) := by decide +kernel
theorem dX6_init_44 : decode cX6_init 44 = .ok (.putfield 28, 3) := by decide +kernel
theorem dX6_init_47 : decode cX6_init 47 = .ok (.aload_n 0, 1) := by decide +kernel
theorem dX6_init_48 : decode cX6_init 48 = .ok (.bipush 7, 2) := by decide +kernel
theorem dX6_init_50 : decode cX6_init 50 = .ok (.newarray .int, 2) := by decide +kernel
theorem dX6_init_52 : decode cX6_init 52 = .ok (.putfield 31, 3) := by decide +kernel
theorem dX6_init_55 : decode cX6_init 55 = .ok (.return_, 1) := by decide +kernel
theorem dX6_clear_0 : decode cX6_clear 0 = .ok (.aload_n 0, 1) := by decide +kernel
theorem dX6_clear_1 : decode cX6_clear 1 = .ok (.iconst 0, 1) := by decide +kernel
theorem dX6_clear_2 : decode cX6_clear 2 = .ok (.putfield 7, 3) := by decide +kernel
theorem dX6_clear_5 : decode cX6_clear 5 = .ok (.aload_n 0, 1) := by decide +kernel
theorem dX6_clear_6 : decode cX6_clear 6 = .ok (.bipush 97, 2) := by decide +kernel
theorem dX6_clear_8 : decode cX6_clear 8 = .ok (.putfield 13, 3) := by decide +kernel
theorem dX6_clear_11 : decode cX6_clear 11 = .ok (.return_, 1) := by decide +kernel
theorem dX6_add_0 : decode cX6_add 0 = .ok (.aload_n 0, 1) := by decide +kernel
theorem dX6_add_1 : decode cX6_add 1 = .ok (.getfield 7, 3) := by decide +kernel
theorem dX6_add_4 : decode cX6_add 4 = .ok (.bipush 8, 2) := by decide +kernel
theorem dX6_add_6 : decode cX6_add 6 = .ok (.if_icmp .ge 43, 3) := by decide +kernel
theorem dX6_add_9 : decode cX6_add 9 = .ok (.aload_n 0, 1) := by decide +kernel
theorem dX6_add_10 : decode cX6_add 10 = .ok (.getfield 16, 3) := by decide +kernel
theorem dX6_add_13 : decode cX6_add 13 = .ok (.aload_n 0, 1) := by decide +kernel
theorem dX6_add_14 : decode cX6_add 14 = .ok (.getfield 7, 3) := by decide +kernel
theorem dX6_add_17 : decode cX6_add 17 = .ok (.iload_n 1, 1) := by decide +kernel
theorem dX6_add_18 : decode cX6_add 18 = .ok (.iastore, 1) := by decide +kernel
theorem dX6_add_19 : decode cX6_add 19 = .ok (.aload_n 0, 1) := by decide +kernel
theorem dX6_add_20 : decode cX6_add 20 = .ok (.getfield 23, 3) := by decide +kernel
theorem dX6_add_23 : decode cX6_add 23 = .ok (.aload_n 0, 1) := by decide +kernel
theorem dX6_add_24 : decode cX6_add 24 = .ok (.getfield 7, 3) := by decide +kernel
theorem dX6_add_27 : decode cX6_add 27 = .ok (.iload_n 2, 1) := by decide +kernel
theorem dX6_add_28 : decode cX6_add 28 = .ok (.iastore, 1) := by decide +kernel
theorem dX6_add_29 : decode cX6_add 29 = .ok (.aload_n 0, 1) := by decide +kernel
theorem dX6_add_30 : decode cX6_add 30 = .ok (.getfield 20, 3) := by decide +kernel
theorem dX6_add_33 : decode cX6_add 33 = .ok (.aload_n 0, 1) := by decide +kernel
theorem dX6_add_34 : decode cX6_add 34 = .ok (.getfield 7, 3) := by decide +kernel
theorem dX6_add_37 : decode cX6_add 37 = .ok (.iload_n 3, 1) := by decide +kernel
theorem dX6_add_38 : decode cX6_add 38 = .ok (.iastore, 1) := by decide +kernel
theorem dX6_add_39 : decode cX6_add 39 = .ok (.aload_n 0, 1) := by decide +kernel
theorem dX6_add_40 : decode cX6_add 40 = .ok (.dup, 1) := by decide +kernel
theorem dX6_add_41 : decode cX6_add 41 = .ok (.getfield 7, 3) := by decide +kernel
theorem dX6_add_44 : decode cX6_add 44 = .ok (.iconst 1, 1) := by decide +kernel
theorem dX6_add_45 : decode cX6_add 45 = .ok (.iadd, 1) := by decide +kernel
theorem dX6_add_46 : decode cX6_add 46 = .ok (.putfield 7, 3) := by decide +kernel
theorem dX6_add_49 : decode cX6_add 49 = .ok (.return_, 1) := by decide +kernel
theorem dX6_isAt_0 : decode cX6_isAt 0 = .ok (.iconst 0, 1) := by decide +kernel
theorem dX6_isAt_1 : decode cX6_isAt 1 = .ok (.istore_n 2, 1) := by decide +kernel
theorem dX6_isAt_2 : decode cX6_isAt 2 = .ok (.iload_n 2, 1) := by decide +kernel
theorem dX6_isAt_3 : decode cX6_isAt 3 = .ok (.aload_n 0, 1) := by decide +kernel
theorem dX6_isAt_4 : decode cX6_isAt 4 = .ok (.getfield 7, 3) := by decide +kernel
theorem dX6_isAt_7 : decode cX6_isAt 7 = .ok (.if_icmp .ge 21, 3) := by decide +kernel
theorem dX6_isAt_10 : decode cX6_isAt 10 = .ok (.aload_n 0, 1) := by decide +kernel
theorem dX6_isAt_11 : decode cX6_isAt 11 = .ok (.getfield 16, 3) := by decide +kernel
theorem dX6_isAt_14 : decode cX6_isAt 14 = .ok (.iload_n 2, 1) := by decide +kernel
theorem dX6_isAt_15 : decode cX6_isAt 15 = .ok (.iaload, 1) := by decide +kernel
theorem dX6_isAt_16 : decode cX6_isAt 16 = .ok (.iload_n 1, 1) := by decide +kernel
theorem dX6_isAt_17 : decode cX6_isAt 17 = .ok (.if_icmp .ne 5, 3) := by decide +kernel
theorem dX6_isAt_20 : decode cX6_isAt 20 = .ok (.iconst 1, 1) := by decide +kernel
theorem dX6_isAt_21 : decode cX6_isAt 21 = .ok (.ireturn, 1) := by decide +kernel
theorem dX6_isAt_22 : decode cX6_isAt 22 = .ok (.iinc 2 1, 3) := by decide +kernel
theorem dX6_isAt_25 : decode cX6_isAt 25 = .ok (.goto (-23), 3) := by decide +kernel
theorem dX6_isAt_28 : decode cX6_isAt 28 = .ok (.iconst 0, 1) := by decide +kernel
theorem dX6_isAt_29 : decode cX6_isAt 29 = .ok (.ireturn, 1) := by decide +kernel
set_option maxRecDepth 20000 in
theorem ggX6_isSet_J6_bitCount_0f7a4 : GoodIn wsX6_isSet wsJ6_bitCount_0f7a4 := goodIn_r _ [5, 6, 7, 8] (by decide +kernel) (by decide +kernel)
set_option maxRecDepth 20000 in
theorem gX6_isSet_J6_bitCount_0f7a4 : GoodIn wsX6_isSet (va_wsS RX6 34 yJ6_bitCount_0f7a4 wsJ6_bitCount_0f7a4) := goodIn_app (goodIn_of _ (by decide +kernel)) ggX6_isSet_J6_bitCount_0f7a4
theorem dX6_isSet_0 : decode cX6_isSet 0 = .ok (.iload_n 1, 1) := by decide +kernel
theorem dX6_isSet_1 : decode cX6_isSet 1 = .ok (.ifCond .le 26, 3) := by decide +kernel
theorem dX6_isSet_4 : decode cX6_isSet 4 = .ok (.iload_n 1, 1) := by decide +kernel
theorem dX6_isSet_5 : decode cX6_isSet 5 = .ok (.iconst 1, 1) := by decide +kernel
theorem dX6_isSet_6 : decode cX6_isSet 6 = .ok (.aload_n 0, 1) := by decide +kernel
theorem dX6_isSet_7 : decode cX6_isSet 7 = .ok (.getfield 7, 3) := by decide +kernel
theorem dX6_isSet_10 : decode cX6_isSet 10 = .ok (.ishl, 1) := by decide +kernel
theorem dX6_isSet_11 : decode cX6_isSet 11 = .ok (.if_icmp .ge 16, 3) := by decide +kernel
theorem dX6_isSet_14 : decode cX6_isSet 14 = .ok (.iload_n 1, 1) := by decide +kernel
theorem dX6_isSet_15 : decode cX6_isSet 15 = .ok (.invokestatic 34, 3) := by decide +kernel
theorem dX6_isSet_18 : decode cX6_isSet 18 = .ok (.bipush 6, 2) := by decide +kernel
theorem dX6_isSet_20 : decode cX6_isSet 20 = .ok (.if_icmp .gt 7, 3) := by decide +kernel
theorem dX6_isSet_23 : decode cX6_isSet 23 = .ok (.iconst 1, 1) := by decide +kernel
theorem dX6_isSet_24 : decode cX6_isSet 24 = .ok (.goto 4, 3) := by decide +kernel
theorem dX6_isSet_27 : decode cX6_isSet 27 = .ok (.iconst 0, 1) := by decide +kernel
theorem dX6_isSet_28 : decode cX6_isSet 28 = .ok (.ireturn, 1) := by decide +kernel
theorem dX6_isIn_0 : decode cX6_isIn 0 = .ok (.iload_n 0, 1) := by decide +kernel
theorem dX6_isIn_1 : decode cX6_isIn 1 = .ok (.iload_n 1, 1) := by decide +kernel
theorem dX6_isIn_2 : decode cX6_isIn 2 = .ok (.ishr, 1) := by decide +kernel
theorem dX6_isIn_3 : decode cX6_isIn 3 = .ok (.iconst 1, 1) := by decide +kernel
theorem dX6_isIn_4 : decode cX6_isIn 4 = .ok (.iand, 1) := by decide +kernel
theorem dX6_isIn_5 : decode cX6_isIn 5 = .ok (.ifCond .eq 7, 3) := by decide +kernel
theorem dX6_isIn_8 : decode cX6_isIn 8 = .ok (.iconst 1, 1) := by decide +kernel
theorem dX6_isIn_9 : decode cX6_isIn 9 = .ok (.goto 4, 3) := by decide +kernel
theorem dX6_isIn_12 : decode cX6_isIn 12 = .ok (.iconst 0, 1) := by decide +kernel
theorem dX6_isIn_13 : decode cX6_isIn 13 = .ok (.ireturn, 1) := by decide +kernel
set_option maxRecDepth 20000 in
theorem ggX6_restOf_J9_floorMod_f86c9 : GoodIn wsX6_restOf wsJ9_floorMod_f86c9 := goodIn_r _ [5] (by decide +kernel) (by decide +kernel)
set_option maxRecDepth 20000 in
theorem gX6_restOf_J9_floorMod_f86c9 : GoodIn wsX6_restOf (va_wsS RX6 40 yJ9_floorMod_f86c9 wsJ9_floorMod_f86c9) := goodIn_app (goodIn_of _ (by decide +kernel)) ggX6_restOf_J9_floorMod_f86c9
theorem dX6_restOf_0 : decode cX6_restOf 0 = .ok (.aload_n 0, 1) := by decide +kernel
theorem dX6_restOf_1 : decode cX6_restOf 1 = .ok (.getfield 13, 3) := by decide +kernel
theorem dX6_restOf_4 : decode cX6_restOf 4 = .ok (.iconst 2, 1) := by decide +kernel
theorem dX6_restOf_5 : decode cX6_restOf 5 = .ok (.if_icmp .ge 7, 3) := by decide +kernel
theorem dX6_restOf_8 : decode cX6_restOf 8 = .ok (.iconst 0, 1) := by decide +kernel
theorem dX6_restOf_9 : decode cX6_restOf 9 = .ok (.goto 13, 3) := by decide +kernel
theorem dX6_restOf_12 : decode cX6_restOf 12 = .ok (.lload_n 1, 1) := by decide +kernel
theorem dX6_restOf_13 : decode cX6_restOf 13 = .ok (.aload_n 0, 1) := by decide +kernel
theorem dX6_restOf_14 : decode cX6_restOf 14 = .ok (.getfield 13, 3) := by decide +kernel
theorem dX6_restOf_17 : decode cX6_restOf 17 = .ok (.i2l, 1) := by decide +kernel
theorem dX6_restOf_18 : decode cX6_restOf 18 = .ok (.invokestatic 40, 3) := by decide +kernel
theorem dX6_restOf_21 : decode cX6_restOf 21 = .ok (.l2i, 1) := by decide +kernel
theorem dX6_restOf_22 : decode cX6_restOf 22 = .ok (.ireturn, 1) := by decide +kernel
set_option maxRecDepth 20000 in
theorem ggX6_findRow_J7_fill_53178 : GoodIn wsX6_findRow wsJ7_fill_53178 := goodIn_r _ [8] (by decide +kernel) (by decide +kernel)
set_option maxRecDepth 20000 in
theorem gX6_findRow_J7_fill_53178 : GoodIn wsX6_findRow (va_wsS RX6 46 yJ7_fill_53178 wsJ7_fill_53178) := goodIn_app (goodIn_of _ (by decide +kernel)) ggX6_findRow_J7_fill_53178
set_option maxRecDepth 20000 in
theorem ggX6_findRow_X6_isIn : GoodIn wsX6_findRow wsX6_isIn := goodIn_r _ [12] (by decide +kernel) (by decide +kernel)
set_option maxRecDepth 20000 in
theorem gX6_findRow_X6_isIn : GoodIn wsX6_findRow (va_wsS RX6 52 yX6_isIn wsX6_isIn) := goodIn_app (goodIn_of _ (by decide +kernel)) ggX6_findRow_X6_isIn
set_option maxRecDepth 20000 in
theorem ggX6_findRow_X6_othersProduct : GoodIn wsX6_findRow wsX6_othersProduct := goodIn_r _ [16, 4, 2, 17, 5, 6, 7, 8, 9, 10, 11, 12, 18, 19, 20, 21, 22, 23, 24, 25, 26, 31, 32, 33, 34, 35, 36, 37] (by decide +kernel) (by decide +kernel)
set_option maxRecDepth 20000 in
theorem gX6_findRow_X6_othersProduct : GoodIn wsX6_findRow (wsV RX6 56 RX6 yX6_othersProduct wsX6_othersProduct) := goodIn_app (goodIn_of _ (by decide +kernel)) ggX6_findRow_X6_othersProduct
set_option maxRecDepth 20000 in
theorem ggX6_findRow_X6_turnedOver : GoodIn wsX6_findRow wsX6_turnedOver := goodIn_r _ [30, 22, 18, 19, 20, 11, 21, 23, 24, 25, 26, 31, 32, 33, 34, 35, 36, 37] (by decide +kernel) (by decide +kernel)
set_option maxRecDepth 20000 in
theorem gX6_findRow_X6_turnedOver : GoodIn wsX6_findRow (wsV RX6 60 RX6 yX6_turnedOver wsX6_turnedOver) := goodIn_app (goodIn_of _ (by decide +kernel)) ggX6_findRow_X6_turnedOver
set_option maxRecDepth 20000 in
theorem ggX6_findRow_X6_restOf : GoodIn wsX6_findRow wsX6_restOf := goodIn_r _ [21, 22, 23, 24, 25, 26, 31, 32, 33, 34, 35, 36, 37] (by decide +kernel) (by decide +kernel)
set_option maxRecDepth 20000 in
theorem gX6_findRow_X6_restOf : GoodIn wsX6_findRow (wsV RX6 63 RX6 yX6_restOf wsX6_restOf) := goodIn_app (goodIn_of _ (by decide +kernel)) ggX6_findRow_X6_restOf
theorem dX6_findRow_0 : decode cX6_findRow 0 = .ok (.aload_n 0, 1) := by decide +kernel
theorem dX6_findRow_1 : decode cX6_findRow 1 = .ok (.getfield 28, 3) := by decide +kernel
theorem dX6_findRow_4 : decode cX6_findRow 4 = .ok (.iconst 0, 1) := by decide +kernel
theorem dX6_findRow_5 : decode cX6_findRow 5 = .ok (.invokestatic 46, 3) := by decide +kernel
theorem dX6_findRow_8 : decode cX6_findRow 8 = .ok (.iconst 0, 1) := by decide +kernel
theorem dX6_findRow_9 : decode cX6_findRow 9 = .ok (.istore_n 2, 1) := by decide +kernel
theorem dX6_findRow_10 : decode cX6_findRow 10 = .ok (.iload_n 2, 1) := by decide +kernel
theorem dX6_findRow_11 : decode cX6_findRow 11 = .ok (.aload_n 0, 1) := by decide +kernel
theorem dX6_findRow_12 : decode cX6_findRow 12 = .ok (.getfield 7, 3) := by decide +kernel
theorem dX6_findRow_15 : decode cX6_findRow 15 = .ok (.if_icmp .ge 88, 3) := by decide +kernel
theorem dX6_findRow_18 : decode cX6_findRow 18 = .ok (.iload_n 1, 1) := by decide +kernel
theorem dX6_findRow_19 : decode cX6_findRow 19 = .ok (.iload_n 2, 1) := by decide +kernel
theorem dX6_findRow_20 : decode cX6_findRow 20 = .ok (.invokestatic 52, 3) := by decide +kernel
theorem dX6_findRow_23 : decode cX6_findRow 23 = .ok (.ifCond .eq 74, 3) := by decide +kernel
theorem dX6_findRow_26 : decode cX6_findRow 26 = .ok (.aload_n 0, 1) := by decide +kernel
theorem dX6_findRow_27 : decode cX6_findRow 27 = .ok (.aload_n 0, 1) := by decide +kernel
theorem dX6_findRow_28 : decode cX6_findRow 28 = .ok (.getfield 23, 3) := by decide +kernel
theorem dX6_findRow_31 : decode cX6_findRow 31 = .ok (.iload_n 2, 1) := by decide +kernel
theorem dX6_findRow_32 : decode cX6_findRow 32 = .ok (.iaload, 1) := by decide +kernel
theorem dX6_findRow_33 : decode cX6_findRow 33 = .ok (.aload_n 0, 1) := by decide +kernel
theorem dX6_findRow_34 : decode cX6_findRow 34 = .ok (.aload_n 0, 1) := by decide +kernel
theorem dX6_findRow_35 : decode cX6_findRow 35 = .ok (.iload_n 1, 1) := by decide +kernel
theorem dX6_findRow_36 : decode cX6_findRow 36 = .ok (.iload_n 2, 1) := by decide +kernel
theorem dX6_findRow_37 : decode cX6_findRow 37 = .ok (.invokevirtual 56, 3) := by decide +kernel
theorem dX6_findRow_40 : decode cX6_findRow 40 = .ok (.invokevirtual 60, 3) := by decide +kernel
theorem dX6_findRow_43 : decode cX6_findRow 43 = .ok (.imul, 1) := by decide +kernel
theorem dX6_findRow_44 : decode cX6_findRow 44 = .ok (.i2l, 1) := by decide +kernel
theorem dX6_findRow_45 : decode cX6_findRow 45 = .ok (.invokevirtual 63, 3) := by decide +kernel
theorem dX6_findRow_48 : decode cX6_findRow 48 = .ok (.istore_n 3, 1) := by decide +kernel
theorem dX6_findRow_49 : decode cX6_findRow 49 = .ok (.iconst 0, 1) := by decide +kernel
theorem dX6_findRow_50 : decode cX6_findRow 50 = .ok (.istore 4, 2) := by decide +kernel
theorem dX6_findRow_52 : decode cX6_findRow 52 = .ok (.iload 4, 2) := by decide +kernel
theorem dX6_findRow_54 : decode cX6_findRow 54 = .ok (.aload_n 0, 1) := by decide +kernel
theorem dX6_findRow_55 : decode cX6_findRow 55 = .ok (.getfield 28, 3) := by decide +kernel
theorem dX6_findRow_58 : decode cX6_findRow 58 = .ok (.arraylength, 1) := by decide +kernel
theorem dX6_findRow_59 : decode cX6_findRow 59 = .ok (.if_icmp .ge 38, 3) := by decide +kernel
theorem dX6_findRow_62 : decode cX6_findRow 62 = .ok (.aload_n 0, 1) := by decide +kernel
theorem dX6_findRow_63 : decode cX6_findRow 63 = .ok (.getfield 28, 3) := by decide +kernel
theorem dX6_findRow_66 : decode cX6_findRow 66 = .ok (.iload 4, 2) := by decide +kernel
theorem dX6_findRow_68 : decode cX6_findRow 68 = .ok (.aload_n 0, 1) := by decide +kernel
theorem dX6_findRow_69 : decode cX6_findRow 69 = .ok (.aload_n 0, 1) := by decide +kernel
theorem dX6_findRow_70 : decode cX6_findRow 70 = .ok (.getfield 28, 3) := by decide +kernel
theorem dX6_findRow_73 : decode cX6_findRow 73 = .ok (.iload 4, 2) := by decide +kernel
theorem dX6_findRow_75 : decode cX6_findRow 75 = .ok (.iaload, 1) := by decide +kernel
theorem dX6_findRow_76 : decode cX6_findRow 76 = .ok (.iload_n 3, 1) := by decide +kernel
theorem dX6_findRow_77 : decode cX6_findRow 77 = .ok (.aload_n 0, 1) := by decide +kernel
theorem dX6_findRow_78 : decode cX6_findRow 78 = .ok (.getfield 31, 3) := by decide +kernel
theorem dX6_findRow_81 : decode cX6_findRow 81 = .ok (.iload 4, 2) := by decide +kernel
theorem dX6_findRow_83 : decode cX6_findRow 83 = .ok (.iaload, 1) := by decide +kernel
theorem dX6_findRow_84 : decode cX6_findRow 84 = .ok (.imul, 1) := by decide +kernel
theorem dX6_findRow_85 : decode cX6_findRow 85 = .ok (.iadd, 1) := by decide +kernel
theorem dX6_findRow_86 : decode cX6_findRow 86 = .ok (.i2l, 1) := by decide +kernel
theorem dX6_findRow_87 : decode cX6_findRow 87 = .ok (.invokevirtual 63, 3) := by decide +kernel
theorem dX6_findRow_90 : decode cX6_findRow 90 = .ok (.iastore, 1) := by decide +kernel
theorem dX6_findRow_91 : decode cX6_findRow 91 = .ok (.iinc 4 1, 3) := by decide +kernel
theorem dX6_findRow_94 : decode cX6_findRow 94 = .ok (.goto (-42), 3) := by decide +kernel
theorem dX6_findRow_97 : decode cX6_findRow 97 = .ok (.iinc 2 1, 3) := by decide +kernel
theorem dX6_findRow_100 : decode cX6_findRow 100 = .ok (.goto (-90), 3) := by decide +kernel
theorem dX6_findRow_103 : decode cX6_findRow 103 = .ok (.return_, 1) := by decide +kernel
set_option maxRecDepth 20000 in
theorem ggX6_othersProduct_J7_fill_53178 : GoodIn wsX6_othersProduct wsJ7_fill_53178 := goodIn_r _ [7] (by decide +kernel) (by decide +kernel)
set_option maxRecDepth 20000 in
theorem gX6_othersProduct_J7_fill_53178 : GoodIn wsX6_othersProduct (va_wsS RX6 46 yJ7_fill_53178 wsJ7_fill_53178) := goodIn_app (goodIn_of _ (by decide +kernel)) ggX6_othersProduct_J7_fill_53178
set_option maxRecDepth 20000 in
theorem ggX6_othersProduct_X6_isIn : GoodIn wsX6_othersProduct wsX6_isIn := goodIn_r _ [11] (by decide +kernel) (by decide +kernel)
set_option maxRecDepth 20000 in
theorem gX6_othersProduct_X6_isIn : GoodIn wsX6_othersProduct (va_wsS RX6 52 yX6_isIn wsX6_isIn) := goodIn_app (goodIn_of _ (by decide +kernel)) ggX6_othersProduct_X6_isIn
set_option maxRecDepth 20000 in
theorem ggX6_othersProduct_X6_restOf : GoodIn wsX6_othersProduct wsX6_restOf := goodIn_r _ [15, 16, 17, 18, 19, 20, 21, 22, 23, 24, 25, 26, 27] (by decide +kernel) (by decide +kernel)
set_option maxRecDepth 20000 in
theorem gX6_othersProduct_X6_restOf : GoodIn wsX6_othersProduct (wsV RX6 63 RX6 yX6_restOf wsX6_restOf) := goodIn_app (goodIn_of _ (by decide +kernel)) ggX6_othersProduct_X6_restOf
theorem dX6_othersProduct_0 : decode cX6_othersProduct 0 = .ok (.aload_n 0, 1) := by decide +kernel
theorem dX6_othersProduct_1 : decode cX6_othersProduct 1 = .ok (.getfield 31, 3) := by decide +kernel
theorem dX6_othersProduct_4 : decode cX6_othersProduct 4 = .ok (.iconst 0, 1) := by decide +kernel
theorem dX6_othersProduct_5 : decode cX6_othersProduct 5 = .ok (.invokestatic 46, 3) := by decide +kernel
theorem dX6_othersProduct_8 : decode cX6_othersProduct 8 = .ok (.aload_n 0, 1) := by decide +kernel
theorem dX6_othersProduct_9 : decode cX6_othersProduct 9 = .ok (.getfield 31, 3) := by decide +kernel
theorem dX6_othersProduct_12 : decode cX6_othersProduct 12 = .ok (.iconst 0, 1) := by decide +kernel
theorem dX6_othersProduct_13 : decode cX6_othersProduct 13 = .ok (.iconst 1, 1) := by decide +kernel
theorem dX6_othersProduct_14 : decode cX6_othersProduct 14 = .ok (.iastore, 1) := by decide +kernel
theorem dX6_othersProduct_15 : decode cX6_othersProduct 15 = .ok (.iconst 1, 1) := by decide +kernel
theorem dX6_othersProduct_16 : decode cX6_othersProduct 16 = .ok (.istore_n 3, 1) := by decide +kernel
theorem dX6_othersProduct_17 : decode cX6_othersProduct 17 = .ok (.iconst 0, 1) := by decide +kernel
theorem dX6_othersProduct_18 : decode cX6_othersProduct 18 = .ok (.istore 4, 2) := by decide +kernel
theorem dX6_othersProduct_20 : decode cX6_othersProduct 20 = .ok (.iload 4, 2) := by decide +kernel
theorem dX6_othersProduct_22 : decode cX6_othersProduct 22 = .ok (.aload_n 0, 1) := by decide +kernel
theorem dX6_othersProduct_23 : decode cX6_othersProduct 23 = .ok (.getfield 7, 3) := by decide +kernel
theorem dX6_othersProduct_26 : decode cX6_othersProduct 26 = .ok (.if_icmp .ge 129, 3) := by decide +kernel
theorem dX6_othersProduct_29 : decode cX6_othersProduct 29 = .ok (.iload 4, 2) := by decide +kernel
theorem dX6_othersProduct_31 : decode cX6_othersProduct 31 = .ok (.iload_n 2, 1) := by decide +kernel
theorem dX6_othersProduct_32 : decode cX6_othersProduct 32 = .ok (.if_icmp .eq 117, 3) := by decide +kernel
theorem dX6_othersProduct_35 : decode cX6_othersProduct 35 = .ok (.iload_n 1, 1) := by decide +kernel
theorem dX6_othersProduct_36 : decode cX6_othersProduct 36 = .ok (.iload 4, 2) := by decide +kernel
theorem dX6_othersProduct_38 : decode cX6_othersProduct 38 = .ok (.invokestatic 52, 3) := by decide +kernel
theorem dX6_othersProduct_41 : decode cX6_othersProduct 41 = .ok (.ifCond .eq 108, 3) := by decide +kernel
theorem dX6_othersProduct_44 : decode cX6_othersProduct 44 = .ok (.aload_n 0, 1) := by decide +kernel
theorem dX6_othersProduct_45 : decode cX6_othersProduct 45 = .ok (.getfield 31, 3) := by decide +kernel
theorem dX6_othersProduct_48 : decode cX6_othersProduct 48 = .ok (.arraylength, 1) := by decide +kernel
theorem dX6_othersProduct_49 : decode cX6_othersProduct 49 = .ok (.iconst 1, 1) := by decide +kernel
theorem dX6_othersProduct_50 : decode cX6_othersProduct 50 = .ok (.isub, 1) := by decide +kernel
theorem dX6_othersProduct_51 : decode cX6_othersProduct 51 = .ok (.istore 5, 2) := by decide +kernel
theorem dX6_othersProduct_53 : decode cX6_othersProduct 53 = .ok (.iload 5, 2) := by decide +kernel
theorem dX6_othersProduct_55 : decode cX6_othersProduct 55 = .ok (.ifCond .le 46, 3) := by decide +kernel
theorem dX6_othersProduct_58 : decode cX6_othersProduct 58 = .ok (.aload_n 0, 1) := by decide +kernel
theorem dX6_othersProduct_59 : decode cX6_othersProduct 59 = .ok (.getfield 31, 3) := by decide +kernel
theorem dX6_othersProduct_62 : decode cX6_othersProduct 62 = .ok (.iload 5, 2) := by decide +kernel
theorem dX6_othersProduct_64 : decode cX6_othersProduct 64 = .ok (.aload_n 0, 1) := by decide +kernel
theorem dX6_othersProduct_65 : decode cX6_othersProduct 65 = .ok (.aload_n 0, 1) := by decide +kernel
theorem dX6_othersProduct_66 : decode cX6_othersProduct 66 = .ok (.getfield 31, 3) := by decide +kernel
theorem dX6_othersProduct_69 : decode cX6_othersProduct 69 = .ok (.iload 5, 2) := by decide +kernel
theorem dX6_othersProduct_71 : decode cX6_othersProduct 71 = .ok (.iconst 1, 1) := by decide +kernel
theorem dX6_othersProduct_72 : decode cX6_othersProduct 72 = .ok (.isub, 1) := by decide +kernel
theorem dX6_othersProduct_73 : decode cX6_othersProduct 73 = .ok (.iaload, 1) := by decide +kernel
theorem dX6_othersProduct_74 : decode cX6_othersProduct 74 = .ok (.aload_n 0, 1) := by decide +kernel
theorem dX6_othersProduct_75 : decode cX6_othersProduct 75 = .ok (.getfield 16, 3) := by decide +kernel
theorem dX6_othersProduct_78 : decode cX6_othersProduct 78 = .ok (.iload 4, 2) := by decide +kernel
theorem dX6_othersProduct_80 : decode cX6_othersProduct 80 = .ok (.iaload, 1) := by decide +kernel
theorem dX6_othersProduct_81 : decode cX6_othersProduct 81 = .ok (.aload_n 0, 1) := by decide +kernel
theorem dX6_othersProduct_82 : decode cX6_othersProduct 82 = .ok (.getfield 31, 3) := by decide +kernel
theorem dX6_othersProduct_85 : decode cX6_othersProduct 85 = .ok (.iload 5, 2) := by decide +kernel
theorem dX6_othersProduct_87 : decode cX6_othersProduct 87 = .ok (.iaload, 1) := by decide +kernel
theorem dX6_othersProduct_88 : decode cX6_othersProduct 88 = .ok (.imul, 1) := by decide +kernel
theorem dX6_othersProduct_89 : decode cX6_othersProduct 89 = .ok (.isub, 1) := by decide +kernel
theorem dX6_othersProduct_90 : decode cX6_othersProduct 90 = .ok (.i2l, 1) := by decide +kernel
theorem dX6_othersProduct_91 : decode cX6_othersProduct 91 = .ok (.invokevirtual 63, 3) := by decide +kernel
theorem dX6_othersProduct_94 : decode cX6_othersProduct 94 = .ok (.iastore, 1) := by decide +kernel
theorem dX6_othersProduct_95 : decode cX6_othersProduct 95 = .ok (.iinc 5 (-1), 3) := by decide +kernel
theorem dX6_othersProduct_98 : decode cX6_othersProduct 98 = .ok (.goto (-45), 3) := by decide +kernel
theorem dX6_othersProduct_101 : decode cX6_othersProduct 101 = .ok (.aload_n 0, 1) := by decide +kernel
theorem dX6_othersProduct_102 : decode cX6_othersProduct 102 = .ok (.getfield 31, 3) := by decide +kernel
theorem dX6_othersProduct_105 : decode cX6_othersProduct 105 = .ok (.iconst 0, 1) := by decide +kernel
theorem dX6_othersProduct_106 : decode cX6_othersProduct 106 = .ok (.aload_n 0, 1) := by decide +kernel
theorem dX6_othersProduct_107 : decode cX6_othersProduct 107 = .ok (.aload_n 0, 1) := by decide +kernel
theorem dX6_othersProduct_108 : decode cX6_othersProduct 108 = .ok (.getfield 16, 3) := by decide +kernel
theorem dX6_othersProduct_111 : decode cX6_othersProduct 111 = .ok (.iload 4, 2) := by decide +kernel
theorem dX6_othersProduct_113 : decode cX6_othersProduct 113 = .ok (.iaload, 1) := by decide +kernel
theorem dX6_othersProduct_114 : decode cX6_othersProduct 114 = .ok (.ineg, 1) := by decide +kernel
theorem dX6_othersProduct_115 : decode cX6_othersProduct 115 = .ok (.aload_n 0, 1) := by decide +kernel
theorem dX6_othersProduct_116 : decode cX6_othersProduct 116 = .ok (.getfield 31, 3) := by decide +kernel
theorem dX6_othersProduct_119 : decode cX6_othersProduct 119 = .ok (.iconst 0, 1) := by decide +kernel
theorem dX6_othersProduct_120 : decode cX6_othersProduct 120 = .ok (.iaload, 1) := by decide +kernel
theorem dX6_othersProduct_121 : decode cX6_othersProduct 121 = .ok (.imul, 1) := by decide +kernel
theorem dX6_othersProduct_122 : decode cX6_othersProduct 122 = .ok (.i2l, 1) := by decide +kernel
theorem dX6_othersProduct_123 : decode cX6_othersProduct 123 = .ok (.invokevirtual 63, 3) := by decide +kernel
theorem dX6_othersProduct_126 : decode cX6_othersProduct 126 = .ok (.iastore, 1) := by decide +kernel
theorem dX6_othersProduct_127 : decode cX6_othersProduct 127 = .ok (.aload_n 0, 1) := by decide +kernel
theorem dX6_othersProduct_128 : decode cX6_othersProduct 128 = .ok (.iload_n 3, 1) := by decide +kernel
theorem dX6_othersProduct_129 : decode cX6_othersProduct 129 = .ok (.aload_n 0, 1) := by decide +kernel
theorem dX6_othersProduct_130 : decode cX6_othersProduct 130 = .ok (.getfield 16, 3) := by decide +kernel
theorem dX6_othersProduct_133 : decode cX6_othersProduct 133 = .ok (.iload_n 2, 1) := by decide +kernel
theorem dX6_othersProduct_134 : decode cX6_othersProduct 134 = .ok (.iaload, 1) := by decide +kernel
theorem dX6_othersProduct_135 : decode cX6_othersProduct 135 = .ok (.aload_n 0, 1) := by decide +kernel
theorem dX6_othersProduct_136 : decode cX6_othersProduct 136 = .ok (.getfield 16, 3) := by decide +kernel
theorem dX6_othersProduct_139 : decode cX6_othersProduct 139 = .ok (.iload 4, 2) := by decide +kernel
theorem dX6_othersProduct_141 : decode cX6_othersProduct 141 = .ok (.iaload, 1) := by decide +kernel
theorem dX6_othersProduct_142 : decode cX6_othersProduct 142 = .ok (.isub, 1) := by decide +kernel
theorem dX6_othersProduct_143 : decode cX6_othersProduct 143 = .ok (.imul, 1) := by decide +kernel
theorem dX6_othersProduct_144 : decode cX6_othersProduct 144 = .ok (.i2l, 1) := by decide +kernel
theorem dX6_othersProduct_145 : decode cX6_othersProduct 145 = .ok (.invokevirtual 63, 3) := by decide +kernel
theorem dX6_othersProduct_148 : decode cX6_othersProduct 148 = .ok (.istore_n 3, 1) := by decide +kernel
theorem dX6_othersProduct_149 : decode cX6_othersProduct 149 = .ok (.iinc 4 1, 3) := by decide +kernel
theorem dX6_othersProduct_152 : decode cX6_othersProduct 152 = .ok (.goto (-132), 3) := by decide +kernel
theorem dX6_othersProduct_155 : decode cX6_othersProduct 155 = .ok (.iload_n 3, 1) := by decide +kernel
theorem dX6_othersProduct_156 : decode cX6_othersProduct 156 = .ok (.ireturn, 1) := by decide +kernel
set_option maxRecDepth 20000 in
theorem ggX6_turnedOver_X6_restOf : GoodIn wsX6_turnedOver wsX6_restOf := goodIn_r _ [6, 1, 7, 8, 9, 10, 11, 12, 13, 14, 15, 16, 17] (by decide +kernel) (by decide +kernel)
set_option maxRecDepth 20000 in
theorem gX6_turnedOver_X6_restOf : GoodIn wsX6_turnedOver (wsV RX6 63 RX6 yX6_restOf wsX6_restOf) := goodIn_app (goodIn_of _ (by decide +kernel)) ggX6_turnedOver_X6_restOf
theorem dX6_turnedOver_0 : decode cX6_turnedOver 0 = .ok (.iconst 1, 1) := by decide +kernel
theorem dX6_turnedOver_1 : decode cX6_turnedOver 1 = .ok (.istore_n 2, 1) := by decide +kernel
theorem dX6_turnedOver_2 : decode cX6_turnedOver 2 = .ok (.iload_n 2, 1) := by decide +kernel
theorem dX6_turnedOver_3 : decode cX6_turnedOver 3 = .ok (.aload_n 0, 1) := by decide +kernel
theorem dX6_turnedOver_4 : decode cX6_turnedOver 4 = .ok (.getfield 13, 3) := by decide +kernel
theorem dX6_turnedOver_7 : decode cX6_turnedOver 7 = .ok (.if_icmp .ge 23, 3) := by decide +kernel
theorem dX6_turnedOver_10 : decode cX6_turnedOver 10 = .ok (.aload_n 0, 1) := by decide +kernel
theorem dX6_turnedOver_11 : decode cX6_turnedOver 11 = .ok (.iload_n 1, 1) := by decide +kernel
theorem dX6_turnedOver_12 : decode cX6_turnedOver 12 = .ok (.iload_n 2, 1) := by decide +kernel
theorem dX6_turnedOver_13 : decode cX6_turnedOver 13 = .ok (.imul, 1) := by decide +kernel
theorem dX6_turnedOver_14 : decode cX6_turnedOver 14 = .ok (.i2l, 1) := by decide +kernel
theorem dX6_turnedOver_15 : decode cX6_turnedOver 15 = .ok (.invokevirtual 63, 3) := by decide +kernel
theorem dX6_turnedOver_18 : decode cX6_turnedOver 18 = .ok (.iconst 1, 1) := by decide +kernel
theorem dX6_turnedOver_19 : decode cX6_turnedOver 19 = .ok (.if_icmp .ne 5, 3) := by decide +kernel
theorem dX6_turnedOver_22 : decode cX6_turnedOver 22 = .ok (.iload_n 2, 1) := by decide +kernel
theorem dX6_turnedOver_23 : decode cX6_turnedOver 23 = .ok (.ireturn, 1) := by decide +kernel
theorem dX6_turnedOver_24 : decode cX6_turnedOver 24 = .ok (.iinc 2 1, 3) := by decide +kernel
theorem dX6_turnedOver_27 : decode cX6_turnedOver 27 = .ok (.goto (-25), 3) := by decide +kernel
theorem dX6_turnedOver_30 : decode cX6_turnedOver 30 = .ok (.iconst 0, 1) := by decide +kernel
theorem dX6_turnedOver_31 : decode cX6_turnedOver 31 = .ok (.ireturn, 1) := by decide +kernel
set_option maxRecDepth 20000 in
theorem ggX6_comesTo_X6_restOf : GoodIn wsX6_comesTo wsX6_restOf := goodIn_r _ [6, 7, 8, 9, 10, 11, 12, 13, 14, 15, 16, 17, 18] (by decide +kernel) (by decide +kernel)
set_option maxRecDepth 20000 in
theorem gX6_comesTo_X6_restOf : GoodIn wsX6_comesTo (wsV RX6 63 RX6 yX6_restOf wsX6_restOf) := goodIn_app (goodIn_of _ (by decide +kernel)) ggX6_comesTo_X6_restOf
theorem dX6_comesTo_0 : decode cX6_comesTo 0 = .ok (.iconst 0, 1) := by decide +kernel
theorem dX6_comesTo_1 : decode cX6_comesTo 1 = .ok (.istore_n 2, 1) := by decide +kernel
theorem dX6_comesTo_2 : decode cX6_comesTo 2 = .ok (.aload_n 0, 1) := by decide +kernel
theorem dX6_comesTo_3 : decode cX6_comesTo 3 = .ok (.getfield 28, 3) := by decide +kernel
theorem dX6_comesTo_6 : decode cX6_comesTo 6 = .ok (.arraylength, 1) := by decide +kernel
theorem dX6_comesTo_7 : decode cX6_comesTo 7 = .ok (.iconst 1, 1) := by decide +kernel
theorem dX6_comesTo_8 : decode cX6_comesTo 8 = .ok (.isub, 1) := by decide +kernel
theorem dX6_comesTo_9 : decode cX6_comesTo 9 = .ok (.istore_n 3, 1) := by decide +kernel
theorem dX6_comesTo_10 : decode cX6_comesTo 10 = .ok (.iload_n 3, 1) := by decide +kernel
theorem dX6_comesTo_11 : decode cX6_comesTo 11 = .ok (.ifCond .lt 25, 3) := by decide +kernel
theorem dX6_comesTo_14 : decode cX6_comesTo 14 = .ok (.aload_n 0, 1) := by decide +kernel
theorem dX6_comesTo_15 : decode cX6_comesTo 15 = .ok (.iload_n 2, 1) := by decide +kernel
theorem dX6_comesTo_16 : decode cX6_comesTo 16 = .ok (.iload_n 1, 1) := by decide +kernel
theorem dX6_comesTo_17 : decode cX6_comesTo 17 = .ok (.imul, 1) := by decide +kernel
theorem dX6_comesTo_18 : decode cX6_comesTo 18 = .ok (.aload_n 0, 1) := by decide +kernel
theorem dX6_comesTo_19 : decode cX6_comesTo 19 = .ok (.getfield 28, 3) := by decide +kernel
theorem dX6_comesTo_22 : decode cX6_comesTo 22 = .ok (.iload_n 3, 1) := by decide +kernel
theorem dX6_comesTo_23 : decode cX6_comesTo 23 = .ok (.iaload, 1) := by decide +kernel
theorem dX6_comesTo_24 : decode cX6_comesTo 24 = .ok (.iadd, 1) := by decide +kernel
theorem dX6_comesTo_25 : decode cX6_comesTo 25 = .ok (.i2l, 1) := by decide +kernel
theorem dX6_comesTo_26 : decode cX6_comesTo 26 = .ok (.invokevirtual 63, 3) := by decide +kernel
theorem dX6_comesTo_29 : decode cX6_comesTo 29 = .ok (.istore_n 2, 1) := by decide +kernel
theorem dX6_comesTo_30 : decode cX6_comesTo 30 = .ok (.iinc 3 (-1), 3) := by decide +kernel
theorem dX6_comesTo_33 : decode cX6_comesTo 33 = .ok (.goto (-23), 3) := by decide +kernel
theorem dX6_comesTo_36 : decode cX6_comesTo 36 = .ok (.iload_n 2, 1) := by decide +kernel
theorem dX6_comesTo_37 : decode cX6_comesTo 37 = .ok (.ireturn, 1) := by decide +kernel
set_option maxRecDepth 20000 in
theorem ggX6_sharesOff_X6_comesTo : GoodIn wsX6_sharesOff wsX6_comesTo := goodIn_r _ [8, 9, 10, 11, 12, 7, 13, 14, 15, 16, 17, 18, 19, 20, 21, 22, 23, 24, 25] (by decide +kernel) (by decide +kernel)
set_option maxRecDepth 20000 in
theorem gX6_sharesOff_X6_comesTo : GoodIn wsX6_sharesOff (wsV RX6 67 RX6 yX6_comesTo wsX6_comesTo) := goodIn_app (goodIn_of _ (by decide +kernel)) ggX6_sharesOff_X6_comesTo
set_option maxRecDepth 20000 in
theorem ggX6_sharesOff_X6_restOf : GoodIn wsX6_sharesOff wsX6_restOf := goodIn_r _ [13, 14, 15, 16, 17, 18, 19, 20, 21, 22, 23, 24, 25] (by decide +kernel) (by decide +kernel)
set_option maxRecDepth 20000 in
theorem gX6_sharesOff_X6_restOf : GoodIn wsX6_sharesOff (wsV RX6 63 RX6 yX6_restOf wsX6_restOf) := goodIn_app (goodIn_of _ (by decide +kernel)) ggX6_sharesOff_X6_restOf
theorem dX6_sharesOff_0 : decode cX6_sharesOff 0 = .ok (.iconst 0, 1) := by decide +kernel
theorem dX6_sharesOff_1 : decode cX6_sharesOff 1 = .ok (.istore_n 1, 1) := by decide +kernel
theorem dX6_sharesOff_2 : decode cX6_sharesOff 2 = .ok (.iconst 0, 1) := by decide +kernel
theorem dX6_sharesOff_3 : decode cX6_sharesOff 3 = .ok (.istore_n 2, 1) := by decide +kernel
theorem dX6_sharesOff_4 : decode cX6_sharesOff 4 = .ok (.iload_n 2, 1) := by decide +kernel
theorem dX6_sharesOff_5 : decode cX6_sharesOff 5 = .ok (.aload_n 0, 1) := by decide +kernel
theorem dX6_sharesOff_6 : decode cX6_sharesOff 6 = .ok (.getfield 7, 3) := by decide +kernel
theorem dX6_sharesOff_9 : decode cX6_sharesOff 9 = .ok (.if_icmp .ge 39, 3) := by decide +kernel
theorem dX6_sharesOff_12 : decode cX6_sharesOff 12 = .ok (.aload_n 0, 1) := by decide +kernel
theorem dX6_sharesOff_13 : decode cX6_sharesOff 13 = .ok (.aload_n 0, 1) := by decide +kernel
theorem dX6_sharesOff_14 : decode cX6_sharesOff 14 = .ok (.getfield 16, 3) := by decide +kernel
theorem dX6_sharesOff_17 : decode cX6_sharesOff 17 = .ok (.iload_n 2, 1) := by decide +kernel
theorem dX6_sharesOff_18 : decode cX6_sharesOff 18 = .ok (.iaload, 1) := by decide +kernel
theorem dX6_sharesOff_19 : decode cX6_sharesOff 19 = .ok (.invokevirtual 67, 3) := by decide +kernel
theorem dX6_sharesOff_22 : decode cX6_sharesOff 22 = .ok (.aload_n 0, 1) := by decide +kernel
theorem dX6_sharesOff_23 : decode cX6_sharesOff 23 = .ok (.aload_n 0, 1) := by decide +kernel
theorem dX6_sharesOff_24 : decode cX6_sharesOff 24 = .ok (.getfield 23, 3) := by decide +kernel
theorem dX6_sharesOff_27 : decode cX6_sharesOff 27 = .ok (.iload_n 2, 1) := by decide +kernel
theorem dX6_sharesOff_28 : decode cX6_sharesOff 28 = .ok (.iaload, 1) := by decide +kernel
theorem dX6_sharesOff_29 : decode cX6_sharesOff 29 = .ok (.i2l, 1) := by decide +kernel
theorem dX6_sharesOff_30 : decode cX6_sharesOff 30 = .ok (.invokevirtual 63, 3) := by decide +kernel
theorem dX6_sharesOff_33 : decode cX6_sharesOff 33 = .ok (.if_icmp .eq 9, 3) := by decide +kernel
theorem dX6_sharesOff_36 : decode cX6_sharesOff 36 = .ok (.iload_n 1, 1) := by decide +kernel
theorem dX6_sharesOff_37 : decode cX6_sharesOff 37 = .ok (.iconst 1, 1) := by decide +kernel
theorem dX6_sharesOff_38 : decode cX6_sharesOff 38 = .ok (.iload_n 2, 1) := by decide +kernel
theorem dX6_sharesOff_39 : decode cX6_sharesOff 39 = .ok (.ishl, 1) := by decide +kernel
theorem dX6_sharesOff_40 : decode cX6_sharesOff 40 = .ok (.ior, 1) := by decide +kernel
theorem dX6_sharesOff_41 : decode cX6_sharesOff 41 = .ok (.istore_n 1, 1) := by decide +kernel
theorem dX6_sharesOff_42 : decode cX6_sharesOff 42 = .ok (.iinc 2 1, 3) := by decide +kernel
theorem dX6_sharesOff_45 : decode cX6_sharesOff 45 = .ok (.goto (-41), 3) := by decide +kernel
theorem dX6_sharesOff_48 : decode cX6_sharesOff 48 = .ok (.iload_n 1, 1) := by decide +kernel
theorem dX6_sharesOff_49 : decode cX6_sharesOff 49 = .ok (.ireturn, 1) := by decide +kernel
set_option maxRecDepth 20000 in
theorem ggX6_offRow_J6_bitCount_0f7a4 : GoodIn wsX6_offRow wsJ6_bitCount_0f7a4 := goodIn_r _ [5, 6, 7, 8] (by decide +kernel) (by decide +kernel)
set_option maxRecDepth 20000 in
theorem gX6_offRow_J6_bitCount_0f7a4 : GoodIn wsX6_offRow (va_wsS RX6 34 yJ6_bitCount_0f7a4 wsJ6_bitCount_0f7a4) := goodIn_app (goodIn_of _ (by decide +kernel)) ggX6_offRow_J6_bitCount_0f7a4
set_option maxRecDepth 20000 in
theorem ggX6_offRow_X6_isSet : GoodIn wsX6_offRow wsX6_isSet := goodIn_r _ [13, 1, 2, 3, 4, 5, 6, 7, 8, 54, 55, 56, 57, 58, 59, 60] (by decide +kernel) (by decide +kernel)
set_option maxRecDepth 20000 in
theorem gX6_offRow_X6_isSet : GoodIn wsX6_offRow (wsV RX6 70 RX6 yX6_isSet wsX6_isSet) := goodIn_app (goodIn_of _ (by decide +kernel)) ggX6_offRow_X6_isSet
set_option maxRecDepth 20000 in
theorem ggX6_offRow_X6_findRow : GoodIn wsX6_offRow wsX6_findRow := goodIn_r _ [17, 18, 1, 19, 20, 21, 22, 23, 24, 25, 26, 12, 27, 28, 29, 30, 31, 32, 33, 34, 35, 36, 37, 38, 39, 40, 41, 42, 43, 44, 45, 54, 55, 56, 57, 58, 59, 60] (by decide +kernel) (by decide +kernel)
set_option maxRecDepth 20000 in
theorem gX6_offRow_X6_findRow : GoodIn wsX6_offRow (wsV RX6 74 RX6 yX6_findRow wsX6_findRow) := goodIn_app (goodIn_of _ (by decide +kernel)) ggX6_offRow_X6_findRow
set_option maxRecDepth 20000 in
theorem ggX6_offRow_X6_sharesOff : GoodIn wsX6_offRow wsX6_sharesOff := goodIn_r _ [49, 1, 32, 19, 50, 51, 52, 12, 53, 18, 33, 34, 35, 36, 37, 38, 39, 40, 41, 54, 55, 56, 57, 58, 59, 60] (by decide +kernel) (by decide +kernel)
set_option maxRecDepth 20000 in
theorem gX6_offRow_X6_sharesOff : GoodIn wsX6_offRow (wsV RX6 78 RX6 yX6_sharesOff wsX6_sharesOff) := goodIn_app (goodIn_of _ (by decide +kernel)) ggX6_offRow_X6_sharesOff
theorem dX6_offRow_0 : decode cX6_offRow 0 = .ok (.iconst 0, 1) := by decide +kernel
theorem dX6_offRow_1 : decode cX6_offRow 1 = .ok (.istore_n 2, 1) := by decide +kernel
theorem dX6_offRow_2 : decode cX6_offRow 2 = .ok (.iconst 0, 1) := by decide +kernel
theorem dX6_offRow_3 : decode cX6_offRow 3 = .ok (.istore_n 3, 1) := by decide +kernel
theorem dX6_offRow_4 : decode cX6_offRow 4 = .ok (.iconst 1, 1) := by decide +kernel
theorem dX6_offRow_5 : decode cX6_offRow 5 = .ok (.istore 4, 2) := by decide +kernel
theorem dX6_offRow_7 : decode cX6_offRow 7 = .ok (.iload 4, 2) := by decide +kernel
theorem dX6_offRow_9 : decode cX6_offRow 9 = .ok (.iconst 1, 1) := by decide +kernel
theorem dX6_offRow_10 : decode cX6_offRow 10 = .ok (.aload_n 0, 1) := by decide +kernel
theorem dX6_offRow_11 : decode cX6_offRow 11 = .ok (.getfield 7, 3) := by decide +kernel
theorem dX6_offRow_14 : decode cX6_offRow 14 = .ok (.ishl, 1) := by decide +kernel
theorem dX6_offRow_15 : decode cX6_offRow 15 = .ok (.if_icmp .ge 60, 3) := by decide +kernel
theorem dX6_offRow_18 : decode cX6_offRow 18 = .ok (.iload 4, 2) := by decide +kernel
theorem dX6_offRow_20 : decode cX6_offRow 20 = .ok (.invokestatic 34, 3) := by decide +kernel
theorem dX6_offRow_23 : decode cX6_offRow 23 = .ok (.iload_n 1, 1) := by decide +kernel
theorem dX6_offRow_24 : decode cX6_offRow 24 = .ok (.if_icmp .ne 45, 3) := by decide +kernel
theorem dX6_offRow_27 : decode cX6_offRow 27 = .ok (.aload_n 0, 1) := by decide +kernel
theorem dX6_offRow_28 : decode cX6_offRow 28 = .ok (.iload 4, 2) := by decide +kernel
theorem dX6_offRow_30 : decode cX6_offRow 30 = .ok (.invokevirtual 70, 3) := by decide +kernel
theorem dX6_offRow_33 : decode cX6_offRow 33 = .ok (.ifCond .eq 36, 3) := by decide +kernel
theorem dX6_offRow_36 : decode cX6_offRow 36 = .ok (.aload_n 0, 1) := by decide +kernel
theorem dX6_offRow_37 : decode cX6_offRow 37 = .ok (.iload 4, 2) := by decide +kernel
theorem dX6_offRow_39 : decode cX6_offRow 39 = .ok (.invokevirtual 74, 3) := by decide +kernel
theorem dX6_offRow_42 : decode cX6_offRow 42 = .ok (.aload_n 0, 1) := by decide +kernel
theorem dX6_offRow_43 : decode cX6_offRow 43 = .ok (.invokevirtual 78, 3) := by decide +kernel
theorem dX6_offRow_46 : decode cX6_offRow 46 = .ok (.istore 5, 2) := by decide +kernel
theorem dX6_offRow_48 : decode cX6_offRow 48 = .ok (.iload_n 3, 1) := by decide +kernel
theorem dX6_offRow_49 : decode cX6_offRow 49 = .ok (.ifCond .eq 15, 3) := by decide +kernel
theorem dX6_offRow_52 : decode cX6_offRow 52 = .ok (.iload 5, 2) := by decide +kernel
theorem dX6_offRow_54 : decode cX6_offRow 54 = .ok (.invokestatic 34, 3) := by decide +kernel
theorem dX6_offRow_57 : decode cX6_offRow 57 = .ok (.iload_n 2, 1) := by decide +kernel
theorem dX6_offRow_58 : decode cX6_offRow 58 = .ok (.invokestatic 34, 3) := by decide +kernel
theorem dX6_offRow_61 : decode cX6_offRow 61 = .ok (.if_icmp .ge 8, 3) := by decide +kernel
theorem dX6_offRow_64 : decode cX6_offRow 64 = .ok (.iload 5, 2) := by decide +kernel
theorem dX6_offRow_66 : decode cX6_offRow 66 = .ok (.istore_n 2, 1) := by decide +kernel
theorem dX6_offRow_67 : decode cX6_offRow 67 = .ok (.iconst 1, 1) := by decide +kernel
theorem dX6_offRow_68 : decode cX6_offRow 68 = .ok (.istore_n 3, 1) := by decide +kernel
theorem dX6_offRow_69 : decode cX6_offRow 69 = .ok (.iinc 4 1, 3) := by decide +kernel
theorem dX6_offRow_72 : decode cX6_offRow 72 = .ok (.goto (-65), 3) := by decide +kernel
theorem dX6_offRow_75 : decode cX6_offRow 75 = .ok (.iload_n 2, 1) := by decide +kernel
theorem dX6_offRow_76 : decode cX6_offRow 76 = .ok (.ireturn, 1) := by decide +kernel
set_option maxRecDepth 20000 in
theorem ggX7_init_X2_init : GoodIn wsX7_init wsX2_init := goodIn_r _ [26, 27, 2, 3, 5, 28, 29, 30, 31, 32, 81, 82, 83, 84, 85] (by decide +kernel) (by decide +kernel)
set_option maxRecDepth 20000 in
theorem gX7_init_X2_init_n26 : GoodIn wsX7_init (wsX2_init) := ggX7_init_X2_init
set_option maxRecDepth 20000 in
theorem ggX7_init_X6_init : GoodIn wsX7_init wsX6_init := goodIn_r _ [34, 35, 2, 3, 36, 37, 5, 38, 39, 40, 41, 42, 86, 87, 88, 89, 90, 91, 92] (by decide +kernel) (by decide +kernel)
set_option maxRecDepth 20000 in
theorem gX7_init_X6_init_n33 : GoodIn wsX7_init (wsX6_init) := ggX7_init_X6_init
set_option maxRecDepth 20000 in
theorem ggX7_init_X0_init : GoodIn wsX7_init wsX0_init := goodIn_r _ [44, 45, 2, 3, 46, 5, 47, 48, 49, 93, 94, 95] (by decide +kernel) (by decide +kernel)
set_option maxRecDepth 20000 in
theorem gX7_init_X0_init_n40 : GoodIn wsX7_init (wsX0_init) := ggX7_init_X0_init
set_option maxRecDepth 20000 in
theorem ggX7_init_X7_clear : GoodIn wsX7_init wsX7_clear := goodIn_r _ [54, 4, 13, 17, 21, 22, 23, 24, 55, 56, 57, 12, 58, 30, 59, 60, 61, 62, 28, 29, 63, 64, 65, 16, 66, 36, 37, 67, 68, 69, 20, 70, 46, 47, 71, 72, 73, 74, 75, 76, 77, 78, 79, 80, 81, 82, 83, 84, 85, 86, 87, 88, 89, 90, 91, 92, 93, 94, 95] (by decide +kernel) (by decide +kernel)
set_option maxRecDepth 20000 in
theorem gX7_init_X7_clear : GoodIn wsX7_init (wsV RX7 54 RX7 yX7_clear wsX7_clear) := goodIn_app (goodIn_of _ (by decide +kernel)) ggX7_init_X7_clear
theorem dX7_init_0 : decode cX7_init 0 = .ok (.aload_n 0, 1) := by decide +kernel
theorem dX7_init_1 : decode cX7_init 1 = .ok (.invokespecial 1, 3) := by decide +kernel
theorem dX7_init_4 : decode cX7_init 4 = .ok (.aload_n 0, 1) := by decide +kernel
theorem dX7_init_5 : decode cX7_init 5 = .ok (.iconst 0, 1) := by decide +kernel
theorem dX7_init_6 : decode cX7_init 6 = .ok (.putfield 7, 3) := by decide +kernel
theorem dX7_init_9 : decode cX7_init 9 = .ok (.aload_n 0, 1) := by decide +kernel
theorem dX7_init_10 : decode cX7_init 10 = .ok (.bipush 6, 2) := by decide +kernel
theorem dX7_init_12 : decode cX7_init 12 = .ok (.newarray .int, 2) := by decide +kernel
theorem dX7_init_14 : decode cX7_init 14 = .ok (.putfield 13, 3) := by decide +kernel
theorem dX7_init_17 : decode cX7_init 17 = .ok (.aload_n 0, 1) := by decide +kernel
theorem dX7_init_18 : decode cX7_init 18 = .ok (.bipush 6, 2) := by decide +kernel
theorem dX7_init_20 : decode cX7_init 20 = .ok (.newarray .long, 2) := by decide +kernel
theorem dX7_init_22 : decode cX7_init 22 = .ok (.putfield 17, 3) := by decide +kernel
theorem dX7_init_25 : decode cX7_init 25 = .ok (.aload_n 0, 1) := by decide +kernel
theorem dX7_init_26 : decode cX7_init 26 = .ok (.bipush 36, 2) := by decide +kernel
theorem dX7_init_28 : decode cX7_init 28 = .ok (.newarray .int, 2) := by decide +kernel
theorem dX7_init_30 : decode cX7_init 30 = .ok (.putfield 21, 3) := by decide +kernel
theorem dX7_init_33 : decode cX7_init 33 = .ok (.aload_n 0, 1) := by decide +kernel
theorem dX7_init_34 : decode cX7_init 34 = .ok (.new 24, 3) := by decide +kernel
theorem dX7_init_37 : decode cX7_init 37 = .ok (.dup, 1) := by decide +kernel
theorem dX7_init_38 : decode cX7_init 38 = .ok (.invokespecial 26, 3) := by decide +kernel
theorem dX7_init_41 : decode cX7_init 41 = .ok (.putfield 27, 3) := by decide +kernel
theorem dX7_init_44 : decode cX7_init 44 = .ok (.aload_n 0, 1) := by decide +kernel
theorem dX7_init_45 : decode cX7_init 45 = .ok (.new 31, 3) := by decide +kernel
theorem dX7_init_48 : decode cX7_init 48 = .ok (.dup, 1) := by decide +kernel
theorem dX7_init_49 : decode cX7_init 49 = .ok (.invokespecial 33, 3) := by decide +kernel
theorem dX7_init_52 : decode cX7_init 52 = .ok (.putfield 34, 3) := by decide +kernel
theorem dX7_init_55 : decode cX7_init 55 = .ok (.aload_n 0, 1) := by decide +kernel
theorem dX7_init_56 : decode cX7_init 56 = .ok (.new 38, 3) := by decide +kernel
theorem dX7_init_59 : decode cX7_init 59 = .ok (.dup, 1) := by decide +kernel
theorem dX7_init_60 : decode cX7_init 60 = .ok (.invokespecial 40, 3) := by decide +kernel
theorem dX7_init_63 : decode cX7_init 63 = .ok (.putfield 41, 3) := by decide +kernel
theorem dX7_init_66 : decode cX7_init 66 = .ok (.aload_n 0, 1) := by decide +kernel
theorem dX7_init_67 : decode cX7_init 67 = .ok (.iconst 3, 1) := by decide +kernel
theorem dX7_init_68 : decode cX7_init 68 = .ok (.putfield 45, 3) := by decide +kernel
theorem dX7_init_71 : decode cX7_init 71 = .ok (.aload_n 0, 1) := by decide +kernel
theorem dX7_init_72 : decode cX7_init 72 = .ok (.iconst 3, 1) := by decide +kernel
theorem dX7_init_73 : decode cX7_init 73 = .ok (.putfield 48, 3) := by decide +kernel
theorem dX7_init_76 : decode cX7_init 76 = .ok (.aload_n 0, 1) := by decide +kernel
theorem dX7_init_77 : decode cX7_init 77 = .ok (.iconst 0, 1) := by decide +kernel
theorem dX7_init_78 : decode cX7_init 78 = .ok (.putfield 51, 3) := by decide +kernel
theorem dX7_init_81 : decode cX7_init 81 = .ok (.aload_n 0, 1) := by decide +kernel
theorem dX7_init_82 : decode cX7_init 82 = .ok (.invokevirtual 54, 3) := by decide +kernel
theorem dX7_init_85 : decode cX7_init 85 = .ok (.return_, 1) := by decide +kernel
set_option maxRecDepth 20000 in
theorem ggX7_clear_X2_clear : GoodIn wsX7_clear wsX2_clear := goodIn_r _ [12, 13, 44, 45, 46, 47, 48] (by decide +kernel) (by decide +kernel)
set_option maxRecDepth 20000 in
theorem gX7_clear_X2_clear : GoodIn wsX7_clear (wsV RX7 57 RX2 yX2_clear wsX2_clear) := goodIn_app (goodIn_of _ (by decide +kernel)) ggX7_clear_X2_clear
set_option maxRecDepth 20000 in
theorem ggX7_clear_X2_add : GoodIn wsX7_clear wsX2_add := goodIn_r _ [17, 13, 18, 19, 44, 45, 46, 47, 48] (by decide +kernel) (by decide +kernel)
set_option maxRecDepth 20000 in
theorem gX7_clear_X2_add : GoodIn wsX7_clear (wsV RX7 58 RX2 yX2_add wsX2_add) := goodIn_app (goodIn_of _ (by decide +kernel)) ggX7_clear_X2_add
set_option maxRecDepth 20000 in
theorem ggX7_clear_X6_clear : GoodIn wsX7_clear wsX6_clear := goodIn_r _ [24, 25, 26, 49, 50, 51, 52, 53, 54, 55] (by decide +kernel) (by decide +kernel)
set_option maxRecDepth 20000 in
theorem gX7_clear_X6_clear : GoodIn wsX7_clear (wsV RX7 62 RX6 yX6_clear wsX6_clear) := goodIn_app (goodIn_of _ (by decide +kernel)) ggX7_clear_X6_clear
set_option maxRecDepth 20000 in
theorem ggX7_clear_X0_clear : GoodIn wsX7_clear wsX0_clear := goodIn_r _ [31, 32, 33, 56, 57, 58] (by decide +kernel) (by decide +kernel)
set_option maxRecDepth 20000 in
theorem gX7_clear_X0_clear : GoodIn wsX7_clear (wsV RX7 63 RX0 yX0_clear wsX0_clear) := goodIn_app (goodIn_of _ (by decide +kernel)) ggX7_clear_X0_clear
theorem dX7_clear_0 : decode cX7_clear 0 = .ok (.aload_n 0, 1) := by decide +kernel
theorem dX7_clear_1 : decode cX7_clear 1 = .ok (.iconst 0, 1) := by decide +kernel
theorem dX7_clear_2 : decode cX7_clear 2 = .ok (.putfield 7, 3) := by decide +kernel
theorem dX7_clear_5 : decode cX7_clear 5 = .ok (.aload_n 0, 1) := by decide +kernel
theorem dX7_clear_6 : decode cX7_clear 6 = .ok (.getfield 27, 3) := by decide +kernel
theorem dX7_clear_9 : decode cX7_clear 9 = .ok (.invokevirtual 57, 3) := by decide +kernel
theorem dX7_clear_12 : decode cX7_clear 12 = .ok (.aload_n 0, 1) := by decide +kernel
theorem dX7_clear_13 : decode cX7_clear 13 = .ok (.getfield 27, 3) := by decide +kernel
theorem dX7_clear_16 : decode cX7_clear 16 = .ok (.iconst 2, 1) := by decide +kernel
theorem dX7_clear_17 : decode cX7_clear 17 = .ok (.iconst 3, 1) := by decide +kernel
theorem dX7_clear_18 : decode cX7_clear 18 = .ok (.invokevirtual 58, 3) := by decide +kernel
theorem dX7_clear_21 : decode cX7_clear 21 = .ok (.pop, 1) := by decide +kernel
theorem dX7_clear_22 : decode cX7_clear 22 = .ok (.aload_n 0, 1) := by decide +kernel
theorem dX7_clear_23 : decode cX7_clear 23 = .ok (.getfield 27, 3) := by decide +kernel
theorem dX7_clear_26 : decode cX7_clear 26 = .ok (.iconst 1, 1) := by decide +kernel
theorem dX7_clear_27 : decode cX7_clear 27 = .ok (.iconst 1, 1) := by decide +kernel
theorem dX7_clear_28 : decode cX7_clear 28 = .ok (.invokevirtual 58, 3) := by decide +kernel
theorem dX7_clear_31 : decode cX7_clear 31 = .ok (.pop, 1) := by decide +kernel
theorem dX7_clear_32 : decode cX7_clear 32 = .ok (.aload_n 0, 1) := by decide +kernel
theorem dX7_clear_33 : decode cX7_clear 33 = .ok (.getfield 27, 3) := by decide +kernel
theorem dX7_clear_36 : decode cX7_clear 36 = .ok (.bipush 43, 2) := by decide +kernel
theorem dX7_clear_38 : decode cX7_clear 38 = .ok (.iconst 0, 1) := by decide +kernel
theorem dX7_clear_39 : decode cX7_clear 39 = .ok (.invokevirtual 58, 3) := by decide +kernel
theorem dX7_clear_42 : decode cX7_clear 42 = .ok (.pop, 1) := by decide +kernel
theorem dX7_clear_43 : decode cX7_clear 43 = .ok (.aload_n 0, 1) := by decide +kernel
theorem dX7_clear_44 : decode cX7_clear 44 = .ok (.getfield 27, 3) := by decide +kernel
theorem dX7_clear_47 : decode cX7_clear 47 = .ok (.iconst 4, 1) := by decide +kernel
theorem dX7_clear_48 : decode cX7_clear 48 = .ok (.iconst 0, 1) := by decide +kernel
theorem dX7_clear_49 : decode cX7_clear 49 = .ok (.invokevirtual 58, 3) := by decide +kernel
theorem dX7_clear_52 : decode cX7_clear 52 = .ok (.pop, 1) := by decide +kernel
theorem dX7_clear_53 : decode cX7_clear 53 = .ok (.aload_n 0, 1) := by decide +kernel
theorem dX7_clear_54 : decode cX7_clear 54 = .ok (.getfield 34, 3) := by decide +kernel
theorem dX7_clear_57 : decode cX7_clear 57 = .ok (.invokevirtual 62, 3) := by decide +kernel
theorem dX7_clear_60 : decode cX7_clear 60 = .ok (.aload_n 0, 1) := by decide +kernel
theorem dX7_clear_61 : decode cX7_clear 61 = .ok (.getfield 41, 3) := by decide +kernel
theorem dX7_clear_64 : decode cX7_clear 64 = .ok (.invokevirtual 63, 3) := by decide +kernel
theorem dX7_clear_67 : decode cX7_clear 67 = .ok (.aload_n 0, 1) := by decide +kernel
theorem dX7_clear_68 : decode cX7_clear 68 = .ok (.iconst 3, 1) := by decide +kernel
theorem dX7_clear_69 : decode cX7_clear 69 = .ok (.putfield 45, 3) := by decide +kernel
theorem dX7_clear_72 : decode cX7_clear 72 = .ok (.aload_n 0, 1) := by decide +kernel
theorem dX7_clear_73 : decode cX7_clear 73 = .ok (.iconst 3, 1) := by decide +kernel
theorem dX7_clear_74 : decode cX7_clear 74 = .ok (.putfield 48, 3) := by decide +kernel
theorem dX7_clear_77 : decode cX7_clear 77 = .ok (.aload_n 0, 1) := by decide +kernel
theorem dX7_clear_78 : decode cX7_clear 78 = .ok (.iconst 0, 1) := by decide +kernel
theorem dX7_clear_79 : decode cX7_clear 79 = .ok (.putfield 51, 3) := by decide +kernel
theorem dX7_clear_82 : decode cX7_clear 82 = .ok (.return_, 1) := by decide +kernel
theorem dX7_isFullOf_0 : decode cX7_isFullOf 0 = .ok (.iload_n 1, 1) := by decide +kernel
theorem dX7_isFullOf_1 : decode cX7_isFullOf 1 = .ok (.tableswitch 90 256 261 #[39, 39, 90, 90, 54, 72], 39) := by decide +kernel
theorem dX7_isFullOf_40 : decode cX7_isFullOf 40 = .ok (.aload_n 0, 1) := by decide +kernel
theorem dX7_isFullOf_41 : decode cX7_isFullOf 41 = .ok (.getfield 7, 3) := by decide +kernel
theorem dX7_isFullOf_44 : decode cX7_isFullOf 44 = .ok (.bipush 6, 2) := by decide +kernel
theorem dX7_isFullOf_46 : decode cX7_isFullOf 46 = .ok (.if_icmp .lt 7, 3) := by decide +kernel
theorem dX7_isFullOf_49 : decode cX7_isFullOf 49 = .ok (.iconst 1, 1) := by decide +kernel
theorem dX7_isFullOf_50 : decode cX7_isFullOf 50 = .ok (.goto 4, 3) := by decide +kernel
theorem dX7_isFullOf_53 : decode cX7_isFullOf 53 = .ok (.iconst 0, 1) := by decide +kernel
theorem dX7_isFullOf_54 : decode cX7_isFullOf 54 = .ok (.ireturn, 1) := by decide +kernel
theorem dX7_isFullOf_55 : decode cX7_isFullOf 55 = .ok (.aload_n 0, 1) := by decide +kernel
theorem dX7_isFullOf_56 : decode cX7_isFullOf 56 = .ok (.getfield 34, 3) := by decide +kernel
theorem dX7_isFullOf_59 : decode cX7_isFullOf 59 = .ok (.getfield 64, 3) := by decide +kernel
theorem dX7_isFullOf_62 : decode cX7_isFullOf 62 = .ok (.bipush 8, 2) := by decide +kernel
theorem dX7_isFullOf_64 : decode cX7_isFullOf 64 = .ok (.if_icmp .lt 7, 3) := by decide +kernel
theorem dX7_isFullOf_67 : decode cX7_isFullOf 67 = .ok (.iconst 1, 1) := by decide +kernel
theorem dX7_isFullOf_68 : decode cX7_isFullOf 68 = .ok (.goto 4, 3) := by decide +kernel
theorem dX7_isFullOf_71 : decode cX7_isFullOf 71 = .ok (.iconst 0, 1) := by decide +kernel
theorem dX7_isFullOf_72 : decode cX7_isFullOf 72 = .ok (.ireturn, 1) := by decide +kernel
theorem dX7_isFullOf_73 : decode cX7_isFullOf 73 = .ok (.aload_n 0, 1) := by decide +kernel
theorem dX7_isFullOf_74 : decode cX7_isFullOf 74 = .ok (.getfield 41, 3) := by decide +kernel
theorem dX7_isFullOf_77 : decode cX7_isFullOf 77 = .ok (.getfield 67, 3) := by decide +kernel
theorem dX7_isFullOf_80 : decode cX7_isFullOf 80 = .ok (.bipush 9, 2) := by decide +kernel
theorem dX7_isFullOf_82 : decode cX7_isFullOf 82 = .ok (.if_icmp .lt 7, 3) := by decide +kernel
theorem dX7_isFullOf_85 : decode cX7_isFullOf 85 = .ok (.iconst 1, 1) := by decide +kernel
theorem dX7_isFullOf_86 : decode cX7_isFullOf 86 = .ok (.goto 4, 3) := by decide +kernel
theorem dX7_isFullOf_89 : decode cX7_isFullOf 89 = .ok (.iconst 0, 1) := by decide +kernel
theorem dX7_isFullOf_90 : decode cX7_isFullOf 90 = .ok (.ireturn, 1) := by decide +kernel
theorem dX7_isFullOf_91 : decode cX7_isFullOf 91 = .ok (.iconst 0, 1) := by decide +kernel
theorem dX7_isFullOf_92 : decode cX7_isFullOf 92 = .ok (.ireturn, 1) := by decide +kernel
theorem dX7_tellName_0 : decode cX7_tellName 0 = .ok (.iconst 1, 1) := by decide +kernel
theorem dX7_tellName_1 : decode cX7_tellName 1 = .ok (.istore_n 3, 1) := by decide +kernel
theorem dX7_tellName_2 : decode cX7_tellName 2 = .ok (.iconst 0, 1) := by decide +kernel
theorem dX7_tellName_3 : decode cX7_tellName 3 = .ok (.istore 4, 2) := by decide +kernel
theorem dX7_tellName_5 : decode cX7_tellName 5 = .ok (.iload 4, 2) := by decide +kernel
theorem dX7_tellName_7 : decode cX7_tellName 7 = .ok (.aload_n 0, 1) := by decide +kernel
theorem dX7_tellName_8 : decode cX7_tellName 8 = .ok (.getfield 7, 3) := by decide +kernel
theorem dX7_tellName_11 : decode cX7_tellName 11 = .ok (.if_icmp .ge 23, 3) := by decide +kernel
theorem dX7_tellName_14 : decode cX7_tellName 14 = .ok (.aload_n 0, 1) := by decide +kernel
theorem dX7_tellName_15 : decode cX7_tellName 15 = .ok (.getfield 17, 3) := by decide +kernel
theorem dX7_tellName_18 : decode cX7_tellName 18 = .ok (.iload 4, 2) := by decide +kernel
theorem dX7_tellName_20 : decode cX7_tellName 20 = .ok (.laload, 1) := by decide +kernel
theorem dX7_tellName_21 : decode cX7_tellName 21 = .ok (.lload_n 1, 1) := by decide +kernel
theorem dX7_tellName_22 : decode cX7_tellName 22 = .ok (.lcmp, 1) := by decide +kernel
theorem dX7_tellName_23 : decode cX7_tellName 23 = .ok (.ifCond .ne 5, 3) := by decide +kernel
theorem dX7_tellName_26 : decode cX7_tellName 26 = .ok (.iconst 0, 1) := by decide +kernel
theorem dX7_tellName_27 : decode cX7_tellName 27 = .ok (.istore_n 3, 1) := by decide +kernel
theorem dX7_tellName_28 : decode cX7_tellName 28 = .ok (.iinc 4 1, 3) := by decide +kernel
theorem dX7_tellName_31 : decode cX7_tellName 31 = .ok (.goto (-26), 3) := by decide +kernel
theorem dX7_tellName_34 : decode cX7_tellName 34 = .ok (.aload_n 0, 1) := by decide +kernel
theorem dX7_tellName_35 : decode cX7_tellName 35 = .ok (.getfield 7, 3) := by decide +kernel
theorem dX7_tellName_38 : decode cX7_tellName 38 = .ok (.bipush 6, 2) := by decide +kernel
theorem dX7_tellName_40 : decode cX7_tellName 40 = .ok (.if_icmp .ge 13, 3) := by decide +kernel
theorem dX7_tellName_43 : decode cX7_tellName 43 = .ok (.aload_n 0, 1) := by decide +kernel
theorem dX7_tellName_44 : decode cX7_tellName 44 = .ok (.getfield 17, 3) := by decide +kernel
theorem dX7_tellName_47 : decode cX7_tellName 47 = .ok (.aload_n 0, 1) := by decide +kernel
theorem dX7_tellName_48 : decode cX7_tellName 48 = .ok (.getfield 7, 3) := by decide +kernel
theorem dX7_tellName_51 : decode cX7_tellName 51 = .ok (.lload_n 1, 1) := by decide +kernel
theorem dX7_tellName_52 : decode cX7_tellName 52 = .ok (.lastore, 1) := by decide +kernel
theorem dX7_tellName_53 : decode cX7_tellName 53 = .ok (.iload_n 3, 1) := by decide +kernel
theorem dX7_tellName_54 : decode cX7_tellName 54 = .ok (.ireturn, 1) := by decide +kernel
theorem dX7_tellNumber_0 : decode cX7_tellNumber 0 = .ok (.aload_n 0, 1) := by decide +kernel
theorem dX7_tellNumber_1 : decode cX7_tellNumber 1 = .ok (.getfield 7, 3) := by decide +kernel
theorem dX7_tellNumber_4 : decode cX7_tellNumber 4 = .ok (.bipush 6, 2) := by decide +kernel
theorem dX7_tellNumber_6 : decode cX7_tellNumber 6 = .ok (.if_icmp .ge 24, 3) := by decide +kernel
theorem dX7_tellNumber_9 : decode cX7_tellNumber 9 = .ok (.iload_n 1, 1) := by decide +kernel
theorem dX7_tellNumber_10 : decode cX7_tellNumber 10 = .ok (.bipush 6, 2) := by decide +kernel
theorem dX7_tellNumber_12 : decode cX7_tellNumber 12 = .ok (.if_icmp .ge 18, 3) := by decide +kernel
theorem dX7_tellNumber_15 : decode cX7_tellNumber 15 = .ok (.aload_n 0, 1) := by decide +kernel
theorem dX7_tellNumber_16 : decode cX7_tellNumber 16 = .ok (.getfield 21, 3) := by decide +kernel
theorem dX7_tellNumber_19 : decode cX7_tellNumber 19 = .ok (.aload_n 0, 1) := by decide +kernel
theorem dX7_tellNumber_20 : decode cX7_tellNumber 20 = .ok (.getfield 7, 3) := by decide +kernel
theorem dX7_tellNumber_23 : decode cX7_tellNumber 23 = .ok (.bipush 6, 2) := by decide +kernel
theorem dX7_tellNumber_25 : decode cX7_tellNumber 25 = .ok (.imul, 1) := by decide +kernel
theorem dX7_tellNumber_26 : decode cX7_tellNumber 26 = .ok (.iload_n 1, 1) := by decide +kernel
theorem dX7_tellNumber_27 : decode cX7_tellNumber 27 = .ok (.iadd, 1) := by decide +kernel
theorem dX7_tellNumber_28 : decode cX7_tellNumber 28 = .ok (.iload_n 2, 1) := by decide +kernel
theorem dX7_tellNumber_29 : decode cX7_tellNumber 29 = .ok (.iastore, 1) := by decide +kernel
theorem dX7_tellNumber_30 : decode cX7_tellNumber 30 = .ok (.return_, 1) := by decide +kernel
theorem dX7_endRow_0 : decode cX7_endRow 0 = .ok (.aload_n 0, 1) := by decide +kernel
theorem dX7_endRow_1 : decode cX7_endRow 1 = .ok (.getfield 7, 3) := by decide +kernel
theorem dX7_endRow_4 : decode cX7_endRow 4 = .ok (.bipush 6, 2) := by decide +kernel
theorem dX7_endRow_6 : decode cX7_endRow 6 = .ok (.if_icmp .ge 23, 3) := by decide +kernel
theorem dX7_endRow_9 : decode cX7_endRow 9 = .ok (.aload_n 0, 1) := by decide +kernel
theorem dX7_endRow_10 : decode cX7_endRow 10 = .ok (.getfield 13, 3) := by decide +kernel
theorem dX7_endRow_13 : decode cX7_endRow 13 = .ok (.aload_n 0, 1) := by decide +kernel
theorem dX7_endRow_14 : decode cX7_endRow 14 = .ok (.getfield 7, 3) := by decide +kernel
theorem dX7_endRow_17 : decode cX7_endRow 17 = .ok (.iload_n 1, 1) := by decide +kernel
theorem dX7_endRow_18 : decode cX7_endRow 18 = .ok (.iastore, 1) := by decide +kernel
theorem dX7_endRow_19 : decode cX7_endRow 19 = .ok (.aload_n 0, 1) := by decide +kernel
theorem dX7_endRow_20 : decode cX7_endRow 20 = .ok (.dup, 1) := by decide +kernel
theorem dX7_endRow_21 : decode cX7_endRow 21 = .ok (.getfield 7, 3) := by decide +kernel
theorem dX7_endRow_24 : decode cX7_endRow 24 = .ok (.iconst 1, 1) := by decide +kernel
theorem dX7_endRow_25 : decode cX7_endRow 25 = .ok (.iadd, 1) := by decide +kernel
theorem dX7_endRow_26 : decode cX7_endRow 26 = .ok (.putfield 7, 3) := by decide +kernel
theorem dX7_endRow_29 : decode cX7_endRow 29 = .ok (.return_, 1) := by decide +kernel
theorem dX7_numberAt_0 : decode cX7_numberAt 0 = .ok (.iload_n 1, 1) := by decide +kernel
theorem dX7_numberAt_1 : decode cX7_numberAt 1 = .ok (.ifCond .lt 29, 3) := by decide +kernel
theorem dX7_numberAt_4 : decode cX7_numberAt 4 = .ok (.iload_n 1, 1) := by decide +kernel
theorem dX7_numberAt_5 : decode cX7_numberAt 5 = .ok (.aload_n 0, 1) := by decide +kernel
theorem dX7_numberAt_6 : decode cX7_numberAt 6 = .ok (.getfield 7, 3) := by decide +kernel
theorem dX7_numberAt_9 : decode cX7_numberAt 9 = .ok (.if_icmp .ge 21, 3) := by decide +kernel
theorem dX7_numberAt_12 : decode cX7_numberAt 12 = .ok (.iload_n 2, 1) := by decide +kernel
theorem dX7_numberAt_13 : decode cX7_numberAt 13 = .ok (.ifCond .lt 17, 3) := by decide +kernel
theorem dX7_numberAt_16 : decode cX7_numberAt 16 = .ok (.iload_n 2, 1) := by decide +kernel
theorem dX7_numberAt_17 : decode cX7_numberAt 17 = .ok (.aload_n 0, 1) := by decide +kernel
theorem dX7_numberAt_18 : decode cX7_numberAt 18 = .ok (.getfield 13, 3) := by decide +kernel
theorem dX7_numberAt_21 : decode cX7_numberAt 21 = .ok (.iload_n 1, 1) := by decide +kernel
theorem dX7_numberAt_22 : decode cX7_numberAt 22 = .ok (.iaload, 1) := by decide +kernel
theorem dX7_numberAt_23 : decode cX7_numberAt 23 = .ok (.if_icmp .ge 7, 3) := by decide +kernel
theorem dX7_numberAt_26 : decode cX7_numberAt 26 = .ok (.iconst 1, 1) := by decide +kernel
theorem dX7_numberAt_27 : decode cX7_numberAt 27 = .ok (.goto 4, 3) := by decide +kernel
theorem dX7_numberAt_30 : decode cX7_numberAt 30 = .ok (.iconst 0, 1) := by decide +kernel
theorem dX7_numberAt_31 : decode cX7_numberAt 31 = .ok (.istore_n 3, 1) := by decide +kernel
theorem dX7_numberAt_32 : decode cX7_numberAt 32 = .ok (.iload_n 3, 1) := by decide +kernel
theorem dX7_numberAt_33 : decode cX7_numberAt 33 = .ok (.ifCond .eq 17, 3) := by decide +kernel
theorem dX7_numberAt_36 : decode cX7_numberAt 36 = .ok (.aload_n 0, 1) := by decide +kernel
theorem dX7_numberAt_37 : decode cX7_numberAt 37 = .ok (.getfield 21, 3) := by decide +kernel
theorem dX7_numberAt_40 : decode cX7_numberAt 40 = .ok (.iload_n 1, 1) := by decide +kernel
theorem dX7_numberAt_41 : decode cX7_numberAt 41 = .ok (.bipush 6, 2) := by decide +kernel
theorem dX7_numberAt_43 : decode cX7_numberAt 43 = .ok (.imul, 1) := by decide +kernel
theorem dX7_numberAt_44 : decode cX7_numberAt 44 = .ok (.iload_n 2, 1) := by decide +kernel
theorem dX7_numberAt_45 : decode cX7_numberAt 45 = .ok (.iadd, 1) := by decide +kernel
theorem dX7_numberAt_46 : decode cX7_numberAt 46 = .ok (.iaload, 1) := by decide +kernel
theorem dX7_numberAt_47 : decode cX7_numberAt 47 = .ok (.goto 4, 3) := by decide +kernel
theorem dX7_numberAt_50 : decode cX7_numberAt 50 = .ok (.iconst 0, 1) := by decide +kernel
theorem dX7_numberAt_51 : decode cX7_numberAt 51 = .ok (.ireturn, 1) := by decide +kernel
set_option maxRecDepth 20000 in
theorem ggX7_comesTo_X7_numberAt : GoodIn wsX7_comesTo wsX7_numberAt := goodIn_r _ [5, 6, 7, 8, 9, 10, 11, 12, 13, 14, 15, 16, 17, 18] (by decide +kernel) (by decide +kernel)
set_option maxRecDepth 20000 in
theorem gX7_comesTo_X7_numberAt : GoodIn wsX7_comesTo (wsV RX7 68 RX7 yX7_numberAt wsX7_numberAt) := goodIn_app (goodIn_of _ (by decide +kernel)) ggX7_comesTo_X7_numberAt
theorem dX7_comesTo_0 : decode cX7_comesTo 0 = .ok (.lconst 0, 1) := by decide +kernel
theorem dX7_comesTo_1 : decode cX7_comesTo 1 = .ok (.lstore 4, 2) := by decide +kernel
theorem dX7_comesTo_3 : decode cX7_comesTo 3 = .ok (.iconst 5, 1) := by decide +kernel
theorem dX7_comesTo_4 : decode cX7_comesTo 4 = .ok (.istore 6, 2) := by decide +kernel
theorem dX7_comesTo_6 : decode cX7_comesTo 6 = .ok (.iload 6, 2) := by decide +kernel
theorem dX7_comesTo_8 : decode cX7_comesTo 8 = .ok (.ifCond .lt 24, 3) := by decide +kernel
theorem dX7_comesTo_11 : decode cX7_comesTo 11 = .ok (.lload 4, 2) := by decide +kernel
theorem dX7_comesTo_13 : decode cX7_comesTo 13 = .ok (.lload_n 2, 1) := by decide +kernel
theorem dX7_comesTo_14 : decode cX7_comesTo 14 = .ok (.lmul, 1) := by decide +kernel
theorem dX7_comesTo_15 : decode cX7_comesTo 15 = .ok (.aload_n 0, 1) := by decide +kernel
theorem dX7_comesTo_16 : decode cX7_comesTo 16 = .ok (.iload_n 1, 1) := by decide +kernel
theorem dX7_comesTo_17 : decode cX7_comesTo 17 = .ok (.iload 6, 2) := by decide +kernel
theorem dX7_comesTo_19 : decode cX7_comesTo 19 = .ok (.invokevirtual 68, 3) := by decide +kernel
theorem dX7_comesTo_22 : decode cX7_comesTo 22 = .ok (.i2l, 1) := by decide +kernel
theorem dX7_comesTo_23 : decode cX7_comesTo 23 = .ok (.ladd, 1) := by decide +kernel
theorem dX7_comesTo_24 : decode cX7_comesTo 24 = .ok (.lstore 4, 2) := by decide +kernel
theorem dX7_comesTo_26 : decode cX7_comesTo 26 = .ok (.iinc 6 (-1), 3) := by decide +kernel
theorem dX7_comesTo_29 : decode cX7_comesTo 29 = .ok (.goto (-23), 3) := by decide +kernel
theorem dX7_comesTo_32 : decode cX7_comesTo 32 = .ok (.lload 4, 2) := by decide +kernel
theorem dX7_comesTo_34 : decode cX7_comesTo 34 = .ok (.lreturn, 1) := by decide +kernel
set_option maxRecDepth 20000 in
theorem ggX7_isSomeBelowZero_X7_numberAt : GoodIn wsX7_isSomeBelowZero wsX7_numberAt := goodIn_r _ [5, 6, 7, 8, 9, 10, 11, 12, 13, 14, 15, 16, 17, 18] (by decide +kernel) (by decide +kernel)
set_option maxRecDepth 20000 in
theorem gX7_isSomeBelowZero_X7_numberAt : GoodIn wsX7_isSomeBelowZero (wsV RX7 68 RX7 yX7_numberAt wsX7_numberAt) := goodIn_app (goodIn_of _ (by decide +kernel)) ggX7_isSomeBelowZero_X7_numberAt
theorem dX7_isSomeBelowZero_0 : decode cX7_isSomeBelowZero 0 = .ok (.iconst 0, 1) := by decide +kernel
theorem dX7_isSomeBelowZero_1 : decode cX7_isSomeBelowZero 1 = .ok (.istore_n 2, 1) := by decide +kernel
theorem dX7_isSomeBelowZero_2 : decode cX7_isSomeBelowZero 2 = .ok (.iload_n 2, 1) := by decide +kernel
theorem dX7_isSomeBelowZero_3 : decode cX7_isSomeBelowZero 3 = .ok (.bipush 6, 2) := by decide +kernel
theorem dX7_isSomeBelowZero_5 : decode cX7_isSomeBelowZero 5 = .ok (.if_icmp .ge 20, 3) := by decide +kernel
theorem dX7_isSomeBelowZero_8 : decode cX7_isSomeBelowZero 8 = .ok (.aload_n 0, 1) := by decide +kernel
theorem dX7_isSomeBelowZero_9 : decode cX7_isSomeBelowZero 9 = .ok (.iload_n 1, 1) := by decide +kernel
theorem dX7_isSomeBelowZero_10 : decode cX7_isSomeBelowZero 10 = .ok (.iload_n 2, 1) := by decide +kernel
theorem dX7_isSomeBelowZero_11 : decode cX7_isSomeBelowZero 11 = .ok (.invokevirtual 68, 3) := by decide +kernel
theorem dX7_isSomeBelowZero_14 : decode cX7_isSomeBelowZero 14 = .ok (.ifCond .ge 5, 3) := by decide +kernel
theorem dX7_isSomeBelowZero_17 : decode cX7_isSomeBelowZero 17 = .ok (.iconst 1, 1) := by decide +kernel
theorem dX7_isSomeBelowZero_18 : decode cX7_isSomeBelowZero 18 = .ok (.ireturn, 1) := by decide +kernel
theorem dX7_isSomeBelowZero_19 : decode cX7_isSomeBelowZero 19 = .ok (.iinc 2 1, 3) := by decide +kernel
theorem dX7_isSomeBelowZero_22 : decode cX7_isSomeBelowZero 22 = .ok (.goto (-20), 3) := by decide +kernel
theorem dX7_isSomeBelowZero_25 : decode cX7_isSomeBelowZero 25 = .ok (.iconst 0, 1) := by decide +kernel
theorem dX7_isSomeBelowZero_26 : decode cX7_isSomeBelowZero 26 = .ok (.ireturn, 1) := by decide +kernel
set_option maxRecDepth 20000 in
theorem ggX8_init_X8_wordText : GoodIn wsX8_init wsX8_wordText := goodIn_r _ [14] (by decide +kernel) (by decide +kernel)
set_option maxRecDepth 20000 in
theorem gX8_init_X8_wordText : GoodIn wsX8_init (va_wsS RX8 27 yX8_wordText wsX8_wordText) := goodIn_app (goodIn_of _ (by decide +kernel)) ggX8_init_X8_wordText
set_option maxRecDepth 20000 in
theorem ggX8_init_J0_length_8abf5 : GoodIn wsX8_init wsJ0_length_8abf5 := goodIn_r _ [19, 20, 21, 22, 23, 18, 24, 25, 26] (by decide +kernel) (by decide +kernel)
set_option maxRecDepth 20000 in
theorem gX8_init_J0_length_8abf5 : GoodIn wsX8_init (wsV RX8 31 RJ0 yJ0_length_8abf5 wsJ0_length_8abf5) := goodIn_app (goodIn_of _ (by decide +kernel)) ggX8_init_J0_length_8abf5
set_option maxRecDepth 20000 in
theorem ggX8_init_J0_charAt_5068e : GoodIn wsX8_init wsJ0_charAt_5068e := goodIn_r _ [30, 20, 31, 32, 33, 18, 34, 25, 26, 35, 36, 37, 38, 39, 40, 41, 42, 43, 44, 45, 46, 47, 48, 49, 50, 51, 52, 53, 54, 55, 56, 57, 58, 59, 60, 61, 62, 63] (by decide +kernel) (by decide +kernel)
set_option maxRecDepth 20000 in
theorem gX8_init_J0_charAt_5068e : GoodIn wsX8_init (wsV RX8 37 RJ0 yJ0_charAt_5068e wsJ0_charAt_5068e) := goodIn_app (goodIn_of _ (by decide +kernel)) ggX8_init_J0_charAt_5068e
set_option maxRecDepth 20000 in
theorem ggX8_init_X8_withLetter : GoodIn wsX8_init wsX8_withLetter := goodIn_r _ [66, 67] (by decide +kernel) (by decide +kernel)
set_option maxRecDepth 20000 in
theorem gX8_init_X8_withLetter : GoodIn wsX8_init (va_wsS RX8 41 yX8_withLetter wsX8_withLetter) := goodIn_app (goodIn_of _ (by decide +kernel)) ggX8_init_X8_withLetter
theorem dX8_init_0 : decode cX8_init 0 = .ok (.aload_n 0, 1) := by decide +kernel
theorem dX8_init_1 : decode cX8_init 1 = .ok (.invokespecial 1, 3) := by decide +kernel
theorem dX8_init_4 : decode cX8_init 4 = .ok (.aload_n 0, 1) := by decide +kernel
theorem dX8_init_5 : decode cX8_init 5 = .ok (.sipush 402, 3) := by decide +kernel
theorem dX8_init_8 : decode cX8_init 8 = .ok (.newarray .int, 2) := by decide +kernel
theorem dX8_init_10 : decode cX8_init 10 = .ok (.putfield 9, 3) := by decide +kernel
theorem dX8_init_13 : decode cX8_init 13 = .ok (.aload_n 0, 1) := by decide +kernel
theorem dX8_init_14 : decode cX8_init 14 = .ok (.sipush 402, 3) := by decide +kernel
theorem dX8_init_17 : decode cX8_init 17 = .ok (.newarray .int, 2) := by decide +kernel
theorem dX8_init_19 : decode cX8_init 19 = .ok (.putfield 13, 3) := by decide +kernel
theorem dX8_init_22 : decode cX8_init 22 = .ok (.aload_n 0, 1) := by decide +kernel
theorem dX8_init_23 : decode cX8_init 23 = .ok (.sipush 402, 3) := by decide +kernel
theorem dX8_init_26 : decode cX8_init 26 = .ok (.newarray .long, 2) := by decide +kernel
theorem dX8_init_28 : decode cX8_init 28 = .ok (.putfield 16, 3) := by decide +kernel
theorem dX8_init_31 : decode cX8_init 31 = .ok (.aload_n 0, 1) := by decide +kernel
theorem dX8_init_32 : decode cX8_init 32 = .ok (.bipush 17, 2) := by decide +kernel
theorem dX8_init_34 : decode cX8_init 34 = .ok (.newarray .long, 2) := by decide +kernel
theorem dX8_init_36 : decode cX8_init 36 = .ok (.putfield 20, 3) := by decide +kernel
theorem dX8_init_39 : decode cX8_init 39 = .ok (.aload_n 0, 1) := by decide +kernel
theorem dX8_init_40 : decode cX8_init 40 = .ok (.iconst 0, 1) := by decide +kernel
theorem dX8_init_41 : decode cX8_init 41 = .ok (.putfield 23, 3) := by decide +kernel
theorem dX8_init_44 : decode cX8_init 44 = .ok (.iconst 0, 1) := by decide +kernel
theorem dX8_init_45 : decode cX8_init 45 = .ok (.istore_n 1, 1) := by decide +kernel
theorem dX8_init_46 : decode cX8_init 46 = .ok (.iload_n 1, 1) := by decide +kernel
theorem dX8_init_47 : decode cX8_init 47 = .ok (.bipush 17, 2) := by decide +kernel
theorem dX8_init_49 : decode cX8_init 49 = .ok (.if_icmp .ge 56, 3) := by decide +kernel
theorem dX8_init_52 : decode cX8_init 52 = .ok (.sipush 256, 3) := by decide +kernel
theorem dX8_init_55 : decode cX8_init 55 = .ok (.iload_n 1, 1) := by decide +kernel
theorem dX8_init_56 : decode cX8_init 56 = .ok (.iadd, 1) := by decide +kernel
theorem dX8_init_57 : decode cX8_init 57 = .ok (.invokestatic 27, 3) := by decide +kernel
theorem dX8_init_60 : decode cX8_init 60 = .ok (.astore_n 2, 1) := by decide +kernel
theorem dX8_init_61 : decode cX8_init 61 = .ok (.lconst 0, 1) := by decide +kernel
theorem dX8_init_62 : decode cX8_init 62 = .ok (.lstore_n 3, 1) := by decide +kernel
theorem dX8_init_63 : decode cX8_init 63 = .ok (.iconst 0, 1) := by decide +kernel
theorem dX8_init_64 : decode cX8_init 64 = .ok (.istore 5, 2) := by decide +kernel
theorem dX8_init_66 : decode cX8_init 66 = .ok (.iload 5, 2) := by decide +kernel
theorem dX8_init_68 : decode cX8_init 68 = .ok (.aload_n 2, 1) := by decide +kernel
theorem dX8_init_69 : decode cX8_init 69 = .ok (.invokevirtual 31, 3) := by decide +kernel
theorem dX8_init_72 : decode cX8_init 72 = .ok (.if_icmp .ge 20, 3) := by decide +kernel
theorem dX8_init_75 : decode cX8_init 75 = .ok (.lload_n 3, 1) := by decide +kernel
theorem dX8_init_76 : decode cX8_init 76 = .ok (.aload_n 2, 1) := by decide +kernel
theorem dX8_init_77 : decode cX8_init 77 = .ok (.iload 5, 2) := by decide +kernel
theorem dX8_init_79 : decode cX8_init 79 = .ok (.invokevirtual 37, 3) := by decide +kernel
theorem dX8_init_82 : decode cX8_init 82 = .ok (.invokestatic 41, 3) := by decide +kernel
theorem dX8_init_85 : decode cX8_init 85 = .ok (.lstore_n 3, 1) := by decide +kernel
theorem dX8_init_86 : decode cX8_init 86 = .ok (.iinc 5 1, 3) := by decide +kernel
theorem dX8_init_89 : decode cX8_init 89 = .ok (.goto (-23), 3) := by decide +kernel
theorem dX8_init_92 : decode cX8_init 92 = .ok (.aload_n 0, 1) := by decide +kernel
theorem dX8_init_93 : decode cX8_init 93 = .ok (.getfield 20, 3) := by decide +kernel
theorem dX8_init_96 : decode cX8_init 96 = .ok (.iload_n 1, 1) := by decide +kernel
theorem dX8_init_97 : decode cX8_init 97 = .ok (.lload_n 3, 1) := by decide +kernel
theorem dX8_init_98 : decode cX8_init 98 = .ok (.lastore, 1) := by decide +kernel
theorem dX8_init_99 : decode cX8_init 99 = .ok (.iinc 1 1, 3) := by decide +kernel
theorem dX8_init_102 : decode cX8_init 102 = .ok (.goto (-56), 3) := by decide +kernel
theorem dX8_init_105 : decode cX8_init 105 = .ok (.return_, 1) := by decide +kernel
theorem dX8_wordText_0 : decode cX8_wordText 0 = .ok (.iload_n 0, 1) := by decide +kernel
theorem dX8_wordText_1 : decode cX8_wordText 1 = .ok (.tableswitch 127 256 271 #[79, 82, 85, 88, 91, 94, 97, 100, 103, 106, 109, 112, 115, 118, 121, 124], 79) := by decide +kernel
theorem dX8_wordText_80 : decode cX8_wordText 80 = .ok (.ldc 45, 2) := by decide +kernel
theorem dX8_wordText_82 : decode cX8_wordText 82 = .ok (.areturn, 1) := by decide +kernel
theorem dX8_wordText_83 : decode cX8_wordText 83 = .ok (.ldc 47, 2) := by decide +kernel
theorem dX8_wordText_85 : decode cX8_wordText 85 = .ok (.areturn, 1) := by decide +kernel
theorem dX8_wordText_86 : decode cX8_wordText 86 = .ok (.ldc 49, 2) := by decide +kernel
theorem dX8_wordText_88 : decode cX8_wordText 88 = .ok (.areturn, 1) := by decide +kernel
theorem dX8_wordText_89 : decode cX8_wordText 89 = .ok (.ldc 51, 2) := by decide +kernel
theorem dX8_wordText_91 : decode cX8_wordText 91 = .ok (.areturn, 1) := by decide +kernel
theorem dX8_wordText_92 : decode cX8_wordText 92 = .ok (.ldc 53, 2) := by decide +kernel
theorem dX8_wordText_94 : decode cX8_wordText 94 = .ok (.areturn, 1) := by decide +kernel
theorem dX8_wordText_95 : decode cX8_wordText 95 = .ok (.ldc 55, 2) := by decide +kernel
theorem dX8_wordText_97 : decode cX8_wordText 97 = .ok (.areturn, 1) := by decide +kernel
theorem dX8_wordText_98 : decode cX8_wordText 98 = .ok (.ldc 57, 2) := by decide +kernel
theorem dX8_wordText_100 : decode cX8_wordText 100 = .ok (.areturn, 1) := by decide +kernel
theorem dX8_wordText_101 : decode cX8_wordText 101 = .ok (.ldc 59, 2) := by decide +kernel
theorem dX8_wordText_103 : decode cX8_wordText 103 = .ok (.areturn, 1) := by decide +kernel
theorem dX8_wordText_104 : decode cX8_wordText 104 = .ok (.ldc 61, 2) := by decide +kernel
theorem dX8_wordText_106 : decode cX8_wordText 106 = .ok (.areturn, 1) := by decide +kernel
theorem dX8_wordText_107 : decode cX8_wordText 107 = .ok (.ldc 63, 2) := by decide +kernel
theorem dX8_wordText_109 : decode cX8_wordText 109 = .ok (.areturn, 1) := by decide +kernel
theorem dX8_wordText_110 : decode cX8_wordText 110 = .ok (.ldc 65, 2) := by decide +kernel
theorem dX8_wordText_112 : decode cX8_wordText 112 = .ok (.areturn, 1) := by decide +kernel
theorem dX8_wordText_113 : decode cX8_wordText 113 = .ok (.ldc 67, 2) := by decide +kernel
theorem dX8_wordText_115 : decode cX8_wordText 115 = .ok (.areturn, 1) := by decide +kernel
theorem dX8_wordText_116 : decode cX8_wordText 116 = .ok (.ldc 69, 2) := by decide +kernel
theorem dX8_wordText_118 : decode cX8_wordText 118 = .ok (.areturn, 1) := by decide +kernel
theorem dX8_wordText_119 : decode cX8_wordText 119 = .ok (.ldc 71, 2) := by decide +kernel
theorem dX8_wordText_121 : decode cX8_wordText 121 = .ok (.areturn, 1) := by decide +kernel
theorem dX8_wordText_122 : decode cX8_wordText 122 = .ok (.ldc 72, 2) := by decide +kernel
theorem dX8_wordText_124 : decode cX8_wordText 124 = .ok (.areturn, 1) := by decide +kernel
theorem dX8_wordText_125 : decode cX8_wordText 125 = .ok (.ldc 74, 2) := by decide +kernel
theorem dX8_wordText_127 : decode cX8_wordText 127 = .ok (.areturn, 1) := by decide +kernel
theorem dX8_wordText_128 : decode cX8_wordText 128 = .ok (.ldc 76, 2) := by decide +kernel
theorem dX8_wordText_130 : decode cX8_wordText 130 = .ok (.areturn, 1) := by decide +kernel
theorem dX8_withLetter_0 : decode cX8_withLetter 0 = .ok (.lload_n 0, 1) := by decide +kernel
theorem dX8_withLetter_1 : decode cX8_withLetter 1 = .ok (.ldc2_w 78, 3) := by decide +kernel
theorem dX8_withLetter_4 : decode cX8_withLetter 4 = .ok (.lmul, 1) := by decide +kernel
theorem dX8_withLetter_5 : decode cX8_withLetter 5 = .ok (.iload_n 2, 1) := by decide +kernel
theorem dX8_withLetter_6 : decode cX8_withLetter 6 = .ok (.bipush 97, 2) := by decide +kernel
theorem dX8_withLetter_8 : decode cX8_withLetter 8 = .ok (.isub, 1) := by decide +kernel
theorem dX8_withLetter_9 : decode cX8_withLetter 9 = .ok (.iconst 1, 1) := by decide +kernel
theorem dX8_withLetter_10 : decode cX8_withLetter 10 = .ok (.iadd, 1) := by decide +kernel
theorem dX8_withLetter_11 : decode cX8_withLetter 11 = .ok (.i2l, 1) := by decide +kernel
theorem dX8_withLetter_12 : decode cX8_withLetter 12 = .ok (.ladd, 1) := by decide +kernel
theorem dX8_withLetter_13 : decode cX8_withLetter 13 = .ok (.lreturn, 1) := by decide +kernel
set_option maxRecDepth 20000 in
theorem ggX8_cut_X8_isBlank : GoodIn wsX8_cut wsX8_isBlank := goodIn_r _ [7] (by decide +kernel) (by decide +kernel)
set_option maxRecDepth 20000 in
theorem gX8_cut_X8_isBlank : GoodIn wsX8_cut (va_wsS RX8 80 yX8_isBlank wsX8_isBlank) := goodIn_app (goodIn_of _ (by decide +kernel)) ggX8_cut_X8_isBlank
set_option maxRecDepth 20000 in
theorem ggX8_cut_X8_cutOne : GoodIn wsX8_cut wsX8_cutOne := goodIn_r _ [11, 12, 13, 6, 14, 15, 16, 17, 18, 19, 20, 21, 22, 23, 24, 25, 26, 27, 28, 29, 30, 31, 1, 2, 3, 32, 33, 34, 35, 36, 37, 38, 39, 40, 41, 42, 43, 44, 45, 46, 47] (by decide +kernel) (by decide +kernel)
set_option maxRecDepth 20000 in
theorem gX8_cut_X8_cutOne : GoodIn wsX8_cut (wsV RX8 84 RX8 yX8_cutOne wsX8_cutOne) := goodIn_app (goodIn_of _ (by decide +kernel)) ggX8_cut_X8_cutOne
theorem dX8_cut_0 : decode cX8_cut 0 = .ok (.aload_n 0, 1) := by decide +kernel
theorem dX8_cut_1 : decode cX8_cut 1 = .ok (.iconst 0, 1) := by decide +kernel
theorem dX8_cut_2 : decode cX8_cut 2 = .ok (.putfield 23, 3) := by decide +kernel
theorem dX8_cut_5 : decode cX8_cut 5 = .ok (.iconst 0, 1) := by decide +kernel
theorem dX8_cut_6 : decode cX8_cut 6 = .ok (.istore_n 3, 1) := by decide +kernel
theorem dX8_cut_7 : decode cX8_cut 7 = .ok (.iconst 0, 1) := by decide +kernel
theorem dX8_cut_8 : decode cX8_cut 8 = .ok (.istore 4, 2) := by decide +kernel
theorem dX8_cut_10 : decode cX8_cut 10 = .ok (.iload 4, 2) := by decide +kernel
theorem dX8_cut_12 : decode cX8_cut 12 = .ok (.iload_n 2, 1) := by decide +kernel
theorem dX8_cut_13 : decode cX8_cut 13 = .ok (.if_icmp .ge 48, 3) := by decide +kernel
theorem dX8_cut_16 : decode cX8_cut 16 = .ok (.aload_n 0, 1) := by decide +kernel
theorem dX8_cut_17 : decode cX8_cut 17 = .ok (.getfield 23, 3) := by decide +kernel
theorem dX8_cut_20 : decode cX8_cut 20 = .ok (.sipush 401, 3) := by decide +kernel
theorem dX8_cut_23 : decode cX8_cut 23 = .ok (.if_icmp .ge 38, 3) := by decide +kernel
theorem dX8_cut_26 : decode cX8_cut 26 = .ok (.aload_n 1, 1) := by decide +kernel
theorem dX8_cut_27 : decode cX8_cut 27 = .ok (.iload 4, 2) := by decide +kernel
theorem dX8_cut_29 : decode cX8_cut 29 = .ok (.baload, 1) := by decide +kernel
theorem dX8_cut_30 : decode cX8_cut 30 = .ok (.istore 5, 2) := by decide +kernel
theorem dX8_cut_32 : decode cX8_cut 32 = .ok (.iload 4, 2) := by decide +kernel
theorem dX8_cut_34 : decode cX8_cut 34 = .ok (.iload_n 3, 1) := by decide +kernel
theorem dX8_cut_35 : decode cX8_cut 35 = .ok (.if_icmp .lt 20, 3) := by decide +kernel
theorem dX8_cut_38 : decode cX8_cut 38 = .ok (.iload 5, 2) := by decide +kernel
theorem dX8_cut_40 : decode cX8_cut 40 = .ok (.invokestatic 80, 3) := by decide +kernel
theorem dX8_cut_43 : decode cX8_cut 43 = .ok (.ifCond .ne 12, 3) := by decide +kernel
theorem dX8_cut_46 : decode cX8_cut 46 = .ok (.aload_n 0, 1) := by decide +kernel
theorem dX8_cut_47 : decode cX8_cut 47 = .ok (.aload_n 1, 1) := by decide +kernel
theorem dX8_cut_48 : decode cX8_cut 48 = .ok (.iload_n 2, 1) := by decide +kernel
theorem dX8_cut_49 : decode cX8_cut 49 = .ok (.iload 4, 2) := by decide +kernel
theorem dX8_cut_51 : decode cX8_cut 51 = .ok (.invokevirtual 84, 3) := by decide +kernel
theorem dX8_cut_54 : decode cX8_cut 54 = .ok (.istore_n 3, 1) := by decide +kernel
theorem dX8_cut_55 : decode cX8_cut 55 = .ok (.iinc 4 1, 3) := by decide +kernel
theorem dX8_cut_58 : decode cX8_cut 58 = .ok (.goto (-48), 3) := by decide +kernel
theorem dX8_cut_61 : decode cX8_cut 61 = .ok (.aload_n 0, 1) := by decide +kernel
theorem dX8_cut_62 : decode cX8_cut 62 = .ok (.getfield 9, 3) := by decide +kernel
theorem dX8_cut_65 : decode cX8_cut 65 = .ok (.aload_n 0, 1) := by decide +kernel
theorem dX8_cut_66 : decode cX8_cut 66 = .ok (.getfield 23, 3) := by decide +kernel
theorem dX8_cut_69 : decode cX8_cut 69 = .ok (.iconst 0, 1) := by decide +kernel
theorem dX8_cut_70 : decode cX8_cut 70 = .ok (.iastore, 1) := by decide +kernel
theorem dX8_cut_71 : decode cX8_cut 71 = .ok (.aload_n 0, 1) := by decide +kernel
theorem dX8_cut_72 : decode cX8_cut 72 = .ok (.getfield 13, 3) := by decide +kernel
theorem dX8_cut_75 : decode cX8_cut 75 = .ok (.aload_n 0, 1) := by decide +kernel
theorem dX8_cut_76 : decode cX8_cut 76 = .ok (.getfield 23, 3) := by decide +kernel
theorem dX8_cut_79 : decode cX8_cut 79 = .ok (.iload_n 2, 1) := by decide +kernel
theorem dX8_cut_80 : decode cX8_cut 80 = .ok (.iastore, 1) := by decide +kernel
theorem dX8_cut_81 : decode cX8_cut 81 = .ok (.return_, 1) := by decide +kernel
set_option maxRecDepth 20000 in
theorem ggX8_cutOne_X8_isLetter : GoodIn wsX8_cutOne wsX8_isLetter := goodIn_r _ [4] (by decide +kernel) (by decide +kernel)
set_option maxRecDepth 20000 in
theorem gX8_cutOne_X8_isLetter : GoodIn wsX8_cutOne (va_wsS RX8 88 yX8_isLetter wsX8_isLetter) := goodIn_app (goodIn_of _ (by decide +kernel)) ggX8_cutOne_X8_isLetter
set_option maxRecDepth 20000 in
theorem ggX8_cutOne_X8_cutName : GoodIn wsX8_cutOne wsX8_cutName := goodIn_r _ [8, 1, 2, 3, 4, 9, 10, 11, 12, 13, 14, 15, 16, 17, 18, 19, 20, 21, 22, 23, 24, 25, 36, 37, 38, 39, 40] (by decide +kernel) (by decide +kernel)
set_option maxRecDepth 20000 in
theorem gX8_cutOne_X8_cutName : GoodIn wsX8_cutOne (wsV RX8 91 RX8 yX8_cutName wsX8_cutName) := goodIn_app (goodIn_of _ (by decide +kernel)) ggX8_cutOne_X8_cutName
set_option maxRecDepth 20000 in
theorem ggX8_cutOne_X8_isDigit : GoodIn wsX8_cutOne wsX8_isDigit := goodIn_r _ [28] (by decide +kernel) (by decide +kernel)
set_option maxRecDepth 20000 in
theorem gX8_cutOne_X8_isDigit : GoodIn wsX8_cutOne (va_wsS RX8 94 yX8_isDigit wsX8_isDigit) := goodIn_app (goodIn_of _ (by decide +kernel)) ggX8_cutOne_X8_isDigit
set_option maxRecDepth 20000 in
theorem ggX8_cutOne_X8_cutInt : GoodIn wsX8_cutOne wsX8_cutInt := goodIn_r _ [32, 26, 27, 3, 28, 18, 19, 20, 21, 22, 23, 24, 25, 36, 37, 38, 39, 40] (by decide +kernel) (by decide +kernel)
set_option maxRecDepth 20000 in
theorem gX8_cutOne_X8_cutInt : GoodIn wsX8_cutOne (wsV RX8 97 RX8 yX8_cutInt wsX8_cutInt) := goodIn_app (goodIn_of _ (by decide +kernel)) ggX8_cutOne_X8_cutInt
set_option maxRecDepth 20000 in
theorem ggX8_cutOne_X8_isSign : GoodIn wsX8_cutOne wsX8_isSign := goodIn_r _ [35] (by decide +kernel) (by decide +kernel)
set_option maxRecDepth 20000 in
theorem gX8_cutOne_X8_isSign : GoodIn wsX8_cutOne (va_wsS RX8 100 yX8_isSign wsX8_isSign) := goodIn_app (goodIn_of _ (by decide +kernel)) ggX8_cutOne_X8_isSign
set_option maxRecDepth 20000 in
theorem ggX8_cutOne_X8_add : GoodIn wsX8_cutOne wsX8_add := goodIn_r _ [21, 22, 23, 24, 25, 36, 37, 38, 39, 40] (by decide +kernel) (by decide +kernel)
set_option maxRecDepth 20000 in
theorem gX8_cutOne_X8_add : GoodIn wsX8_cutOne (wsV RX8 103 RX8 yX8_add wsX8_add) := goodIn_app (goodIn_of _ (by decide +kernel)) ggX8_cutOne_X8_add
theorem dX8_cutOne_0 : decode cX8_cutOne 0 = .ok (.aload_n 1, 1) := by decide +kernel
theorem dX8_cutOne_1 : decode cX8_cutOne 1 = .ok (.iload_n 3, 1) := by decide +kernel
theorem dX8_cutOne_2 : decode cX8_cutOne 2 = .ok (.baload, 1) := by decide +kernel
theorem dX8_cutOne_3 : decode cX8_cutOne 3 = .ok (.istore 4, 2) := by decide +kernel
theorem dX8_cutOne_5 : decode cX8_cutOne 5 = .ok (.iload 4, 2) := by decide +kernel
theorem dX8_cutOne_7 : decode cX8_cutOne 7 = .ok (.invokestatic 88, 3) := by decide +kernel
theorem dX8_cutOne_10 : decode cX8_cutOne 10 = .ok (.ifCond .eq 11, 3) := by decide +kernel
theorem dX8_cutOne_13 : decode cX8_cutOne 13 = .ok (.aload_n 0, 1) := by decide +kernel
theorem dX8_cutOne_14 : decode cX8_cutOne 14 = .ok (.aload_n 1, 1) := by decide +kernel
theorem dX8_cutOne_15 : decode cX8_cutOne 15 = .ok (.iload_n 2, 1) := by decide +kernel
theorem dX8_cutOne_16 : decode cX8_cutOne 16 = .ok (.iload_n 3, 1) := by decide +kernel
theorem dX8_cutOne_17 : decode cX8_cutOne 17 = .ok (.invokevirtual 91, 3) := by decide +kernel
theorem dX8_cutOne_20 : decode cX8_cutOne 20 = .ok (.ireturn, 1) := by decide +kernel
theorem dX8_cutOne_21 : decode cX8_cutOne 21 = .ok (.iload 4, 2) := by decide +kernel
theorem dX8_cutOne_23 : decode cX8_cutOne 23 = .ok (.invokestatic 94, 3) := by decide +kernel
theorem dX8_cutOne_26 : decode cX8_cutOne 26 = .ok (.ifCond .eq 11, 3) := by decide +kernel
theorem dX8_cutOne_29 : decode cX8_cutOne 29 = .ok (.aload_n 0, 1) := by decide +kernel
theorem dX8_cutOne_30 : decode cX8_cutOne 30 = .ok (.aload_n 1, 1) := by decide +kernel
theorem dX8_cutOne_31 : decode cX8_cutOne 31 = .ok (.iload_n 2, 1) := by decide +kernel
theorem dX8_cutOne_32 : decode cX8_cutOne 32 = .ok (.iload_n 3, 1) := by decide +kernel
theorem dX8_cutOne_33 : decode cX8_cutOne 33 = .ok (.invokevirtual 97, 3) := by decide +kernel
theorem dX8_cutOne_36 : decode cX8_cutOne 36 = .ok (.ireturn, 1) := by decide +kernel
theorem dX8_cutOne_37 : decode cX8_cutOne 37 = .ok (.aload_n 0, 1) := by decide +kernel
theorem dX8_cutOne_38 : decode cX8_cutOne 38 = .ok (.iload 4, 2) := by decide +kernel
theorem dX8_cutOne_40 : decode cX8_cutOne 40 = .ok (.invokestatic 100, 3) := by decide +kernel
theorem dX8_cutOne_43 : decode cX8_cutOne 43 = .ok (.ifCond .eq 8, 3) := by decide +kernel
theorem dX8_cutOne_46 : decode cX8_cutOne 46 = .ok (.iload 4, 2) := by decide +kernel
theorem dX8_cutOne_48 : decode cX8_cutOne 48 = .ok (.goto 4, 3) := by decide +kernel
theorem dX8_cutOne_51 : decode cX8_cutOne 51 = .ok (.iconst 1, 1) := by decide +kernel
theorem dX8_cutOne_52 : decode cX8_cutOne 52 = .ok (.iload_n 3, 1) := by decide +kernel
theorem dX8_cutOne_53 : decode cX8_cutOne 53 = .ok (.lconst 0, 1) := by decide +kernel
theorem dX8_cutOne_54 : decode cX8_cutOne 54 = .ok (.invokevirtual 103, 3) := by decide +kernel
theorem dX8_cutOne_57 : decode cX8_cutOne 57 = .ok (.iload_n 3, 1) := by decide +kernel
theorem dX8_cutOne_58 : decode cX8_cutOne 58 = .ok (.iconst 1, 1) := by decide +kernel
theorem dX8_cutOne_59 : decode cX8_cutOne 59 = .ok (.iadd, 1) := by decide +kernel
theorem dX8_cutOne_60 : decode cX8_cutOne 60 = .ok (.ireturn, 1) := by decide +kernel
theorem dX8_isBlank_0 : decode cX8_isBlank 0 = .ok (.iload_n 0, 1) := by decide +kernel
theorem dX8_isBlank_1 : decode cX8_isBlank 1 = .ok (.bipush 9, 2) := by decide +kernel
theorem dX8_isBlank_3 : decode cX8_isBlank 3 = .ok (.if_icmp .eq 21, 3) := by decide +kernel
theorem dX8_isBlank_6 : decode cX8_isBlank 6 = .ok (.iload_n 0, 1) := by decide +kernel
theorem dX8_isBlank_7 : decode cX8_isBlank 7 = .ok (.bipush 10, 2) := by decide +kernel
theorem dX8_isBlank_9 : decode cX8_isBlank 9 = .ok (.if_icmp .eq 15, 3) := by decide +kernel
theorem dX8_isBlank_12 : decode cX8_isBlank 12 = .ok (.iload_n 0, 1) := by decide +kernel
theorem dX8_isBlank_13 : decode cX8_isBlank 13 = .ok (.bipush 13, 2) := by decide +kernel
theorem dX8_isBlank_15 : decode cX8_isBlank 15 = .ok (.if_icmp .eq 9, 3) := by decide +kernel
theorem dX8_isBlank_18 : decode cX8_isBlank 18 = .ok (.iload_n 0, 1) := by decide +kernel
theorem dX8_isBlank_19 : decode cX8_isBlank 19 = .ok (.bipush 32, 2) := by decide +kernel
theorem dX8_isBlank_21 : decode cX8_isBlank 21 = .ok (.if_icmp .ne 7, 3) := by decide +kernel
theorem dX8_isBlank_24 : decode cX8_isBlank 24 = .ok (.iconst 1, 1) := by decide +kernel
theorem dX8_isBlank_25 : decode cX8_isBlank 25 = .ok (.goto 4, 3) := by decide +kernel
theorem dX8_isBlank_28 : decode cX8_isBlank 28 = .ok (.iconst 0, 1) := by decide +kernel
theorem dX8_isBlank_29 : decode cX8_isBlank 29 = .ok (.ireturn, 1) := by decide +kernel
theorem dX8_isLetter_0 : decode cX8_isLetter 0 = .ok (.iload_n 0, 1) := by decide +kernel
theorem dX8_isLetter_1 : decode cX8_isLetter 1 = .ok (.bipush 97, 2) := by decide +kernel
theorem dX8_isLetter_3 : decode cX8_isLetter 3 = .ok (.if_icmp .lt 13, 3) := by decide +kernel
theorem dX8_isLetter_6 : decode cX8_isLetter 6 = .ok (.iload_n 0, 1) := by decide +kernel
theorem dX8_isLetter_7 : decode cX8_isLetter 7 = .ok (.bipush 122, 2) := by decide +kernel
theorem dX8_isLetter_9 : decode cX8_isLetter 9 = .ok (.if_icmp .gt 7, 3) := by decide +kernel
theorem dX8_isLetter_12 : decode cX8_isLetter 12 = .ok (.iconst 1, 1) := by decide +kernel
theorem dX8_isLetter_13 : decode cX8_isLetter 13 = .ok (.goto 4, 3) := by decide +kernel
theorem dX8_isLetter_16 : decode cX8_isLetter 16 = .ok (.iconst 0, 1) := by decide +kernel
theorem dX8_isLetter_17 : decode cX8_isLetter 17 = .ok (.ireturn, 1) := by decide +kernel
theorem dX8_isDigit_0 : decode cX8_isDigit 0 = .ok (.iload_n 0, 1) := by decide +kernel
theorem dX8_isDigit_1 : decode cX8_isDigit 1 = .ok (.bipush 48, 2) := by decide +kernel
theorem dX8_isDigit_3 : decode cX8_isDigit 3 = .ok (.if_icmp .lt 13, 3) := by decide +kernel
theorem dX8_isDigit_6 : decode cX8_isDigit 6 = .ok (.iload_n 0, 1) := by decide +kernel
theorem dX8_isDigit_7 : decode cX8_isDigit 7 = .ok (.bipush 57, 2) := by decide +kernel
theorem dX8_isDigit_9 : decode cX8_isDigit 9 = .ok (.if_icmp .gt 7, 3) := by decide +kernel
theorem dX8_isDigit_12 : decode cX8_isDigit 12 = .ok (.iconst 1, 1) := by decide +kernel
theorem dX8_isDigit_13 : decode cX8_isDigit 13 = .ok (.goto 4, 3) := by decide +kernel
theorem dX8_isDigit_16 : decode cX8_isDigit 16 = .ok (.iconst 0, 1) := by decide +kernel
theorem dX8_isDigit_17 : decode cX8_isDigit 17 = .ok (.ireturn, 1) := by decide +kernel
theorem dX8_isSign_0 : decode cX8_isSign 0 = .ok (.iload_n 0, 1) := by decide +kernel
theorem dX8_isSign_1 : decode cX8_isSign 1 = .ok (.tableswitch 105 40 61 #[103, 103, 103, 103, 105, 103, 105, 103, 105, 105, 105, 105, 105, 105, 105, 105, 105, 105, 105, 103, 103, 103], 103) := by decide +kernel
theorem dX8_isSign_104 : decode cX8_isSign 104 = .ok (.iconst 1, 1) := by decide +kernel
theorem dX8_isSign_105 : decode cX8_isSign 105 = .ok (.ireturn, 1) := by decide +kernel
theorem dX8_isSign_106 : decode cX8_isSign 106 = .ok (.iconst 0, 1) := by decide +kernel
theorem dX8_isSign_107 : decode cX8_isSign 107 = .ok (.ireturn, 1) := by decide +kernel
theorem dX8_add_0 : decode cX8_add 0 = .ok (.aload_n 0, 1) := by decide +kernel
theorem dX8_add_1 : decode cX8_add 1 = .ok (.getfield 23, 3) := by decide +kernel
theorem dX8_add_4 : decode cX8_add 4 = .ok (.sipush 401, 3) := by decide +kernel
theorem dX8_add_7 : decode cX8_add 7 = .ok (.if_icmp .ge 43, 3) := by decide +kernel
theorem dX8_add_10 : decode cX8_add 10 = .ok (.aload_n 0, 1) := by decide +kernel
theorem dX8_add_11 : decode cX8_add 11 = .ok (.getfield 9, 3) := by decide +kernel
theorem dX8_add_14 : decode cX8_add 14 = .ok (.aload_n 0, 1) := by decide +kernel
theorem dX8_add_15 : decode cX8_add 15 = .ok (.getfield 23, 3) := by decide +kernel
theorem dX8_add_18 : decode cX8_add 18 = .ok (.iload_n 1, 1) := by decide +kernel
theorem dX8_add_19 : decode cX8_add 19 = .ok (.iastore, 1) := by decide +kernel
theorem dX8_add_20 : decode cX8_add 20 = .ok (.aload_n 0, 1) := by decide +kernel
theorem dX8_add_21 : decode cX8_add 21 = .ok (.getfield 13, 3) := by decide +kernel
theorem dX8_add_24 : decode cX8_add 24 = .ok (.aload_n 0, 1) := by decide +kernel
theorem dX8_add_25 : decode cX8_add 25 = .ok (.getfield 23, 3) := by decide +kernel
theorem dX8_add_28 : decode cX8_add 28 = .ok (.iload_n 2, 1) := by decide +kernel
theorem dX8_add_29 : decode cX8_add 29 = .ok (.iastore, 1) := by decide +kernel
theorem dX8_add_30 : decode cX8_add 30 = .ok (.aload_n 0, 1) := by decide +kernel
theorem dX8_add_31 : decode cX8_add 31 = .ok (.getfield 16, 3) := by decide +kernel
theorem dX8_add_34 : decode cX8_add 34 = .ok (.aload_n 0, 1) := by decide +kernel
theorem dX8_add_35 : decode cX8_add 35 = .ok (.getfield 23, 3) := by decide +kernel
theorem dX8_add_38 : decode cX8_add 38 = .ok (.lload_n 3, 1) := by decide +kernel
theorem dX8_add_39 : decode cX8_add 39 = .ok (.lastore, 1) := by decide +kernel
theorem dX8_add_40 : decode cX8_add 40 = .ok (.aload_n 0, 1) := by decide +kernel
theorem dX8_add_41 : decode cX8_add 41 = .ok (.dup, 1) := by decide +kernel
theorem dX8_add_42 : decode cX8_add 42 = .ok (.getfield 23, 3) := by decide +kernel
theorem dX8_add_45 : decode cX8_add 45 = .ok (.iconst 1, 1) := by decide +kernel
theorem dX8_add_46 : decode cX8_add 46 = .ok (.iadd, 1) := by decide +kernel
theorem dX8_add_47 : decode cX8_add 47 = .ok (.putfield 23, 3) := by decide +kernel
theorem dX8_add_50 : decode cX8_add 50 = .ok (.return_, 1) := by decide +kernel
set_option maxRecDepth 20000 in
theorem ggX8_cutName_X8_isLetter : GoodIn wsX8_cutName wsX8_isLetter := goodIn_r _ [4] (by decide +kernel) (by decide +kernel)
set_option maxRecDepth 20000 in
theorem gX8_cutName_X8_isLetter : GoodIn wsX8_cutName (va_wsS RX8 88 yX8_isLetter wsX8_isLetter) := goodIn_app (goodIn_of _ (by decide +kernel)) ggX8_cutName_X8_isLetter
set_option maxRecDepth 20000 in
theorem ggX8_cutName_X8_withLetter : GoodIn wsX8_cutName wsX8_withLetter := goodIn_r _ [7, 8] (by decide +kernel) (by decide +kernel)
set_option maxRecDepth 20000 in
theorem gX8_cutName_X8_withLetter : GoodIn wsX8_cutName (va_wsS RX8 41 yX8_withLetter wsX8_withLetter) := goodIn_app (goodIn_of _ (by decide +kernel)) ggX8_cutName_X8_withLetter
set_option maxRecDepth 20000 in
theorem ggX8_cutName_X8_kindOf : GoodIn wsX8_cutName wsX8_kindOf := goodIn_r _ [12, 13, 22, 23, 24, 25, 26] (by decide +kernel) (by decide +kernel)
set_option maxRecDepth 20000 in
theorem gX8_cutName_X8_kindOf : GoodIn wsX8_cutName (wsV RX8 107 RX8 yX8_kindOf wsX8_kindOf) := goodIn_app (goodIn_of _ (by decide +kernel)) ggX8_cutName_X8_kindOf
set_option maxRecDepth 20000 in
theorem ggX8_cutName_X8_add : GoodIn wsX8_cutName wsX8_add := goodIn_r _ [17, 18, 19, 20, 21, 22, 23, 24, 25, 26] (by decide +kernel) (by decide +kernel)
set_option maxRecDepth 20000 in
theorem gX8_cutName_X8_add : GoodIn wsX8_cutName (wsV RX8 103 RX8 yX8_add wsX8_add) := goodIn_app (goodIn_of _ (by decide +kernel)) ggX8_cutName_X8_add
theorem dX8_cutName_0 : decode cX8_cutName 0 = .ok (.iload_n 3, 1) := by decide +kernel
theorem dX8_cutName_1 : decode cX8_cutName 1 = .ok (.istore 4, 2) := by decide +kernel
theorem dX8_cutName_3 : decode cX8_cutName 3 = .ok (.lconst 0, 1) := by decide +kernel
theorem dX8_cutName_4 : decode cX8_cutName 4 = .ok (.lstore 5, 2) := by decide +kernel
theorem dX8_cutName_6 : decode cX8_cutName 6 = .ok (.iload 4, 2) := by decide +kernel
theorem dX8_cutName_8 : decode cX8_cutName 8 = .ok (.iload_n 2, 1) := by decide +kernel
theorem dX8_cutName_9 : decode cX8_cutName 9 = .ok (.if_icmp .ge 30, 3) := by decide +kernel
theorem dX8_cutName_12 : decode cX8_cutName 12 = .ok (.aload_n 1, 1) := by decide +kernel
theorem dX8_cutName_13 : decode cX8_cutName 13 = .ok (.iload 4, 2) := by decide +kernel
theorem dX8_cutName_15 : decode cX8_cutName 15 = .ok (.baload, 1) := by decide +kernel
theorem dX8_cutName_16 : decode cX8_cutName 16 = .ok (.invokestatic 88, 3) := by decide +kernel
theorem dX8_cutName_19 : decode cX8_cutName 19 = .ok (.ifCond .eq 20, 3) := by decide +kernel
theorem dX8_cutName_22 : decode cX8_cutName 22 = .ok (.lload 5, 2) := by decide +kernel
theorem dX8_cutName_24 : decode cX8_cutName 24 = .ok (.aload_n 1, 1) := by decide +kernel
theorem dX8_cutName_25 : decode cX8_cutName 25 = .ok (.iload 4, 2) := by decide +kernel
theorem dX8_cutName_27 : decode cX8_cutName 27 = .ok (.baload, 1) := by decide +kernel
theorem dX8_cutName_28 : decode cX8_cutName 28 = .ok (.invokestatic 41, 3) := by decide +kernel
theorem dX8_cutName_31 : decode cX8_cutName 31 = .ok (.lstore 5, 2) := by decide +kernel
theorem dX8_cutName_33 : decode cX8_cutName 33 = .ok (.iinc 4 1, 3) := by decide +kernel
theorem dX8_cutName_36 : decode cX8_cutName 36 = .ok (.goto (-30), 3) := by decide +kernel
theorem dX8_cutName_39 : decode cX8_cutName 39 = .ok (.aload_n 0, 1) := by decide +kernel
theorem dX8_cutName_40 : decode cX8_cutName 40 = .ok (.iload 4, 2) := by decide +kernel
theorem dX8_cutName_42 : decode cX8_cutName 42 = .ok (.iload_n 3, 1) := by decide +kernel
theorem dX8_cutName_43 : decode cX8_cutName 43 = .ok (.isub, 1) := by decide +kernel
theorem dX8_cutName_44 : decode cX8_cutName 44 = .ok (.bipush 8, 2) := by decide +kernel
theorem dX8_cutName_46 : decode cX8_cutName 46 = .ok (.if_icmp .le 7, 3) := by decide +kernel
theorem dX8_cutName_49 : decode cX8_cutName 49 = .ok (.iconst 1, 1) := by decide +kernel
theorem dX8_cutName_50 : decode cX8_cutName 50 = .ok (.goto 9, 3) := by decide +kernel
theorem dX8_cutName_53 : decode cX8_cutName 53 = .ok (.aload_n 0, 1) := by decide +kernel
theorem dX8_cutName_54 : decode cX8_cutName 54 = .ok (.lload 5, 2) := by decide +kernel
theorem dX8_cutName_56 : decode cX8_cutName 56 = .ok (.invokevirtual 107, 3) := by decide +kernel
theorem dX8_cutName_59 : decode cX8_cutName 59 = .ok (.iload_n 3, 1) := by decide +kernel
theorem dX8_cutName_60 : decode cX8_cutName 60 = .ok (.lload 5, 2) := by decide +kernel
theorem dX8_cutName_62 : decode cX8_cutName 62 = .ok (.invokevirtual 103, 3) := by decide +kernel
theorem dX8_cutName_65 : decode cX8_cutName 65 = .ok (.iload 4, 2) := by decide +kernel
theorem dX8_cutName_67 : decode cX8_cutName 67 = .ok (.ireturn, 1) := by decide +kernel
theorem dX8_kindOf_0 : decode cX8_kindOf 0 = .ok (.iconst 0, 1) := by decide +kernel
theorem dX8_kindOf_1 : decode cX8_kindOf 1 = .ok (.istore_n 3, 1) := by decide +kernel
theorem dX8_kindOf_2 : decode cX8_kindOf 2 = .ok (.iload_n 3, 1) := by decide +kernel
theorem dX8_kindOf_3 : decode cX8_kindOf 3 = .ok (.bipush 17, 2) := by decide +kernel
theorem dX8_kindOf_5 : decode cX8_kindOf 5 = .ok (.if_icmp .ge 26, 3) := by decide +kernel
theorem dX8_kindOf_8 : decode cX8_kindOf 8 = .ok (.aload_n 0, 1) := by decide +kernel
theorem dX8_kindOf_9 : decode cX8_kindOf 9 = .ok (.getfield 20, 3) := by decide +kernel
theorem dX8_kindOf_12 : decode cX8_kindOf 12 = .ok (.iload_n 3, 1) := by decide +kernel
theorem dX8_kindOf_13 : decode cX8_kindOf 13 = .ok (.laload, 1) := by decide +kernel
theorem dX8_kindOf_14 : decode cX8_kindOf 14 = .ok (.lload_n 1, 1) := by decide +kernel
theorem dX8_kindOf_15 : decode cX8_kindOf 15 = .ok (.lcmp, 1) := by decide +kernel
theorem dX8_kindOf_16 : decode cX8_kindOf 16 = .ok (.ifCond .ne 9, 3) := by decide +kernel
theorem dX8_kindOf_19 : decode cX8_kindOf 19 = .ok (.sipush 256, 3) := by decide +kernel
theorem dX8_kindOf_22 : decode cX8_kindOf 22 = .ok (.iload_n 3, 1) := by decide +kernel
theorem dX8_kindOf_23 : decode cX8_kindOf 23 = .ok (.iadd, 1) := by decide +kernel
theorem dX8_kindOf_24 : decode cX8_kindOf 24 = .ok (.ireturn, 1) := by decide +kernel
theorem dX8_kindOf_25 : decode cX8_kindOf 25 = .ok (.iinc 3 1, 3) := by decide +kernel
theorem dX8_kindOf_28 : decode cX8_kindOf 28 = .ok (.goto (-26), 3) := by decide +kernel
theorem dX8_kindOf_31 : decode cX8_kindOf 31 = .ok (.iconst 2, 1) := by decide +kernel
theorem dX8_kindOf_32 : decode cX8_kindOf 32 = .ok (.ireturn, 1) := by decide +kernel
set_option maxRecDepth 20000 in
theorem ggX8_cutInt_X8_isDigit : GoodIn wsX8_cutInt wsX8_isDigit := goodIn_r _ [4] (by decide +kernel) (by decide +kernel)
set_option maxRecDepth 20000 in
theorem gX8_cutInt_X8_isDigit : GoodIn wsX8_cutInt (va_wsS RX8 94 yX8_isDigit wsX8_isDigit) := goodIn_app (goodIn_of _ (by decide +kernel)) ggX8_cutInt_X8_isDigit
set_option maxRecDepth 20000 in
theorem ggX8_cutInt_X8_add : GoodIn wsX8_cutInt wsX8_add := goodIn_r _ [8, 9, 10, 11, 12, 13, 14, 15, 16, 17] (by decide +kernel) (by decide +kernel)
set_option maxRecDepth 20000 in
theorem gX8_cutInt_X8_add : GoodIn wsX8_cutInt (wsV RX8 103 RX8 yX8_add wsX8_add) := goodIn_app (goodIn_of _ (by decide +kernel)) ggX8_cutInt_X8_add
theorem dX8_cutInt_0 : decode cX8_cutInt 0 = .ok (.iload_n 3, 1) := by decide +kernel
theorem dX8_cutInt_1 : decode cX8_cutInt 1 = .ok (.istore 4, 2) := by decide +kernel
theorem dX8_cutInt_3 : decode cX8_cutInt 3 = .ok (.iconst 0, 1) := by decide +kernel
theorem dX8_cutInt_4 : decode cX8_cutInt 4 = .ok (.istore 5, 2) := by decide +kernel
theorem dX8_cutInt_6 : decode cX8_cutInt 6 = .ok (.iload 4, 2) := by decide +kernel
theorem dX8_cutInt_8 : decode cX8_cutInt 8 = .ok (.iload_n 2, 1) := by decide +kernel
theorem dX8_cutInt_9 : decode cX8_cutInt 9 = .ok (.if_icmp .ge 34, 3) := by decide +kernel
theorem dX8_cutInt_12 : decode cX8_cutInt 12 = .ok (.aload_n 1, 1) := by decide +kernel
theorem dX8_cutInt_13 : decode cX8_cutInt 13 = .ok (.iload 4, 2) := by decide +kernel
theorem dX8_cutInt_15 : decode cX8_cutInt 15 = .ok (.baload, 1) := by decide +kernel
theorem dX8_cutInt_16 : decode cX8_cutInt 16 = .ok (.invokestatic 94, 3) := by decide +kernel
theorem dX8_cutInt_19 : decode cX8_cutInt 19 = .ok (.ifCond .eq 24, 3) := by decide +kernel
theorem dX8_cutInt_22 : decode cX8_cutInt 22 = .ok (.iload 5, 2) := by decide +kernel
theorem dX8_cutInt_24 : decode cX8_cutInt 24 = .ok (.bipush 10, 2) := by decide +kernel
theorem dX8_cutInt_26 : decode cX8_cutInt 26 = .ok (.imul, 1) := by decide +kernel
theorem dX8_cutInt_27 : decode cX8_cutInt 27 = .ok (.aload_n 1, 1) := by decide +kernel
theorem dX8_cutInt_28 : decode cX8_cutInt 28 = .ok (.iload 4, 2) := by decide +kernel
theorem dX8_cutInt_30 : decode cX8_cutInt 30 = .ok (.baload, 1) := by decide +kernel
theorem dX8_cutInt_31 : decode cX8_cutInt 31 = .ok (.bipush 48, 2) := by decide +kernel
theorem dX8_cutInt_33 : decode cX8_cutInt 33 = .ok (.isub, 1) := by decide +kernel
theorem dX8_cutInt_34 : decode cX8_cutInt 34 = .ok (.iadd, 1) := by decide +kernel
theorem dX8_cutInt_35 : decode cX8_cutInt 35 = .ok (.istore 5, 2) := by decide +kernel
theorem dX8_cutInt_37 : decode cX8_cutInt 37 = .ok (.iinc 4 1, 3) := by decide +kernel
theorem dX8_cutInt_40 : decode cX8_cutInt 40 = .ok (.goto (-34), 3) := by decide +kernel
theorem dX8_cutInt_43 : decode cX8_cutInt 43 = .ok (.aload_n 0, 1) := by decide +kernel
theorem dX8_cutInt_44 : decode cX8_cutInt 44 = .ok (.iload 4, 2) := by decide +kernel
theorem dX8_cutInt_46 : decode cX8_cutInt 46 = .ok (.iload_n 3, 1) := by decide +kernel
theorem dX8_cutInt_47 : decode cX8_cutInt 47 = .ok (.isub, 1) := by decide +kernel
theorem dX8_cutInt_48 : decode cX8_cutInt 48 = .ok (.iconst 4, 1) := by decide +kernel
theorem dX8_cutInt_49 : decode cX8_cutInt 49 = .ok (.if_icmp .le 7, 3) := by decide +kernel
theorem dX8_cutInt_52 : decode cX8_cutInt 52 = .ok (.iconst 1, 1) := by decide +kernel
theorem dX8_cutInt_53 : decode cX8_cutInt 53 = .ok (.goto 4, 3) := by decide +kernel
theorem dX8_cutInt_56 : decode cX8_cutInt 56 = .ok (.iconst 3, 1) := by decide +kernel
theorem dX8_cutInt_57 : decode cX8_cutInt 57 = .ok (.iload_n 3, 1) := by decide +kernel
theorem dX8_cutInt_58 : decode cX8_cutInt 58 = .ok (.iload 5, 2) := by decide +kernel
theorem dX8_cutInt_60 : decode cX8_cutInt 60 = .ok (.i2l, 1) := by decide +kernel
theorem dX8_cutInt_61 : decode cX8_cutInt 61 = .ok (.invokevirtual 103, 3) := by decide +kernel
theorem dX8_cutInt_64 : decode cX8_cutInt 64 = .ok (.iload 4, 2) := by decide +kernel
theorem dX8_cutInt_66 : decode cX8_cutInt 66 = .ok (.ireturn, 1) := by decide +kernel
