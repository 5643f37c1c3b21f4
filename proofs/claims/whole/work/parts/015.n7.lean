set_option maxRecDepth 20000 in
theorem ggX7_init_X4_init : GoodIn wsX7_init wsX4_init := goodIn_r _ [19, 20, 2, 3, 21, 22, 23, 24, 25, 26, 27, 28, 29, 30, 31, 32, 33, 34, 35, 66, 67, 68, 69, 70, 71, 83, 84] (by decide +kernel) (by decide +kernel)
set_option maxRecDepth 20000 in
theorem gX7_init_X4_init_n17 : GoodIn wsX7_init (wsX4_init) := ggX7_init_X4_init
set_option maxRecDepth 20000 in
theorem ggX7_init_X1_init : GoodIn wsX7_init wsX1_init := goodIn_r _ [38, 39, 2, 3, 40, 41, 42, 43, 44, 45, 46, 47, 48, 49, 50, 51, 85, 86, 72, 73, 74, 75] (by decide +kernel) (by decide +kernel)
set_option maxRecDepth 20000 in
theorem gX7_init_X1_init : GoodIn wsX7_init (wsX1_init) := ggX7_init_X1_init
set_option maxRecDepth 20000 in
theorem ggX7_init_X0_init : GoodIn wsX7_init wsX0_init := goodIn_r _ [54, 55, 2, 3, 56, 41, 42, 57, 58, 59, 60, 47, 48, 49, 50, 51, 85, 86, 76, 77, 78, 79, 80, 81, 82] (by decide +kernel) (by decide +kernel)
set_option maxRecDepth 20000 in
theorem gX7_init_X0_init : GoodIn wsX7_init (wsX0_init) := ggX7_init_X0_init
theorem dX7_init_0 : decode cX7_init 0 = .ok (.aload_n 0, 1) := by decide +kernel
theorem dX7_init_1 : decode cX7_init 1 = .ok (.invokespecial 3, 3) := by decide +kernel
theorem dX7_init_4 : decode cX7_init 4 = .ok (.aload_n 0, 1) := by decide +kernel
theorem dX7_init_5 : decode cX7_init 5 = .ok (.bipush 10, 2) := by decide +kernel
theorem dX7_init_7 : decode cX7_init 7 = .ok (.anewarray 9, 3) := by decide +kernel
theorem dX7_init_10 : decode cX7_init 10 = .ok (.putfield 11, 3) := by decide +kernel
theorem dX7_init_13 : decode cX7_init 13 = .ok (.aload_n 0, 1) := by decide +kernel
theorem dX7_init_14 : decode cX7_init 14 = .ok (.new 15, 3) := by decide +kernel
theorem dX7_init_17 : decode cX7_init 17 = .ok (.dup, 1) := by decide +kernel
theorem dX7_init_18 : decode cX7_init 18 = .ok (.invokespecial 17, 3) := by decide +kernel
theorem dX7_init_21 : decode cX7_init 21 = .ok (.putfield 18, 3) := by decide +kernel
theorem dX7_init_24 : decode cX7_init 24 = .ok (.aload_n 0, 1) := by decide +kernel
theorem dX7_init_25 : decode cX7_init 25 = .ok (.new 22, 3) := by decide +kernel
theorem dX7_init_28 : decode cX7_init 28 = .ok (.dup, 1) := by decide +kernel
theorem dX7_init_29 : decode cX7_init 29 = .ok (.aload_n 0, 1) := by decide +kernel
theorem dX7_init_30 : decode cX7_init 30 = .ok (.getfield 18, 3) := by decide +kernel
theorem dX7_init_33 : decode cX7_init 33 = .ok (.invokespecial 24, 3) := by decide +kernel
theorem dX7_init_36 : decode cX7_init 36 = .ok (.putfield 27, 3) := by decide +kernel
theorem dX7_init_39 : decode cX7_init 39 = .ok (.aload_n 0, 1) := by decide +kernel
theorem dX7_init_40 : decode cX7_init 40 = .ok (.new 31, 3) := by decide +kernel
theorem dX7_init_43 : decode cX7_init 43 = .ok (.dup, 1) := by decide +kernel
theorem dX7_init_44 : decode cX7_init 44 = .ok (.aload_n 0, 1) := by decide +kernel
theorem dX7_init_45 : decode cX7_init 45 = .ok (.getfield 18, 3) := by decide +kernel
theorem dX7_init_48 : decode cX7_init 48 = .ok (.aload_n 0, 1) := by decide +kernel
theorem dX7_init_49 : decode cX7_init 49 = .ok (.getfield 27, 3) := by decide +kernel
theorem dX7_init_52 : decode cX7_init 52 = .ok (.invokespecial 33, 3) := by decide +kernel
theorem dX7_init_55 : decode cX7_init 55 = .ok (.putfield 36, 3) := by decide +kernel
theorem dX7_init_58 : decode cX7_init 58 = .ok (.return_, 1) := by decide +kernel
set_option maxRecDepth 20000 in
theorem ggX7_type_X2_init : GoodIn wsX7_type wsX2_init := goodIn_r _ [11, 12, 13, 14, 15, 16, 17, 18, 24, 25, 26, 27] (by decide +kernel) (by decide +kernel)
set_option maxRecDepth 20000 in
theorem gX7_type_X2_init : GoodIn wsX7_type (wsX2_init) := ggX7_type_X2_init
theorem dX7_type_0 : decode cX7_type 0 = .ok (.iload_n 1, 1) := by decide +kernel
theorem dX7_type_1 : decode cX7_type 1 = .ok (.ifCond .lt 9, 3) := by decide +kernel
theorem dX7_type_4 : decode cX7_type 4 = .ok (.iload_n 1, 1) := by decide +kernel
theorem dX7_type_5 : decode cX7_type 5 = .ok (.bipush 10, 2) := by decide +kernel
theorem dX7_type_7 : decode cX7_type 7 = .ok (.if_icmp .lt 13, 3) := by decide +kernel
theorem dX7_type_10 : decode cX7_type 10 = .ok (.new 40, 3) := by decide +kernel
theorem dX7_type_13 : decode cX7_type 13 = .ok (.dup, 1) := by decide +kernel
theorem dX7_type_14 : decode cX7_type 14 = .ok (.ldc 42, 2) := by decide +kernel
theorem dX7_type_16 : decode cX7_type 16 = .ok (.invokespecial 44, 3) := by decide +kernel
theorem dX7_type_19 : decode cX7_type 19 = .ok (.athrow, 1) := by decide +kernel
theorem dX7_type_20 : decode cX7_type 20 = .ok (.iload_n 2, 1) := by decide +kernel
theorem dX7_type_21 : decode cX7_type 21 = .ok (.ifCond .lt 19, 3) := by decide +kernel
theorem dX7_type_24 : decode cX7_type 24 = .ok (.iload_n 2, 1) := by decide +kernel
theorem dX7_type_25 : decode cX7_type 25 = .ok (.bipush 6, 2) := by decide +kernel
theorem dX7_type_27 : decode cX7_type 27 = .ok (.if_icmp .gt 13, 3) := by decide +kernel
theorem dX7_type_30 : decode cX7_type 30 = .ok (.iload_n 3, 1) := by decide +kernel
theorem dX7_type_31 : decode cX7_type 31 = .ok (.ifCond .lt 9, 3) := by decide +kernel
theorem dX7_type_34 : decode cX7_type 34 = .ok (.iload_n 3, 1) := by decide +kernel
theorem dX7_type_35 : decode cX7_type 35 = .ok (.bipush 60, 2) := by decide +kernel
theorem dX7_type_37 : decode cX7_type 37 = .ok (.if_icmp .le 13, 3) := by decide +kernel
theorem dX7_type_40 : decode cX7_type 40 = .ok (.new 47, 3) := by decide +kernel
theorem dX7_type_43 : decode cX7_type 43 = .ok (.dup, 1) := by decide +kernel
theorem dX7_type_44 : decode cX7_type 44 = .ok (.ldc 49, 2) := by decide +kernel
theorem dX7_type_46 : decode cX7_type 46 = .ok (.invokespecial 51, 3) := by decide +kernel
theorem dX7_type_49 : decode cX7_type 49 = .ok (.athrow, 1) := by decide +kernel
theorem dX7_type_50 : decode cX7_type 50 = .ok (.aload_n 0, 1) := by decide +kernel
theorem dX7_type_51 : decode cX7_type 51 = .ok (.getfield 11, 3) := by decide +kernel
theorem dX7_type_54 : decode cX7_type 54 = .ok (.iload_n 1, 1) := by decide +kernel
theorem dX7_type_55 : decode cX7_type 55 = .ok (.aaload, 1) := by decide +kernel
theorem dX7_type_56 : decode cX7_type 56 = .ok (.ifnull 5, 3) := by decide +kernel
theorem dX7_type_59 : decode cX7_type 59 = .ok (.iconst 0, 1) := by decide +kernel
theorem dX7_type_60 : decode cX7_type 60 = .ok (.ireturn, 1) := by decide +kernel
theorem dX7_type_61 : decode cX7_type 61 = .ok (.aload_n 0, 1) := by decide +kernel
theorem dX7_type_62 : decode cX7_type 62 = .ok (.getfield 11, 3) := by decide +kernel
theorem dX7_type_65 : decode cX7_type 65 = .ok (.iload_n 1, 1) := by decide +kernel
theorem dX7_type_66 : decode cX7_type 66 = .ok (.new 9, 3) := by decide +kernel
theorem dX7_type_69 : decode cX7_type 69 = .ok (.dup, 1) := by decide +kernel
theorem dX7_type_70 : decode cX7_type 70 = .ok (.iload_n 1, 1) := by decide +kernel
theorem dX7_type_71 : decode cX7_type 71 = .ok (.iload_n 2, 1) := by decide +kernel
theorem dX7_type_72 : decode cX7_type 72 = .ok (.iconst 2, 1) := by decide +kernel
theorem dX7_type_73 : decode cX7_type 73 = .ok (.iload_n 2, 1) := by decide +kernel
theorem dX7_type_74 : decode cX7_type 74 = .ok (.iadd, 1) := by decide +kernel
theorem dX7_type_75 : decode cX7_type 75 = .ok (.iload_n 3, 1) := by decide +kernel
theorem dX7_type_76 : decode cX7_type 76 = .ok (.iadd, 1) := by decide +kernel
theorem dX7_type_77 : decode cX7_type 77 = .ok (.iload 4, 2) := by decide +kernel
theorem dX7_type_79 : decode cX7_type 79 = .ok (.invokespecial 52, 3) := by decide +kernel
theorem dX7_type_82 : decode cX7_type 82 = .ok (.aastore, 1) := by decide +kernel
theorem dX7_type_83 : decode cX7_type 83 = .ok (.iconst 1, 1) := by decide +kernel
theorem dX7_type_84 : decode cX7_type 84 = .ok (.ireturn, 1) := by decide +kernel
set_option maxRecDepth 20000 in
theorem ggX7_make_X4_hasRoomFor : GoodIn wsX7_make wsX4_hasRoomFor := goodIn_r _ [10, 11, 12, 13, 14, 15, 9, 16, 17, 18, 19, 20, 21, 22, 23, 241, 242, 243, 244, 245, 246, 247, 248, 249, 250, 251, 252] (by decide +kernel) (by decide +kernel)
set_option maxRecDepth 20000 in
theorem gX7_make_X4_hasRoomFor : GoodIn wsX7_make (wsV RX7 55 RX4 yX4_hasRoomFor wsX4_hasRoomFor) := goodIn_app (goodIn_of _ (by decide +kernel)) ggX7_make_X4_hasRoomFor
set_option maxRecDepth 20000 in
theorem ggX7_make_X0_run : GoodIn wsX7_make wsX0_run := goodIn_r _ [28, 29, 30, 31, 32, 33, 34, 27, 35, 36, 37, 38, 39, 40, 41, 42, 43, 44, 45, 46, 47, 48, 49, 50, 51, 9, 52, 53, 11, 17, 54, 55, 56, 57, 58, 59, 60, 21, 61, 62, 63, 64, 23, 65, 66, 67, 68, 69, 70, 71, 72, 73, 74, 75, 76, 77, 78, 79, 80, 81, 82, 83, 84, 85, 86, 87, 88, 89, 90, 91, 92, 93, 94, 95, 96, 97, 98, 99, 100, 101, 102, 103, 104, 105, 106, 107, 108, 109, 110, 111, 112, 113, 114, 115, 116, 117, 118, 119, 120, 121, 122, 123, 124, 125, 126, 127, 128, 129, 130, 131, 132, 133, 134, 135, 136, 137, 138, 139, 140, 141, 142, 143, 144, 145, 146, 147, 148, 149, 150, 151, 152, 153, 154, 155, 156, 157, 158, 159, 160, 161, 162, 163, 164, 165, 166, 167, 168, 169, 170, 171, 172, 173, 174, 175, 176, 177, 178, 179, 180, 181, 182, 183, 184, 185, 186, 187, 188, 189, 190, 191, 192, 193, 194, 253, 254, 255, 256, 257, 258, 259, 241, 242, 243, 244, 245, 246, 260, 261, 262, 263, 264, 265, 266, 267, 268, 269, 270, 271, 272, 273, 274, 275, 276, 247, 248, 249, 250, 251, 252] (by decide +kernel) (by decide +kernel)
set_option maxRecDepth 20000 in
theorem gX7_make_X0_run : GoodIn wsX7_make (wsV RX7 59 RX0 yX0_run wsX0_run) := goodIn_app (goodIn_of _ (by decide +kernel)) ggX7_make_X0_run
set_option maxRecDepth 20000 in
theorem ggX7_make_X7_makeRoomByMoving : GoodIn wsX7_make wsX7_makeRoomByMoving := goodIn_r _ [199, 4, 200, 201, 202, 203, 204, 14, 15, 9, 16, 17, 205, 206, 207, 21, 208, 63, 64, 209, 125, 126, 127, 62, 128, 129, 130, 131, 23, 210, 59, 60, 61, 65, 211, 212, 213, 214, 236, 237, 238, 239, 240, 241, 242, 243, 244, 245, 246, 251, 252, 247, 248, 249, 250, 266, 267, 268, 269, 270, 271, 272, 273, 274, 275, 276] (by decide +kernel) (by decide +kernel)
set_option maxRecDepth 20000 in
theorem gX7_make_X7_makeRoomByMoving : GoodIn wsX7_make (wsV RX7 63 RX7 yX7_makeRoomByMoving wsX7_makeRoomByMoving) := goodIn_app (goodIn_of _ (by decide +kernel)) ggX7_make_X7_makeRoomByMoving
set_option maxRecDepth 20000 in
theorem ggX7_make_X4_place : GoodIn wsX7_make wsX4_place := goodIn_r _ [218, 11, 12, 219, 220, 89, 17, 54, 13, 14, 15, 9, 16, 18, 19, 20, 21, 22, 23, 221, 222, 223, 224, 225, 226, 227, 228, 229, 230, 231, 184, 232, 91, 233, 234, 235, 212, 213, 214, 63, 64, 62, 65, 241, 242, 243, 244, 245, 246, 247, 248, 249, 250, 266, 267, 268, 269, 270, 271, 272, 273, 274, 275, 276, 251, 252] (by decide +kernel) (by decide +kernel)
set_option maxRecDepth 20000 in
theorem gX7_make_X4_place : GoodIn wsX7_make (wsV RX7 66 RX4 yX4_place wsX4_place) := goodIn_app (goodIn_of _ (by decide +kernel)) ggX7_make_X4_place
theorem dX7_make_0 : decode cX7_make 0 = .ok (.iload_n 1, 1) := by decide +kernel
theorem dX7_make_1 : decode cX7_make 1 = .ok (.ifCond .lt 18, 3) := by decide +kernel
theorem dX7_make_4 : decode cX7_make 4 = .ok (.iload_n 1, 1) := by decide +kernel
theorem dX7_make_5 : decode cX7_make 5 = .ok (.bipush 10, 2) := by decide +kernel
theorem dX7_make_7 : decode cX7_make 7 = .ok (.if_icmp .ge 12, 3) := by decide +kernel
theorem dX7_make_10 : decode cX7_make 10 = .ok (.aload_n 0, 1) := by decide +kernel
theorem dX7_make_11 : decode cX7_make 11 = .ok (.getfield 11, 3) := by decide +kernel
theorem dX7_make_14 : decode cX7_make 14 = .ok (.iload_n 1, 1) := by decide +kernel
theorem dX7_make_15 : decode cX7_make 15 = .ok (.aaload, 1) := by decide +kernel
theorem dX7_make_16 : decode cX7_make 16 = .ok (.ifnonnull 13, 3) := by decide +kernel
theorem dX7_make_19 : decode cX7_make 19 = .ok (.new 40, 3) := by decide +kernel
theorem dX7_make_22 : decode cX7_make 22 = .ok (.dup, 1) := by decide +kernel
theorem dX7_make_23 : decode cX7_make 23 = .ok (.ldc 42, 2) := by decide +kernel
theorem dX7_make_25 : decode cX7_make 25 = .ok (.invokespecial 44, 3) := by decide +kernel
theorem dX7_make_28 : decode cX7_make 28 = .ok (.athrow, 1) := by decide +kernel
theorem dX7_make_29 : decode cX7_make 29 = .ok (.aload_n 0, 1) := by decide +kernel
theorem dX7_make_30 : decode cX7_make 30 = .ok (.getfield 11, 3) := by decide +kernel
theorem dX7_make_33 : decode cX7_make 33 = .ok (.iload_n 1, 1) := by decide +kernel
theorem dX7_make_34 : decode cX7_make 34 = .ok (.aaload, 1) := by decide +kernel
theorem dX7_make_35 : decode cX7_make 35 = .ok (.astore_n 2, 1) := by decide +kernel
theorem dX7_make_36 : decode cX7_make 36 = .ok (.aload_n 0, 1) := by decide +kernel
theorem dX7_make_37 : decode cX7_make 37 = .ok (.getfield 18, 3) := by decide +kernel
theorem dX7_make_40 : decode cX7_make 40 = .ok (.aload_n 2, 1) := by decide +kernel
theorem dX7_make_41 : decode cX7_make 41 = .ok (.invokevirtual 55, 3) := by decide +kernel
theorem dX7_make_44 : decode cX7_make 44 = .ok (.ifCond .ne 33, 3) := by decide +kernel
theorem dX7_make_47 : decode cX7_make 47 = .ok (.aload_n 0, 1) := by decide +kernel
theorem dX7_make_48 : decode cX7_make 48 = .ok (.getfield 36, 3) := by decide +kernel
theorem dX7_make_51 : decode cX7_make 51 = .ok (.invokevirtual 59, 3) := by decide +kernel
theorem dX7_make_54 : decode cX7_make 54 = .ok (.pop, 1) := by decide +kernel
theorem dX7_make_55 : decode cX7_make 55 = .ok (.aload_n 0, 1) := by decide +kernel
theorem dX7_make_56 : decode cX7_make 56 = .ok (.getfield 18, 3) := by decide +kernel
theorem dX7_make_59 : decode cX7_make 59 = .ok (.aload_n 2, 1) := by decide +kernel
theorem dX7_make_60 : decode cX7_make 60 = .ok (.invokevirtual 55, 3) := by decide +kernel
theorem dX7_make_63 : decode cX7_make 63 = .ok (.ifCond .ne 14, 3) := by decide +kernel
theorem dX7_make_66 : decode cX7_make 66 = .ok (.aload_n 0, 1) := by decide +kernel
theorem dX7_make_67 : decode cX7_make 67 = .ok (.aload_n 2, 1) := by decide +kernel
theorem dX7_make_68 : decode cX7_make 68 = .ok (.invokevirtual 63, 3) := by decide +kernel
theorem dX7_make_71 : decode cX7_make 71 = .ok (.ifCond .ne 6, 3) := by decide +kernel
theorem dX7_make_74 : decode cX7_make 74 = .ok (.bipush (-2), 2) := by decide +kernel
theorem dX7_make_76 : decode cX7_make 76 = .ok (.ireturn, 1) := by decide +kernel
theorem dX7_make_77 : decode cX7_make 77 = .ok (.aload_n 0, 1) := by decide +kernel
theorem dX7_make_78 : decode cX7_make 78 = .ok (.getfield 18, 3) := by decide +kernel
theorem dX7_make_81 : decode cX7_make 81 = .ok (.aload_n 2, 1) := by decide +kernel
theorem dX7_make_82 : decode cX7_make 82 = .ok (.invokevirtual 66, 3) := by decide +kernel
theorem dX7_make_85 : decode cX7_make 85 = .ok (.ireturn, 1) := by decide +kernel
set_option maxRecDepth 20000 in
theorem ggX7_hold_X4_living : GoodIn wsX7_hold wsX4_living := goodIn_r _ [9, 10, 11, 12, 13, 8, 14, 15, 37, 38, 39, 40, 41, 42, 43, 44, 45, 46, 47, 48, 49, 50, 51, 52, 53] (by decide +kernel) (by decide +kernel)
set_option maxRecDepth 20000 in
theorem gX7_hold_X4_living : GoodIn wsX7_hold (wsV RX7 70 RX4 yX4_living wsX4_living) := goodIn_app (goodIn_of _ (by decide +kernel)) ggX7_hold_X4_living
set_option maxRecDepth 20000 in
theorem ggX7_hold_X1_more : GoodIn wsX7_hold wsX1_more := goodIn_r _ [20, 21, 22, 23, 24, 25, 26, 27, 28, 29, 30, 31, 37, 38, 39, 40, 41, 42, 43, 44, 45, 46, 47] (by decide +kernel) (by decide +kernel)
set_option maxRecDepth 20000 in
theorem gX7_hold_X1_more : GoodIn wsX7_hold (wsV RX7 80 RX1 yX1_more wsX1_more) := goodIn_app (goodIn_of _ (by decide +kernel)) ggX7_hold_X1_more
theorem dX7_hold_0 : decode cX7_hold 0 = .ok (.aload_n 0, 1) := by decide +kernel
theorem dX7_hold_1 : decode cX7_hold 1 = .ok (.getfield 18, 3) := by decide +kernel
theorem dX7_hold_4 : decode cX7_hold 4 = .ok (.iload_n 1, 1) := by decide +kernel
theorem dX7_hold_5 : decode cX7_hold 5 = .ok (.invokevirtual 70, 3) := by decide +kernel
theorem dX7_hold_8 : decode cX7_hold 8 = .ok (.astore_n 2, 1) := by decide +kernel
theorem dX7_hold_9 : decode cX7_hold 9 = .ok (.aload_n 2, 1) := by decide +kernel
theorem dX7_hold_10 : decode cX7_hold 10 = .ok (.ifnonnull 5, 3) := by decide +kernel
theorem dX7_hold_13 : decode cX7_hold 13 = .ok (.iconst (-1), 1) := by decide +kernel
theorem dX7_hold_14 : decode cX7_hold 14 = .ok (.ireturn, 1) := by decide +kernel
theorem dX7_hold_15 : decode cX7_hold 15 = .ok (.aload_n 2, 1) := by decide +kernel
theorem dX7_hold_16 : decode cX7_hold 16 = .ok (.dup, 1) := by decide +kernel
theorem dX7_hold_17 : decode cX7_hold 17 = .ok (.getfield 74, 3) := by decide +kernel
theorem dX7_hold_20 : decode cX7_hold 20 = .ok (.iconst 1, 1) := by decide +kernel
theorem dX7_hold_21 : decode cX7_hold 21 = .ok (.iadd, 1) := by decide +kernel
theorem dX7_hold_22 : decode cX7_hold 22 = .ok (.putfield 74, 3) := by decide +kernel
theorem dX7_hold_25 : decode cX7_hold 25 = .ok (.aload_n 0, 1) := by decide +kernel
theorem dX7_hold_26 : decode cX7_hold 26 = .ok (.getfield 27, 3) := by decide +kernel
theorem dX7_hold_29 : decode cX7_hold 29 = .ok (.aload_n 2, 1) := by decide +kernel
theorem dX7_hold_30 : decode cX7_hold 30 = .ok (.invokevirtual 80, 3) := by decide +kernel
theorem dX7_hold_33 : decode cX7_hold 33 = .ok (.aload_n 2, 1) := by decide +kernel
theorem dX7_hold_34 : decode cX7_hold 34 = .ok (.getfield 84, 3) := by decide +kernel
theorem dX7_hold_37 : decode cX7_hold 37 = .ok (.ireturn, 1) := by decide +kernel
set_option maxRecDepth 20000 in
theorem ggX7_loose_X4_living : GoodIn wsX7_loose wsX4_living := goodIn_r _ [8, 9, 10, 11, 12, 7, 13, 14, 111, 112, 113, 114, 115, 116, 117, 118, 119, 120, 121, 122, 123, 124, 125, 126, 127] (by decide +kernel) (by decide +kernel)
set_option maxRecDepth 20000 in
theorem gX7_loose_X4_living : GoodIn wsX7_loose (wsV RX7 70 RX4 yX4_living wsX4_living) := goodIn_app (goodIn_of _ (by decide +kernel)) ggX7_loose_X4_living
set_option maxRecDepth 20000 in
theorem ggX7_loose_X1_less : GoodIn wsX7_loose wsX1_less := goodIn_r _ [19, 20, 21, 22, 23, 24, 25, 18, 26, 27, 28, 29, 30, 31, 32, 33, 34, 35, 36, 37, 38, 39, 40, 41, 42, 43, 44, 45, 46, 47, 48, 49, 50, 51, 52, 53, 54, 55, 56, 57, 58, 59, 60, 61, 62, 63, 64, 65, 66, 67, 68, 69, 70, 71, 72, 73, 74, 75, 76, 77, 78, 79, 80, 81, 82, 83, 84, 7, 85, 86, 87, 14, 88, 89, 90, 91, 92, 93, 94, 95, 96, 97, 98, 99, 100, 101, 102, 103, 104, 105, 128, 129, 130, 131, 122, 123, 124, 125, 126, 127, 111, 112, 113, 114, 115, 116, 117, 118, 119, 120, 121, 132, 133, 134, 135, 136, 137, 138, 139] (by decide +kernel) (by decide +kernel)
set_option maxRecDepth 20000 in
theorem gX7_loose_X1_less : GoodIn wsX7_loose (wsV RX7 87 RX1 yX1_less wsX1_less) := goodIn_app (goodIn_of _ (by decide +kernel)) ggX7_loose_X1_less
theorem dX7_loose_0 : decode cX7_loose 0 = .ok (.aload_n 0, 1) := by decide +kernel
theorem dX7_loose_1 : decode cX7_loose 1 = .ok (.getfield 18, 3) := by decide +kernel
theorem dX7_loose_4 : decode cX7_loose 4 = .ok (.iload_n 1, 1) := by decide +kernel
theorem dX7_loose_5 : decode cX7_loose 5 = .ok (.invokevirtual 70, 3) := by decide +kernel
theorem dX7_loose_8 : decode cX7_loose 8 = .ok (.astore_n 2, 1) := by decide +kernel
theorem dX7_loose_9 : decode cX7_loose 9 = .ok (.aload_n 2, 1) := by decide +kernel
theorem dX7_loose_10 : decode cX7_loose 10 = .ok (.ifnull 10, 3) := by decide +kernel
theorem dX7_loose_13 : decode cX7_loose 13 = .ok (.aload_n 2, 1) := by decide +kernel
theorem dX7_loose_14 : decode cX7_loose 14 = .ok (.getfield 74, 3) := by decide +kernel
theorem dX7_loose_17 : decode cX7_loose 17 = .ok (.ifCond .ne 5, 3) := by decide +kernel
theorem dX7_loose_20 : decode cX7_loose 20 = .ok (.iconst (-1), 1) := by decide +kernel
theorem dX7_loose_21 : decode cX7_loose 21 = .ok (.ireturn, 1) := by decide +kernel
theorem dX7_loose_22 : decode cX7_loose 22 = .ok (.aload_n 2, 1) := by decide +kernel
theorem dX7_loose_23 : decode cX7_loose 23 = .ok (.dup, 1) := by decide +kernel
theorem dX7_loose_24 : decode cX7_loose 24 = .ok (.getfield 74, 3) := by decide +kernel
theorem dX7_loose_27 : decode cX7_loose 27 = .ok (.iconst 1, 1) := by decide +kernel
theorem dX7_loose_28 : decode cX7_loose 28 = .ok (.isub, 1) := by decide +kernel
theorem dX7_loose_29 : decode cX7_loose 29 = .ok (.putfield 74, 3) := by decide +kernel
theorem dX7_loose_32 : decode cX7_loose 32 = .ok (.aload_n 0, 1) := by decide +kernel
theorem dX7_loose_33 : decode cX7_loose 33 = .ok (.getfield 27, 3) := by decide +kernel
theorem dX7_loose_36 : decode cX7_loose 36 = .ok (.aload_n 2, 1) := by decide +kernel
theorem dX7_loose_37 : decode cX7_loose 37 = .ok (.invokevirtual 87, 3) := by decide +kernel
theorem dX7_loose_40 : decode cX7_loose 40 = .ok (.ireturn, 1) := by decide +kernel
set_option maxRecDepth 20000 in
theorem ggX7_set_X4_living : GoodIn wsX7_set wsX4_living := goodIn_r _ [10, 11, 12, 13, 14, 9, 15, 16, 123, 124, 125, 126, 127, 128, 129, 130, 131, 132, 133, 134, 135, 136, 137, 138, 139] (by decide +kernel) (by decide +kernel)
set_option maxRecDepth 20000 in
theorem gX7_set_X4_living : GoodIn wsX7_set (wsV RX7 70 RX4 yX4_living wsX4_living) := goodIn_app (goodIn_of _ (by decide +kernel)) ggX7_set_X4_living
set_option maxRecDepth 20000 in
theorem ggX7_set_X5_hasField : GoodIn wsX7_set wsX5_hasField := goodIn_r _ [21, 22, 23, 24, 123, 124, 125, 126, 127, 128, 129, 130, 131, 132, 133, 140, 141, 142, 143] (by decide +kernel) (by decide +kernel)
set_option maxRecDepth 20000 in
theorem gX7_set_X5_hasField : GoodIn wsX7_set (wsV RX7 91 RX5 yX5_hasField wsX5_hasField) := goodIn_app (goodIn_of _ (by decide +kernel)) ggX7_set_X5_hasField
set_option maxRecDepth 20000 in
theorem ggX7_set_X1_more : GoodIn wsX7_set wsX1_more := goodIn_r _ [29, 30, 31, 32, 33, 20, 34, 35, 36, 37, 38, 39, 123, 124, 125, 126, 127, 128, 129, 130, 131, 132, 133] (by decide +kernel) (by decide +kernel)
set_option maxRecDepth 20000 in
theorem gX7_set_X1_more : GoodIn wsX7_set (wsV RX7 80 RX1 yX1_more wsX1_more) := goodIn_app (goodIn_of _ (by decide +kernel)) ggX7_set_X1_more
set_option maxRecDepth 20000 in
theorem ggX7_set_X1_less : GoodIn wsX7_set wsX1_less := goodIn_r _ [43, 44, 45, 46, 47, 48, 49, 28, 50, 30, 51, 52, 53, 54, 55, 56, 57, 58, 59, 37, 38, 20, 39, 35, 60, 61, 62, 63, 64, 65, 66, 67, 68, 69, 70, 71, 31, 32, 33, 34, 36, 72, 73, 74, 75, 76, 77, 78, 79, 80, 81, 82, 83, 84, 24, 85, 86, 87, 88, 89, 90, 91, 92, 93, 94, 95, 96, 9, 97, 98, 99, 16, 100, 101, 102, 103, 104, 105, 106, 107, 108, 109, 110, 111, 112, 113, 114, 115, 116, 117, 144, 145, 146, 147, 134, 135, 136, 137, 138, 139, 123, 124, 125, 126, 127, 128, 129, 130, 131, 132, 133, 148, 149, 140, 141, 142, 143, 150, 151] (by decide +kernel) (by decide +kernel)
set_option maxRecDepth 20000 in
theorem gX7_set_X1_less : GoodIn wsX7_set (wsV RX7 87 RX1 yX1_less wsX1_less) := goodIn_app (goodIn_of _ (by decide +kernel)) ggX7_set_X1_less
theorem dX7_set_0 : decode cX7_set 0 = .ok (.aload_n 0, 1) := by decide +kernel
theorem dX7_set_1 : decode cX7_set 1 = .ok (.getfield 18, 3) := by decide +kernel
theorem dX7_set_4 : decode cX7_set 4 = .ok (.iload_n 1, 1) := by decide +kernel
theorem dX7_set_5 : decode cX7_set 5 = .ok (.invokevirtual 70, 3) := by decide +kernel
theorem dX7_set_8 : decode cX7_set 8 = .ok (.astore 4, 2) := by decide +kernel
theorem dX7_set_10 : decode cX7_set 10 = .ok (.aload 4, 2) := by decide +kernel
theorem dX7_set_12 : decode cX7_set 12 = .ok (.ifnonnull 5, 3) := by decide +kernel
theorem dX7_set_15 : decode cX7_set 15 = .ok (.iconst (-1), 1) := by decide +kernel
theorem dX7_set_16 : decode cX7_set 16 = .ok (.ireturn, 1) := by decide +kernel
theorem dX7_set_17 : decode cX7_set 17 = .ok (.aload 4, 2) := by decide +kernel
theorem dX7_set_19 : decode cX7_set 19 = .ok (.iload_n 2, 1) := by decide +kernel
theorem dX7_set_20 : decode cX7_set 20 = .ok (.invokevirtual 91, 3) := by decide +kernel
theorem dX7_set_23 : decode cX7_set 23 = .ok (.ifCond .ne 13, 3) := by decide +kernel
theorem dX7_set_26 : decode cX7_set 26 = .ok (.new 40, 3) := by decide +kernel
theorem dX7_set_29 : decode cX7_set 29 = .ok (.dup, 1) := by decide +kernel
theorem dX7_set_30 : decode cX7_set 30 = .ok (.ldc 95, 2) := by decide +kernel
theorem dX7_set_32 : decode cX7_set 32 = .ok (.invokespecial 44, 3) := by decide +kernel
theorem dX7_set_35 : decode cX7_set 35 = .ok (.athrow, 1) := by decide +kernel
theorem dX7_set_36 : decode cX7_set 36 = .ok (.aload_n 0, 1) := by decide +kernel
theorem dX7_set_37 : decode cX7_set 37 = .ok (.getfield 18, 3) := by decide +kernel
theorem dX7_set_40 : decode cX7_set 40 = .ok (.iload_n 3, 1) := by decide +kernel
theorem dX7_set_41 : decode cX7_set 41 = .ok (.invokevirtual 70, 3) := by decide +kernel
theorem dX7_set_44 : decode cX7_set 44 = .ok (.astore 5, 2) := by decide +kernel
theorem dX7_set_46 : decode cX7_set 46 = .ok (.aload 5, 2) := by decide +kernel
theorem dX7_set_48 : decode cX7_set 48 = .ok (.ifnonnull 10, 3) := by decide +kernel
theorem dX7_set_51 : decode cX7_set 51 = .ok (.iload_n 3, 1) := by decide +kernel
theorem dX7_set_52 : decode cX7_set 52 = .ok (.iconst (-1), 1) := by decide +kernel
theorem dX7_set_53 : decode cX7_set 53 = .ok (.if_icmp .eq 5, 3) := by decide +kernel
theorem dX7_set_56 : decode cX7_set 56 = .ok (.iconst (-1), 1) := by decide +kernel
theorem dX7_set_57 : decode cX7_set 57 = .ok (.ireturn, 1) := by decide +kernel
theorem dX7_set_58 : decode cX7_set 58 = .ok (.aload 4, 2) := by decide +kernel
theorem dX7_set_60 : decode cX7_set 60 = .ok (.getfield 97, 3) := by decide +kernel
theorem dX7_set_63 : decode cX7_set 63 = .ok (.iload_n 2, 1) := by decide +kernel
theorem dX7_set_64 : decode cX7_set 64 = .ok (.aaload, 1) := by decide +kernel
theorem dX7_set_65 : decode cX7_set 65 = .ok (.astore 6, 2) := by decide +kernel
theorem dX7_set_67 : decode cX7_set 67 = .ok (.aload 4, 2) := by decide +kernel
theorem dX7_set_69 : decode cX7_set 69 = .ok (.getfield 97, 3) := by decide +kernel
theorem dX7_set_72 : decode cX7_set 72 = .ok (.iload_n 2, 1) := by decide +kernel
theorem dX7_set_73 : decode cX7_set 73 = .ok (.aload 5, 2) := by decide +kernel
theorem dX7_set_75 : decode cX7_set 75 = .ok (.aastore, 1) := by decide +kernel
theorem dX7_set_76 : decode cX7_set 76 = .ok (.aload 5, 2) := by decide +kernel
theorem dX7_set_78 : decode cX7_set 78 = .ok (.ifnull 12, 3) := by decide +kernel
theorem dX7_set_81 : decode cX7_set 81 = .ok (.aload_n 0, 1) := by decide +kernel
theorem dX7_set_82 : decode cX7_set 82 = .ok (.getfield 27, 3) := by decide +kernel
theorem dX7_set_85 : decode cX7_set 85 = .ok (.aload 5, 2) := by decide +kernel
theorem dX7_set_87 : decode cX7_set 87 = .ok (.invokevirtual 80, 3) := by decide +kernel
theorem dX7_set_90 : decode cX7_set 90 = .ok (.aload 6, 2) := by decide +kernel
theorem dX7_set_92 : decode cX7_set 92 = .ok (.ifnonnull 7, 3) := by decide +kernel
theorem dX7_set_95 : decode cX7_set 95 = .ok (.iconst 0, 1) := by decide +kernel
theorem dX7_set_96 : decode cX7_set 96 = .ok (.goto 12, 3) := by decide +kernel
theorem dX7_set_99 : decode cX7_set 99 = .ok (.aload_n 0, 1) := by decide +kernel
theorem dX7_set_100 : decode cX7_set 100 = .ok (.getfield 27, 3) := by decide +kernel
theorem dX7_set_103 : decode cX7_set 103 = .ok (.aload 6, 2) := by decide +kernel
theorem dX7_set_105 : decode cX7_set 105 = .ok (.invokevirtual 87, 3) := by decide +kernel
theorem dX7_set_108 : decode cX7_set 108 = .ok (.ireturn, 1) := by decide +kernel
set_option maxRecDepth 20000 in
theorem ggX7_get_X4_thing : GoodIn wsX7_get wsX4_thing := goodIn_r _ [9, 10, 40, 41, 42, 43, 44, 45] (by decide +kernel) (by decide +kernel)
set_option maxRecDepth 20000 in
theorem gX7_get_X4_thing : GoodIn wsX7_get (wsV RX7 101 RX4 yX4_thing wsX4_thing) := goodIn_app (goodIn_of _ (by decide +kernel)) ggX7_get_X4_thing
set_option maxRecDepth 20000 in
theorem ggX7_get_X5_hasField : GoodIn wsX7_get wsX5_hasField := goodIn_r _ [15, 16, 17, 18, 29, 30, 31, 32, 33, 34, 35, 36, 37, 38, 39, 46, 47, 48, 49] (by decide +kernel) (by decide +kernel)
set_option maxRecDepth 20000 in
theorem gX7_get_X5_hasField : GoodIn wsX7_get (wsV RX7 91 RX5 yX5_hasField wsX5_hasField) := goodIn_app (goodIn_of _ (by decide +kernel)) ggX7_get_X5_hasField
set_option maxRecDepth 20000 in
theorem ggX7_get_X7_numberOf : GoodIn wsX7_get wsX7_numberOf := goodIn_r _ [22, 23, 29, 30, 31, 32, 33, 34, 35, 36, 37, 38, 39] (by decide +kernel) (by decide +kernel)
set_option maxRecDepth 20000 in
theorem gX7_get_X7_numberOf : GoodIn wsX7_get (va_wsS RX7 106 yX7_numberOf wsX7_numberOf) := goodIn_app (goodIn_of _ (by decide +kernel)) ggX7_get_X7_numberOf
theorem dX7_get_0 : decode cX7_get 0 = .ok (.aload_n 0, 1) := by decide +kernel
theorem dX7_get_1 : decode cX7_get 1 = .ok (.getfield 18, 3) := by decide +kernel
theorem dX7_get_4 : decode cX7_get 4 = .ok (.iload_n 1, 1) := by decide +kernel
theorem dX7_get_5 : decode cX7_get 5 = .ok (.invokevirtual 101, 3) := by decide +kernel
theorem dX7_get_8 : decode cX7_get 8 = .ok (.astore_n 3, 1) := by decide +kernel
theorem dX7_get_9 : decode cX7_get 9 = .ok (.aload_n 3, 1) := by decide +kernel
theorem dX7_get_10 : decode cX7_get 10 = .ok (.ifnull 11, 3) := by decide +kernel
theorem dX7_get_13 : decode cX7_get 13 = .ok (.aload_n 3, 1) := by decide +kernel
theorem dX7_get_14 : decode cX7_get 14 = .ok (.iload_n 2, 1) := by decide +kernel
theorem dX7_get_15 : decode cX7_get 15 = .ok (.invokevirtual 91, 3) := by decide +kernel
theorem dX7_get_18 : decode cX7_get 18 = .ok (.ifCond .ne 13, 3) := by decide +kernel
theorem dX7_get_21 : decode cX7_get 21 = .ok (.new 40, 3) := by decide +kernel
theorem dX7_get_24 : decode cX7_get 24 = .ok (.dup, 1) := by decide +kernel
theorem dX7_get_25 : decode cX7_get 25 = .ok (.ldc 104, 2) := by decide +kernel
theorem dX7_get_27 : decode cX7_get 27 = .ok (.invokespecial 44, 3) := by decide +kernel
theorem dX7_get_30 : decode cX7_get 30 = .ok (.athrow, 1) := by decide +kernel
theorem dX7_get_31 : decode cX7_get 31 = .ok (.aload_n 3, 1) := by decide +kernel
theorem dX7_get_32 : decode cX7_get 32 = .ok (.getfield 97, 3) := by decide +kernel
theorem dX7_get_35 : decode cX7_get 35 = .ok (.iload_n 2, 1) := by decide +kernel
theorem dX7_get_36 : decode cX7_get 36 = .ok (.aaload, 1) := by decide +kernel
theorem dX7_get_37 : decode cX7_get 37 = .ok (.invokestatic 106, 3) := by decide +kernel
theorem dX7_get_40 : decode cX7_get 40 = .ok (.ireturn, 1) := by decide +kernel
set_option maxRecDepth 20000 in
theorem ggX7_wish_X3_takeFirst : GoodIn wsX7_wish wsX3_takeFirst := goodIn_r _ [9, 10, 11, 12, 13, 14, 8, 15, 36, 37] (by decide +kernel) (by decide +kernel)
set_option maxRecDepth 20000 in
theorem gX7_wish_X3_takeFirst : GoodIn wsX7_wish (wsV RX7 113 RX3 yX3_takeFirst wsX3_takeFirst) := goodIn_app (goodIn_of _ (by decide +kernel)) ggX7_wish_X3_takeFirst
theorem dX7_wish_0 : decode cX7_wish 0 = .ok (.aload_n 0, 1) := by decide +kernel
theorem dX7_wish_1 : decode cX7_wish 1 = .ok (.getfield 27, 3) := by decide +kernel
theorem dX7_wish_4 : decode cX7_wish 4 = .ok (.getfield 109, 3) := by decide +kernel
theorem dX7_wish_7 : decode cX7_wish 7 = .ok (.invokevirtual 113, 3) := by decide +kernel
theorem dX7_wish_10 : decode cX7_wish 10 = .ok (.astore_n 1, 1) := by decide +kernel
theorem dX7_wish_11 : decode cX7_wish 11 = .ok (.aload_n 1, 1) := by decide +kernel
theorem dX7_wish_12 : decode cX7_wish 12 = .ok (.ifnonnull 5, 3) := by decide +kernel
theorem dX7_wish_15 : decode cX7_wish 15 = .ok (.iconst (-1), 1) := by decide +kernel
theorem dX7_wish_16 : decode cX7_wish 16 = .ok (.ireturn, 1) := by decide +kernel
theorem dX7_wish_17 : decode cX7_wish 17 = .ok (.aload_n 1, 1) := by decide +kernel
theorem dX7_wish_18 : decode cX7_wish 18 = .ok (.dup, 1) := by decide +kernel
theorem dX7_wish_19 : decode cX7_wish 19 = .ok (.getfield 74, 3) := by decide +kernel
theorem dX7_wish_22 : decode cX7_wish 22 = .ok (.iconst 1, 1) := by decide +kernel
theorem dX7_wish_23 : decode cX7_wish 23 = .ok (.iadd, 1) := by decide +kernel
theorem dX7_wish_24 : decode cX7_wish 24 = .ok (.putfield 74, 3) := by decide +kernel
theorem dX7_wish_27 : decode cX7_wish 27 = .ok (.aload_n 1, 1) := by decide +kernel
theorem dX7_wish_28 : decode cX7_wish 28 = .ok (.getfield 119, 3) := by decide +kernel
theorem dX7_wish_31 : decode cX7_wish 31 = .ok (.ireturn, 1) := by decide +kernel
set_option maxRecDepth 20000 in
theorem ggX7_collect_X0_run : GoodIn wsX7_collect wsX0_run := goodIn_r _ [6, 7, 8, 9, 10, 11, 12, 5, 13, 14, 15, 16, 17, 18, 19, 20, 21, 22, 23, 24, 25, 26, 27, 28, 29, 30, 31, 32, 33, 34, 35, 36, 37, 38, 39, 40, 41, 42, 43, 44, 45, 46, 47, 48, 49, 50, 51, 52, 53, 54, 55, 56, 57, 58, 59, 60, 61, 62, 63, 64, 65, 66, 67, 68, 69, 70, 71, 72, 73, 74, 75, 76, 77, 78, 79, 80, 81, 82, 83, 84, 85, 86, 87, 88, 89, 90, 91, 92, 93, 94, 95, 96, 97, 98, 99, 100, 101, 102, 103, 104, 105, 106, 107, 108, 109, 110, 111, 112, 113, 114, 115, 116, 117, 118, 119, 120, 121, 122, 123, 124, 125, 126, 127, 128, 129, 130, 131, 132, 133, 134, 135, 136, 137, 138, 139, 140, 141, 142, 143, 144, 145, 146, 147, 148, 149, 150, 151, 152, 153, 154, 155, 156, 157, 158, 159, 160, 161, 162, 163, 164, 165, 166, 167, 168, 169, 170, 171, 172, 173, 174, 175, 176, 177, 183, 184, 185, 186, 187, 188, 189, 190, 191, 192, 193, 194, 195, 196, 197, 198, 199, 200, 201, 202, 203, 204, 205, 206, 207, 208, 209, 210, 211, 212, 213, 214, 215, 216, 217, 218] (by decide +kernel) (by decide +kernel)
set_option maxRecDepth 20000 in
theorem gX7_collect_X0_run : GoodIn wsX7_collect (wsV RX7 59 RX0 yX0_run wsX0_run) := goodIn_app (goodIn_of _ (by decide +kernel)) ggX7_collect_X0_run
theorem dX7_collect_0 : decode cX7_collect 0 = .ok (.aload_n 0, 1) := by decide +kernel
theorem dX7_collect_1 : decode cX7_collect 1 = .ok (.getfield 36, 3) := by decide +kernel
theorem dX7_collect_4 : decode cX7_collect 4 = .ok (.invokevirtual 59, 3) := by decide +kernel
theorem dX7_collect_7 : decode cX7_collect 7 = .ok (.ireturn, 1) := by decide +kernel
set_option maxRecDepth 20000 in
theorem ggX7_pack_X6_moveAllDown : GoodIn wsX7_pack wsX6_moveAllDown := goodIn_r _ [8, 9, 10, 11, 12, 13, 7, 14, 15, 16, 17, 18, 19, 20, 21, 22, 23, 24, 25, 26, 27, 28, 29, 41, 42, 43, 44, 45, 46, 47, 48, 49, 50, 51, 52, 53, 54, 55, 56, 57] (by decide +kernel) (by decide +kernel)
set_option maxRecDepth 20000 in
theorem gX7_pack_X6_moveAllDown : GoodIn wsX7_pack (wsV RX7 129 RX6 yX6_moveAllDown wsX6_moveAllDown) := goodIn_app (goodIn_of _ (by decide +kernel)) ggX7_pack_X6_moveAllDown
theorem dX7_pack_0 : decode cX7_pack 0 = .ok (.aload_n 0, 1) := by decide +kernel
theorem dX7_pack_1 : decode cX7_pack 1 = .ok (.dup, 1) := by decide +kernel
theorem dX7_pack_2 : decode cX7_pack 2 = .ok (.getfield 122, 3) := by decide +kernel
theorem dX7_pack_5 : decode cX7_pack 5 = .ok (.iconst 1, 1) := by decide +kernel
theorem dX7_pack_6 : decode cX7_pack 6 = .ok (.iadd, 1) := by decide +kernel
theorem dX7_pack_7 : decode cX7_pack 7 = .ok (.putfield 122, 3) := by decide +kernel
theorem dX7_pack_10 : decode cX7_pack 10 = .ok (.aload_n 0, 1) := by decide +kernel
theorem dX7_pack_11 : decode cX7_pack 11 = .ok (.getfield 18, 3) := by decide +kernel
theorem dX7_pack_14 : decode cX7_pack 14 = .ok (.getfield 125, 3) := by decide +kernel
theorem dX7_pack_17 : decode cX7_pack 17 = .ok (.invokevirtual 129, 3) := by decide +kernel
theorem dX7_pack_20 : decode cX7_pack 20 = .ok (.ireturn, 1) := by decide +kernel
set_option maxRecDepth 20000 in
theorem ggX7_weak_X4_living : GoodIn wsX7_weak wsX4_living := goodIn_r _ [9, 10, 11, 12, 13, 8, 14, 15, 32, 33, 34, 35, 36, 37, 38, 39, 40, 41, 42, 26, 27, 28, 29, 30, 31] (by decide +kernel) (by decide +kernel)
set_option maxRecDepth 20000 in
theorem gX7_weak_X4_living : GoodIn wsX7_weak (wsV RX7 70 RX4 yX4_living wsX4_living) := goodIn_app (goodIn_of _ (by decide +kernel)) ggX7_weak_X4_living
set_option maxRecDepth 20000 in
theorem ggX7_weak_X7_numberOf : GoodIn wsX7_weak wsX7_numberOf := goodIn_r _ [19, 20, 32, 33, 34, 35, 36, 37, 38, 39, 40, 41, 42] (by decide +kernel) (by decide +kernel)
set_option maxRecDepth 20000 in
theorem gX7_weak_X7_numberOf : GoodIn wsX7_weak (va_wsS RX7 106 yX7_numberOf wsX7_numberOf) := goodIn_app (goodIn_of _ (by decide +kernel)) ggX7_weak_X7_numberOf
theorem dX7_weak_0 : decode cX7_weak 0 = .ok (.iload_n 1, 1) := by decide +kernel
theorem dX7_weak_1 : decode cX7_weak 1 = .ok (.ifCond .lt 9, 3) := by decide +kernel
theorem dX7_weak_4 : decode cX7_weak 4 = .ok (.iload_n 1, 1) := by decide +kernel
theorem dX7_weak_5 : decode cX7_weak 5 = .ok (.bipush 20, 2) := by decide +kernel
theorem dX7_weak_7 : decode cX7_weak 7 = .ok (.if_icmp .lt 13, 3) := by decide +kernel
theorem dX7_weak_10 : decode cX7_weak 10 = .ok (.new 40, 3) := by decide +kernel
theorem dX7_weak_13 : decode cX7_weak 13 = .ok (.dup, 1) := by decide +kernel
theorem dX7_weak_14 : decode cX7_weak 14 = .ok (.ldc 134, 2) := by decide +kernel
theorem dX7_weak_16 : decode cX7_weak 16 = .ok (.invokespecial 44, 3) := by decide +kernel
theorem dX7_weak_19 : decode cX7_weak 19 = .ok (.athrow, 1) := by decide +kernel
theorem dX7_weak_20 : decode cX7_weak 20 = .ok (.aload_n 0, 1) := by decide +kernel
theorem dX7_weak_21 : decode cX7_weak 21 = .ok (.getfield 18, 3) := by decide +kernel
theorem dX7_weak_24 : decode cX7_weak 24 = .ok (.iload_n 2, 1) := by decide +kernel
theorem dX7_weak_25 : decode cX7_weak 25 = .ok (.invokevirtual 70, 3) := by decide +kernel
theorem dX7_weak_28 : decode cX7_weak 28 = .ok (.astore_n 3, 1) := by decide +kernel
theorem dX7_weak_29 : decode cX7_weak 29 = .ok (.aload_n 3, 1) := by decide +kernel
theorem dX7_weak_30 : decode cX7_weak 30 = .ok (.ifnonnull 10, 3) := by decide +kernel
theorem dX7_weak_33 : decode cX7_weak 33 = .ok (.iload_n 2, 1) := by decide +kernel
theorem dX7_weak_34 : decode cX7_weak 34 = .ok (.iconst (-1), 1) := by decide +kernel
theorem dX7_weak_35 : decode cX7_weak 35 = .ok (.if_icmp .eq 5, 3) := by decide +kernel
theorem dX7_weak_38 : decode cX7_weak 38 = .ok (.iconst (-1), 1) := by decide +kernel
theorem dX7_weak_39 : decode cX7_weak 39 = .ok (.ireturn, 1) := by decide +kernel
theorem dX7_weak_40 : decode cX7_weak 40 = .ok (.aload_n 0, 1) := by decide +kernel
theorem dX7_weak_41 : decode cX7_weak 41 = .ok (.getfield 18, 3) := by decide +kernel
theorem dX7_weak_44 : decode cX7_weak 44 = .ok (.getfield 136, 3) := by decide +kernel
theorem dX7_weak_47 : decode cX7_weak 47 = .ok (.iload_n 1, 1) := by decide +kernel
theorem dX7_weak_48 : decode cX7_weak 48 = .ok (.aaload, 1) := by decide +kernel
theorem dX7_weak_49 : decode cX7_weak 49 = .ok (.invokestatic 106, 3) := by decide +kernel
theorem dX7_weak_52 : decode cX7_weak 52 = .ok (.istore 4, 2) := by decide +kernel
theorem dX7_weak_54 : decode cX7_weak 54 = .ok (.aload_n 0, 1) := by decide +kernel
theorem dX7_weak_55 : decode cX7_weak 55 = .ok (.getfield 18, 3) := by decide +kernel
theorem dX7_weak_58 : decode cX7_weak 58 = .ok (.getfield 136, 3) := by decide +kernel
theorem dX7_weak_61 : decode cX7_weak 61 = .ok (.iload_n 1, 1) := by decide +kernel
theorem dX7_weak_62 : decode cX7_weak 62 = .ok (.aload_n 3, 1) := by decide +kernel
theorem dX7_weak_63 : decode cX7_weak 63 = .ok (.aastore, 1) := by decide +kernel
theorem dX7_weak_64 : decode cX7_weak 64 = .ok (.iload 4, 2) := by decide +kernel
theorem dX7_weak_66 : decode cX7_weak 66 = .ok (.ireturn, 1) := by decide +kernel
set_option maxRecDepth 20000 in
theorem ggX7_seen_X7_numberOf : GoodIn wsX7_seen wsX7_numberOf := goodIn_r _ [8, 9, 21, 22, 23, 24, 25, 26, 27, 28, 29, 30, 31] (by decide +kernel) (by decide +kernel)
set_option maxRecDepth 20000 in
theorem gX7_seen_X7_numberOf : GoodIn wsX7_seen (va_wsS RX7 106 yX7_numberOf wsX7_numberOf) := goodIn_app (goodIn_of _ (by decide +kernel)) ggX7_seen_X7_numberOf
theorem dX7_seen_0 : decode cX7_seen 0 = .ok (.iload_n 1, 1) := by decide +kernel
theorem dX7_seen_1 : decode cX7_seen 1 = .ok (.ifCond .lt 9, 3) := by decide +kernel
theorem dX7_seen_4 : decode cX7_seen 4 = .ok (.iload_n 1, 1) := by decide +kernel
theorem dX7_seen_5 : decode cX7_seen 5 = .ok (.bipush 20, 2) := by decide +kernel
theorem dX7_seen_7 : decode cX7_seen 7 = .ok (.if_icmp .lt 13, 3) := by decide +kernel
theorem dX7_seen_10 : decode cX7_seen 10 = .ok (.new 40, 3) := by decide +kernel
theorem dX7_seen_13 : decode cX7_seen 13 = .ok (.dup, 1) := by decide +kernel
theorem dX7_seen_14 : decode cX7_seen 14 = .ok (.ldc 134, 2) := by decide +kernel
theorem dX7_seen_16 : decode cX7_seen 16 = .ok (.invokespecial 44, 3) := by decide +kernel
theorem dX7_seen_19 : decode cX7_seen 19 = .ok (.athrow, 1) := by decide +kernel
theorem dX7_seen_20 : decode cX7_seen 20 = .ok (.aload_n 0, 1) := by decide +kernel
theorem dX7_seen_21 : decode cX7_seen 21 = .ok (.getfield 18, 3) := by decide +kernel
theorem dX7_seen_24 : decode cX7_seen 24 = .ok (.getfield 136, 3) := by decide +kernel
theorem dX7_seen_27 : decode cX7_seen 27 = .ok (.iload_n 1, 1) := by decide +kernel
theorem dX7_seen_28 : decode cX7_seen 28 = .ok (.aaload, 1) := by decide +kernel
theorem dX7_seen_29 : decode cX7_seen 29 = .ok (.invokestatic 106, 3) := by decide +kernel
theorem dX7_seen_32 : decode cX7_seen 32 = .ok (.ireturn, 1) := by decide +kernel
set_option maxRecDepth 20000 in
theorem ggX7_object_X4_thing : GoodIn wsX7_object wsX4_thing := goodIn_r _ [8, 9, 29, 30, 31, 32, 33, 34] (by decide +kernel) (by decide +kernel)
set_option maxRecDepth 20000 in
theorem gX7_object_X4_thing : GoodIn wsX7_object (wsV RX7 101 RX4 yX4_thing wsX4_thing) := goodIn_app (goodIn_of _ (by decide +kernel)) ggX7_object_X4_thing
set_option maxRecDepth 20000 in
theorem ggX7_object_X5_tell : GoodIn wsX7_object wsX5_tell := goodIn_r _ [14, 15, 16, 17, 18, 19, 20, 21, 22, 23, 35, 36, 37, 38, 39, 40, 41, 42, 43, 44, 45, 46, 47, 48, 49] (by decide +kernel) (by decide +kernel)
set_option maxRecDepth 20000 in
theorem gX7_object_X5_tell : GoodIn wsX7_object (wsV RX7 141 RX5 yX5_tell wsX5_tell) := goodIn_app (goodIn_of _ (by decide +kernel)) ggX7_object_X5_tell
theorem dX7_object_0 : decode cX7_object 0 = .ok (.iload_n 2, 1) := by decide +kernel
theorem dX7_object_1 : decode cX7_object 1 = .ok (.ifCond .lt 9, 3) := by decide +kernel
theorem dX7_object_4 : decode cX7_object 4 = .ok (.iload_n 2, 1) := by decide +kernel
theorem dX7_object_5 : decode cX7_object 5 = .ok (.bipush 8, 2) := by decide +kernel
theorem dX7_object_7 : decode cX7_object 7 = .ok (.if_icmp .lt 13, 3) := by decide +kernel
theorem dX7_object_10 : decode cX7_object 10 = .ok (.new 40, 3) := by decide +kernel
theorem dX7_object_13 : decode cX7_object 13 = .ok (.dup, 1) := by decide +kernel
theorem dX7_object_14 : decode cX7_object 14 = .ok (.ldc 139, 2) := by decide +kernel
theorem dX7_object_16 : decode cX7_object 16 = .ok (.invokespecial 44, 3) := by decide +kernel
theorem dX7_object_19 : decode cX7_object 19 = .ok (.athrow, 1) := by decide +kernel
theorem dX7_object_20 : decode cX7_object 20 = .ok (.aload_n 0, 1) := by decide +kernel
theorem dX7_object_21 : decode cX7_object 21 = .ok (.getfield 18, 3) := by decide +kernel
theorem dX7_object_24 : decode cX7_object 24 = .ok (.iload_n 1, 1) := by decide +kernel
theorem dX7_object_25 : decode cX7_object 25 = .ok (.invokevirtual 101, 3) := by decide +kernel
theorem dX7_object_28 : decode cX7_object 28 = .ok (.astore_n 3, 1) := by decide +kernel
theorem dX7_object_29 : decode cX7_object 29 = .ok (.aload_n 3, 1) := by decide +kernel
theorem dX7_object_30 : decode cX7_object 30 = .ok (.ifnonnull 7, 3) := by decide +kernel
theorem dX7_object_33 : decode cX7_object 33 = .ok (.iconst (-1), 1) := by decide +kernel
theorem dX7_object_34 : decode cX7_object 34 = .ok (.goto 8, 3) := by decide +kernel
theorem dX7_object_37 : decode cX7_object 37 = .ok (.aload_n 3, 1) := by decide +kernel
theorem dX7_object_38 : decode cX7_object 38 = .ok (.iload_n 2, 1) := by decide +kernel
theorem dX7_object_39 : decode cX7_object 39 = .ok (.invokevirtual 141, 3) := by decide +kernel
theorem dX7_object_42 : decode cX7_object 42 = .ok (.ireturn, 1) := by decide +kernel
theorem dX7_count_0 : decode cX7_count 0 = .ok (.iload_n 1, 1) := by decide +kernel
theorem dX7_count_1 : decode cX7_count 1 = .ok (.ifCond .lt 9, 3) := by decide +kernel
theorem dX7_count_4 : decode cX7_count 4 = .ok (.iload_n 1, 1) := by decide +kernel
theorem dX7_count_5 : decode cX7_count 5 = .ok (.bipush 9, 2) := by decide +kernel
theorem dX7_count_7 : decode cX7_count 7 = .ok (.if_icmp .lt 13, 3) := by decide +kernel
theorem dX7_count_10 : decode cX7_count 10 = .ok (.new 40, 3) := by decide +kernel
theorem dX7_count_13 : decode cX7_count 13 = .ok (.dup, 1) := by decide +kernel
theorem dX7_count_14 : decode cX7_count 14 = .ok (.ldc 139, 2) := by decide +kernel
theorem dX7_count_16 : decode cX7_count 16 = .ok (.invokespecial 44, 3) := by decide +kernel
theorem dX7_count_19 : decode cX7_count 19 = .ok (.athrow, 1) := by decide +kernel
theorem dX7_count_20 : decode cX7_count 20 = .ok (.iload_n 1, 1) := by decide +kernel
theorem dX7_count_21 : decode cX7_count 21 = .ok (.tableswitch 117 0 7 #[47, 55, 66, 77, 88, 96, 104, 109], 47) := by decide +kernel
theorem dX7_count_68 : decode cX7_count 68 = .ok (.aload_n 0, 1) := by decide +kernel
theorem dX7_count_69 : decode cX7_count 69 = .ok (.getfield 18, 3) := by decide +kernel
theorem dX7_count_72 : decode cX7_count 72 = .ok (.getfield 145, 3) := by decide +kernel
theorem dX7_count_75 : decode cX7_count 75 = .ok (.ireturn, 1) := by decide +kernel
theorem dX7_count_76 : decode cX7_count 76 = .ok (.aload_n 0, 1) := by decide +kernel
theorem dX7_count_77 : decode cX7_count 77 = .ok (.getfield 27, 3) := by decide +kernel
theorem dX7_count_80 : decode cX7_count 80 = .ok (.getfield 148, 3) := by decide +kernel
theorem dX7_count_83 : decode cX7_count 83 = .ok (.getfield 151, 3) := by decide +kernel
theorem dX7_count_86 : decode cX7_count 86 = .ok (.ireturn, 1) := by decide +kernel
theorem dX7_count_87 : decode cX7_count 87 = .ok (.aload_n 0, 1) := by decide +kernel
theorem dX7_count_88 : decode cX7_count 88 = .ok (.getfield 27, 3) := by decide +kernel
theorem dX7_count_91 : decode cX7_count 91 = .ok (.getfield 109, 3) := by decide +kernel
theorem dX7_count_94 : decode cX7_count 94 = .ok (.getfield 151, 3) := by decide +kernel
theorem dX7_count_97 : decode cX7_count 97 = .ok (.ireturn, 1) := by decide +kernel
theorem dX7_count_98 : decode cX7_count 98 = .ok (.aload_n 0, 1) := by decide +kernel
theorem dX7_count_99 : decode cX7_count 99 = .ok (.getfield 18, 3) := by decide +kernel
theorem dX7_count_102 : decode cX7_count 102 = .ok (.getfield 125, 3) := by decide +kernel
theorem dX7_count_105 : decode cX7_count 105 = .ok (.getfield 154, 3) := by decide +kernel
theorem dX7_count_108 : decode cX7_count 108 = .ok (.ireturn, 1) := by decide +kernel
theorem dX7_count_109 : decode cX7_count 109 = .ok (.aload_n 0, 1) := by decide +kernel
theorem dX7_count_110 : decode cX7_count 110 = .ok (.getfield 18, 3) := by decide +kernel
theorem dX7_count_113 : decode cX7_count 113 = .ok (.getfield 157, 3) := by decide +kernel
theorem dX7_count_116 : decode cX7_count 116 = .ok (.ireturn, 1) := by decide +kernel
theorem dX7_count_117 : decode cX7_count 117 = .ok (.aload_n 0, 1) := by decide +kernel
theorem dX7_count_118 : decode cX7_count 118 = .ok (.getfield 36, 3) := by decide +kernel
theorem dX7_count_121 : decode cX7_count 121 = .ok (.getfield 160, 3) := by decide +kernel
theorem dX7_count_124 : decode cX7_count 124 = .ok (.ireturn, 1) := by decide +kernel
theorem dX7_count_125 : decode cX7_count 125 = .ok (.aload_n 0, 1) := by decide +kernel
theorem dX7_count_126 : decode cX7_count 126 = .ok (.getfield 122, 3) := by decide +kernel
theorem dX7_count_129 : decode cX7_count 129 = .ok (.ireturn, 1) := by decide +kernel
theorem dX7_count_130 : decode cX7_count 130 = .ok (.aload_n 0, 1) := by decide +kernel
theorem dX7_count_131 : decode cX7_count 131 = .ok (.getfield 36, 3) := by decide +kernel
theorem dX7_count_134 : decode cX7_count 134 = .ok (.getfield 163, 3) := by decide +kernel
theorem dX7_count_137 : decode cX7_count 137 = .ok (.ireturn, 1) := by decide +kernel
theorem dX7_count_138 : decode cX7_count 138 = .ok (.aload_n 0, 1) := by decide +kernel
theorem dX7_count_139 : decode cX7_count 139 = .ok (.getfield 36, 3) := by decide +kernel
theorem dX7_count_142 : decode cX7_count 142 = .ok (.getfield 166, 3) := by decide +kernel
theorem dX7_count_145 : decode cX7_count 145 = .ok (.ireturn, 1) := by decide +kernel
set_option maxRecDepth 20000 in
theorem ggX7_listed_X3_item : GoodIn wsX7_listed wsX3_item := goodIn_r _ [7, 8, 9, 24, 25] (by decide +kernel) (by decide +kernel)
set_option maxRecDepth 20000 in
theorem gX7_listed_X3_item : GoodIn wsX7_listed (wsV RX7 169 RX3 yX3_item wsX3_item) := goodIn_app (goodIn_of _ (by decide +kernel)) ggX7_listed_X3_item
set_option maxRecDepth 20000 in
theorem ggX7_listed_X7_numberOf : GoodIn wsX7_listed wsX7_numberOf := goodIn_r _ [13, 14, 26, 27, 28, 29, 30, 31, 32, 33, 34, 35, 36] (by decide +kernel) (by decide +kernel)
set_option maxRecDepth 20000 in
theorem gX7_listed_X7_numberOf : GoodIn wsX7_listed (va_wsS RX7 106 yX7_numberOf wsX7_numberOf) := goodIn_app (goodIn_of _ (by decide +kernel)) ggX7_listed_X7_numberOf
theorem dX7_listed_0 : decode cX7_listed 0 = .ok (.aload_n 0, 1) := by decide +kernel
theorem dX7_listed_1 : decode cX7_listed 1 = .ok (.getfield 27, 3) := by decide +kernel
theorem dX7_listed_4 : decode cX7_listed 4 = .ok (.getfield 148, 3) := by decide +kernel
theorem dX7_listed_7 : decode cX7_listed 7 = .ok (.iload_n 1, 1) := by decide +kernel
theorem dX7_listed_8 : decode cX7_listed 8 = .ok (.invokevirtual 169, 3) := by decide +kernel
theorem dX7_listed_11 : decode cX7_listed 11 = .ok (.invokestatic 106, 3) := by decide +kernel
theorem dX7_listed_14 : decode cX7_listed 14 = .ok (.ireturn, 1) := by decide +kernel
set_option maxRecDepth 20000 in
theorem ggX7_freed_X4_freedNumber : GoodIn wsX7_freed wsX4_freedNumber := goodIn_r _ [6, 7, 8, 14, 15, 16, 17, 18, 19] (by decide +kernel) (by decide +kernel)
set_option maxRecDepth 20000 in
theorem gX7_freed_X4_freedNumber : GoodIn wsX7_freed (wsV RX7 172 RX4 yX4_freedNumber wsX4_freedNumber) := goodIn_app (goodIn_of _ (by decide +kernel)) ggX7_freed_X4_freedNumber
theorem dX7_freed_0 : decode cX7_freed 0 = .ok (.aload_n 0, 1) := by decide +kernel
theorem dX7_freed_1 : decode cX7_freed 1 = .ok (.getfield 18, 3) := by decide +kernel
theorem dX7_freed_4 : decode cX7_freed 4 = .ok (.iload_n 1, 1) := by decide +kernel
theorem dX7_freed_5 : decode cX7_freed 5 = .ok (.invokevirtual 172, 3) := by decide +kernel
theorem dX7_freed_8 : decode cX7_freed 8 = .ok (.ireturn, 1) := by decide +kernel
set_option maxRecDepth 20000 in
theorem ggX7_at_X6_owner : GoodIn wsX7_at wsX6_owner := goodIn_r _ [9, 10, 27, 28] (by decide +kernel) (by decide +kernel)
set_option maxRecDepth 20000 in
theorem gX7_at_X6_owner : GoodIn wsX7_at (wsV RX7 177 RX6 yX6_owner wsX6_owner) := goodIn_app (goodIn_of _ (by decide +kernel)) ggX7_at_X6_owner
set_option maxRecDepth 20000 in
theorem ggX7_at_X7_numberOf : GoodIn wsX7_at wsX7_numberOf := goodIn_r _ [14, 15, 29, 30, 31, 32, 33, 34, 35, 36, 37, 38, 39] (by decide +kernel) (by decide +kernel)
set_option maxRecDepth 20000 in
theorem gX7_at_X7_numberOf : GoodIn wsX7_at (va_wsS RX7 106 yX7_numberOf wsX7_numberOf) := goodIn_app (goodIn_of _ (by decide +kernel)) ggX7_at_X7_numberOf
theorem dX7_at_0 : decode cX7_at 0 = .ok (.iload_n 1, 1) := by decide +kernel
theorem dX7_at_1 : decode cX7_at 1 = .ok (.ifCond .lt 10, 3) := by decide +kernel
theorem dX7_at_4 : decode cX7_at 4 = .ok (.iload_n 1, 1) := by decide +kernel
theorem dX7_at_5 : decode cX7_at 5 = .ok (.sipush 400, 3) := by decide +kernel
theorem dX7_at_8 : decode cX7_at 8 = .ok (.if_icmp .lt 13, 3) := by decide +kernel
theorem dX7_at_11 : decode cX7_at 11 = .ok (.new 40, 3) := by decide +kernel
theorem dX7_at_14 : decode cX7_at 14 = .ok (.dup, 1) := by decide +kernel
theorem dX7_at_15 : decode cX7_at 15 = .ok (.ldc 175, 2) := by decide +kernel
theorem dX7_at_17 : decode cX7_at 17 = .ok (.invokespecial 44, 3) := by decide +kernel
theorem dX7_at_20 : decode cX7_at 20 = .ok (.athrow, 1) := by decide +kernel
theorem dX7_at_21 : decode cX7_at 21 = .ok (.aload_n 0, 1) := by decide +kernel
theorem dX7_at_22 : decode cX7_at 22 = .ok (.getfield 18, 3) := by decide +kernel
theorem dX7_at_25 : decode cX7_at 25 = .ok (.getfield 125, 3) := by decide +kernel
theorem dX7_at_28 : decode cX7_at 28 = .ok (.iload_n 1, 1) := by decide +kernel
theorem dX7_at_29 : decode cX7_at 29 = .ok (.invokevirtual 177, 3) := by decide +kernel
theorem dX7_at_32 : decode cX7_at 32 = .ok (.invokestatic 106, 3) := by decide +kernel
theorem dX7_at_35 : decode cX7_at 35 = .ok (.ireturn, 1) := by decide +kernel
set_option maxRecDepth 20000 in
theorem ggX7_makeRoomByMoving_X4_leastFreeNumber : GoodIn wsX7_makeRoomByMoving wsX4_leastFreeNumber := goodIn_r _ [10, 11, 43, 44, 45, 46, 47, 48] (by decide +kernel) (by decide +kernel)
set_option maxRecDepth 20000 in
theorem gX7_makeRoomByMoving_X4_leastFreeNumber : GoodIn wsX7_makeRoomByMoving (wsV RX7 180 RX4 yX4_leastFreeNumber wsX4_leastFreeNumber) := goodIn_app (goodIn_of _ (by decide +kernel)) ggX7_makeRoomByMoving_X4_leastFreeNumber
set_option maxRecDepth 20000 in
theorem ggX7_makeRoomByMoving_X6_moveAllDown : GoodIn wsX7_makeRoomByMoving wsX6_moveAllDown := goodIn_r _ [16, 17, 18, 19, 20, 21, 15, 22, 23, 24, 25, 26, 27, 28, 29, 30, 31, 32, 33, 34, 35, 36, 37, 55, 56, 57, 58, 59, 60, 61, 62, 63, 64, 65, 51, 52, 53, 54, 49, 50] (by decide +kernel) (by decide +kernel)
set_option maxRecDepth 20000 in
theorem gX7_makeRoomByMoving_X6_moveAllDown : GoodIn wsX7_makeRoomByMoving (wsV RX7 129 RX6 yX6_moveAllDown wsX6_moveAllDown) := goodIn_app (goodIn_of _ (by decide +kernel)) ggX7_makeRoomByMoving_X6_moveAllDown
theorem dX7_makeRoomByMoving_0 : decode cX7_makeRoomByMoving 0 = .ok (.aload_n 0, 1) := by decide +kernel
theorem dX7_makeRoomByMoving_1 : decode cX7_makeRoomByMoving 1 = .ok (.getfield 18, 3) := by decide +kernel
theorem dX7_makeRoomByMoving_4 : decode cX7_makeRoomByMoving 4 = .ok (.invokevirtual 180, 3) := by decide +kernel
theorem dX7_makeRoomByMoving_7 : decode cX7_makeRoomByMoving 7 = .ok (.iconst (-1), 1) := by decide +kernel
theorem dX7_makeRoomByMoving_8 : decode cX7_makeRoomByMoving 8 = .ok (.if_icmp .eq 20, 3) := by decide +kernel
theorem dX7_makeRoomByMoving_11 : decode cX7_makeRoomByMoving 11 = .ok (.aload_n 0, 1) := by decide +kernel
theorem dX7_makeRoomByMoving_12 : decode cX7_makeRoomByMoving 12 = .ok (.getfield 18, 3) := by decide +kernel
theorem dX7_makeRoomByMoving_15 : decode cX7_makeRoomByMoving 15 = .ok (.getfield 125, 3) := by decide +kernel
theorem dX7_makeRoomByMoving_18 : decode cX7_makeRoomByMoving 18 = .ok (.getfield 154, 3) := by decide +kernel
theorem dX7_makeRoomByMoving_21 : decode cX7_makeRoomByMoving 21 = .ok (.aload_n 1, 1) := by decide +kernel
theorem dX7_makeRoomByMoving_22 : decode cX7_makeRoomByMoving 22 = .ok (.getfield 183, 3) := by decide +kernel
theorem dX7_makeRoomByMoving_25 : decode cX7_makeRoomByMoving 25 = .ok (.if_icmp .ge 5, 3) := by decide +kernel
theorem dX7_makeRoomByMoving_28 : decode cX7_makeRoomByMoving 28 = .ok (.iconst 0, 1) := by decide +kernel
theorem dX7_makeRoomByMoving_29 : decode cX7_makeRoomByMoving 29 = .ok (.ireturn, 1) := by decide +kernel
theorem dX7_makeRoomByMoving_30 : decode cX7_makeRoomByMoving 30 = .ok (.aload_n 0, 1) := by decide +kernel
theorem dX7_makeRoomByMoving_31 : decode cX7_makeRoomByMoving 31 = .ok (.dup, 1) := by decide +kernel
theorem dX7_makeRoomByMoving_32 : decode cX7_makeRoomByMoving 32 = .ok (.getfield 122, 3) := by decide +kernel
theorem dX7_makeRoomByMoving_35 : decode cX7_makeRoomByMoving 35 = .ok (.iconst 1, 1) := by decide +kernel
theorem dX7_makeRoomByMoving_36 : decode cX7_makeRoomByMoving 36 = .ok (.iadd, 1) := by decide +kernel
theorem dX7_makeRoomByMoving_37 : decode cX7_makeRoomByMoving 37 = .ok (.putfield 122, 3) := by decide +kernel
theorem dX7_makeRoomByMoving_40 : decode cX7_makeRoomByMoving 40 = .ok (.aload_n 0, 1) := by decide +kernel
theorem dX7_makeRoomByMoving_41 : decode cX7_makeRoomByMoving 41 = .ok (.getfield 18, 3) := by decide +kernel
theorem dX7_makeRoomByMoving_44 : decode cX7_makeRoomByMoving 44 = .ok (.getfield 125, 3) := by decide +kernel
theorem dX7_makeRoomByMoving_47 : decode cX7_makeRoomByMoving 47 = .ok (.invokevirtual 129, 3) := by decide +kernel
theorem dX7_makeRoomByMoving_50 : decode cX7_makeRoomByMoving 50 = .ok (.pop, 1) := by decide +kernel
theorem dX7_makeRoomByMoving_51 : decode cX7_makeRoomByMoving 51 = .ok (.iconst 1, 1) := by decide +kernel
theorem dX7_makeRoomByMoving_52 : decode cX7_makeRoomByMoving 52 = .ok (.ireturn, 1) := by decide +kernel
theorem dX7_numberOf_0 : decode cX7_numberOf 0 = .ok (.aload_n 0, 1) := by decide +kernel
theorem dX7_numberOf_1 : decode cX7_numberOf 1 = .ok (.ifnonnull 7, 3) := by decide +kernel
theorem dX7_numberOf_4 : decode cX7_numberOf 4 = .ok (.iconst (-1), 1) := by decide +kernel
theorem dX7_numberOf_5 : decode cX7_numberOf 5 = .ok (.goto 7, 3) := by decide +kernel
theorem dX7_numberOf_8 : decode cX7_numberOf 8 = .ok (.aload_n 0, 1) := by decide +kernel
theorem dX7_numberOf_9 : decode cX7_numberOf 9 = .ok (.getfield 119, 3) := by decide +kernel
theorem dX7_numberOf_12 : decode cX7_numberOf 12 = .ok (.ireturn, 1) := by decide +kernel
