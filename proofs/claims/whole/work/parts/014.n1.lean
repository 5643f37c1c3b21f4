set_option maxRecDepth 20000 in
theorem ggX1_init_X3_init : GoodIn wsX1_init wsX3_init := goodIn_r _ [12, 13, 2, 3, 14, 15, 16, 17] (by decide +kernel) (by decide +kernel)
set_option maxRecDepth 20000 in
theorem gX1_init_X3_init_n11 : GoodIn wsX1_init (wsX3_init) := ggX1_init_X3_init
theorem dX1_init_0 : decode cX1_init 0 = .ok (.aload_n 0, 1) := by decide +kernel
theorem dX1_init_1 : decode cX1_init 1 = .ok (.invokespecial 3, 3) := by decide +kernel
theorem dX1_init_4 : decode cX1_init 4 = .ok (.aload_n 0, 1) := by decide +kernel
theorem dX1_init_5 : decode cX1_init 5 = .ok (.new 9, 3) := by decide +kernel
theorem dX1_init_8 : decode cX1_init 8 = .ok (.dup, 1) := by decide +kernel
theorem dX1_init_9 : decode cX1_init 9 = .ok (.invokespecial 11, 3) := by decide +kernel
theorem dX1_init_12 : decode cX1_init 12 = .ok (.putfield 12, 3) := by decide +kernel
theorem dX1_init_15 : decode cX1_init 15 = .ok (.aload_n 0, 1) := by decide +kernel
theorem dX1_init_16 : decode cX1_init 16 = .ok (.new 9, 3) := by decide +kernel
theorem dX1_init_19 : decode cX1_init 19 = .ok (.dup, 1) := by decide +kernel
theorem dX1_init_20 : decode cX1_init 20 = .ok (.invokespecial 11, 3) := by decide +kernel
theorem dX1_init_23 : decode cX1_init 23 = .ok (.putfield 18, 3) := by decide +kernel
theorem dX1_init_26 : decode cX1_init 26 = .ok (.aload_n 0, 1) := by decide +kernel
theorem dX1_init_27 : decode cX1_init 27 = .ok (.new 9, 3) := by decide +kernel
theorem dX1_init_30 : decode cX1_init 30 = .ok (.dup, 1) := by decide +kernel
theorem dX1_init_31 : decode cX1_init 31 = .ok (.invokespecial 11, 3) := by decide +kernel
theorem dX1_init_34 : decode cX1_init 34 = .ok (.putfield 21, 3) := by decide +kernel
theorem dX1_init_37 : decode cX1_init 37 = .ok (.aload_n 0, 1) := by decide +kernel
theorem dX1_init_38 : decode cX1_init 38 = .ok (.aload_n 1, 1) := by decide +kernel
theorem dX1_init_39 : decode cX1_init 39 = .ok (.putfield 24, 3) := by decide +kernel
theorem dX1_init_42 : decode cX1_init 42 = .ok (.return_, 1) := by decide +kernel
set_option maxRecDepth 20000 in
theorem ggX1_more_X5_blackenUnlessGreen : GoodIn wsX1_more wsX5_blackenUnlessGreen := goodIn_r _ [6, 7, 8, 9, 10, 5, 11, 12, 13, 14, 15, 16, 17, 18, 19, 20, 21, 22] (by decide +kernel) (by decide +kernel)
set_option maxRecDepth 20000 in
theorem gX1_more_X5_blackenUnlessGreen : GoodIn wsX1_more (wsV RX1 34 RX5 yX5_blackenUnlessGreen wsX5_blackenUnlessGreen) := goodIn_app (goodIn_of _ (by decide +kernel)) ggX1_more_X5_blackenUnlessGreen
theorem dX1_more_0 : decode cX1_more 0 = .ok (.aload_n 1, 1) := by decide +kernel
theorem dX1_more_1 : decode cX1_more 1 = .ok (.dup, 1) := by decide +kernel
theorem dX1_more_2 : decode cX1_more 2 = .ok (.getfield 28, 3) := by decide +kernel
theorem dX1_more_5 : decode cX1_more 5 = .ok (.iconst 1, 1) := by decide +kernel
theorem dX1_more_6 : decode cX1_more 6 = .ok (.iadd, 1) := by decide +kernel
theorem dX1_more_7 : decode cX1_more 7 = .ok (.putfield 28, 3) := by decide +kernel
theorem dX1_more_10 : decode cX1_more 10 = .ok (.aload_n 1, 1) := by decide +kernel
theorem dX1_more_11 : decode cX1_more 11 = .ok (.invokevirtual 34, 3) := by decide +kernel
theorem dX1_more_14 : decode cX1_more 14 = .ok (.return_, 1) := by decide +kernel
set_option maxRecDepth 20000 in
theorem ggX1_less_X1_lower : GoodIn wsX1_less wsX1_lower := goodIn_r _ [8, 9, 10, 3, 11, 12, 13, 7, 14, 15, 16, 17, 18, 19, 20, 21, 22, 23, 24, 25, 26, 27, 28, 29, 30, 31, 32, 33, 34, 35, 36, 37, 38, 39, 40, 100, 101, 102, 103, 104, 105, 106, 107, 108, 109, 110, 90, 91, 92, 93, 111, 112] (by decide +kernel) (by decide +kernel)
set_option maxRecDepth 20000 in
theorem gX1_less_X1_lower : GoodIn wsX1_less (wsV RX1 42 RX1 yX1_lower wsX1_lower) := goodIn_app (goodIn_of _ (by decide +kernel)) ggX1_less_X1_lower
set_option maxRecDepth 20000 in
theorem ggX1_less_X3_last : GoodIn wsX1_less wsX3_last := goodIn_r _ [44, 29, 45, 46, 47, 27, 48, 30, 111, 112] (by decide +kernel) (by decide +kernel)
set_option maxRecDepth 20000 in
theorem gX1_less_X3_last : GoodIn wsX1_less (wsV RX1 46 RX3 yX3_last wsX3_last) := goodIn_app (goodIn_of _ (by decide +kernel)) ggX1_less_X3_last
set_option maxRecDepth 20000 in
theorem ggX1_less_X5_giveUpNext : GoodIn wsX1_less wsX5_giveUpNext := goodIn_r _ [52, 53, 54, 100, 101, 102, 103, 104, 105, 106, 107, 108, 109, 110] (by decide +kernel) (by decide +kernel)
set_option maxRecDepth 20000 in
theorem gX1_less_X5_giveUpNext : GoodIn wsX1_less (wsV RX1 50 RX5 yX5_giveUpNext wsX5_giveUpNext) := goodIn_app (goodIn_of _ (by decide +kernel)) ggX1_less_X5_giveUpNext
set_option maxRecDepth 20000 in
theorem ggX1_less_X1_finish : GoodIn wsX1_less wsX1_finish := goodIn_r _ [58, 3, 16, 59, 1, 60, 61, 62, 27, 63, 29, 36, 37, 38, 21, 39, 23, 40, 19, 20, 22, 64, 65, 66, 67, 68, 69, 70, 71, 72, 73, 74, 75, 76, 77, 78, 79, 80, 81, 82, 83, 84, 85, 86, 87, 88, 89, 90, 91, 92, 93, 100, 101, 102, 103, 104, 105, 106, 107, 108, 109, 110, 111, 112, 94, 95, 96, 97, 98, 99, 113, 114, 115, 116, 117, 118] (by decide +kernel) (by decide +kernel)
set_option maxRecDepth 20000 in
theorem gX1_less_X1_finish : GoodIn wsX1_less (wsV RX1 53 RX1 yX1_finish wsX1_finish) := goodIn_app (goodIn_of _ (by decide +kernel)) ggX1_less_X1_finish
theorem dX1_less_0 : decode cX1_less 0 = .ok (.aload_n 0, 1) := by decide +kernel
theorem dX1_less_1 : decode cX1_less 1 = .ok (.getfield 24, 3) := by decide +kernel
theorem dX1_less_4 : decode cX1_less 4 = .ok (.getfield 37, 3) := by decide +kernel
theorem dX1_less_7 : decode cX1_less 7 = .ok (.istore_n 2, 1) := by decide +kernel
theorem dX1_less_8 : decode cX1_less 8 = .ok (.aload_n 0, 1) := by decide +kernel
theorem dX1_less_9 : decode cX1_less 9 = .ok (.aload_n 1, 1) := by decide +kernel
theorem dX1_less_10 : decode cX1_less 10 = .ok (.invokevirtual 42, 3) := by decide +kernel
theorem dX1_less_13 : decode cX1_less 13 = .ok (.aload_n 0, 1) := by decide +kernel
theorem dX1_less_14 : decode cX1_less 14 = .ok (.getfield 12, 3) := by decide +kernel
theorem dX1_less_17 : decode cX1_less 17 = .ok (.invokevirtual 46, 3) := by decide +kernel
theorem dX1_less_20 : decode cX1_less 20 = .ok (.astore_n 3, 1) := by decide +kernel
theorem dX1_less_21 : decode cX1_less 21 = .ok (.iconst 0, 1) := by decide +kernel
theorem dX1_less_22 : decode cX1_less 22 = .ok (.istore 4, 2) := by decide +kernel
theorem dX1_less_24 : decode cX1_less 24 = .ok (.iload 4, 2) := by decide +kernel
theorem dX1_less_26 : decode cX1_less 26 = .ok (.sipush 560, 3) := by decide +kernel
theorem dX1_less_29 : decode cX1_less 29 = .ok (.if_icmp .ge 46, 3) := by decide +kernel
theorem dX1_less_32 : decode cX1_less 32 = .ok (.aload_n 3, 1) := by decide +kernel
theorem dX1_less_33 : decode cX1_less 33 = .ok (.ifnull 42, 3) := by decide +kernel
theorem dX1_less_36 : decode cX1_less 36 = .ok (.aload_n 3, 1) := by decide +kernel
theorem dX1_less_37 : decode cX1_less 37 = .ok (.invokevirtual 50, 3) := by decide +kernel
theorem dX1_less_40 : decode cX1_less 40 = .ok (.astore 5, 2) := by decide +kernel
theorem dX1_less_42 : decode cX1_less 42 = .ok (.aload 5, 2) := by decide +kernel
theorem dX1_less_44 : decode cX1_less 44 = .ok (.ifnull 12, 3) := by decide +kernel
theorem dX1_less_47 : decode cX1_less 47 = .ok (.aload_n 0, 1) := by decide +kernel
theorem dX1_less_48 : decode cX1_less 48 = .ok (.aload 5, 2) := by decide +kernel
theorem dX1_less_50 : decode cX1_less 50 = .ok (.invokevirtual 42, 3) := by decide +kernel
theorem dX1_less_53 : decode cX1_less 53 = .ok (.goto 8, 3) := by decide +kernel
theorem dX1_less_56 : decode cX1_less 56 = .ok (.aload_n 0, 1) := by decide +kernel
theorem dX1_less_57 : decode cX1_less 57 = .ok (.aload_n 3, 1) := by decide +kernel
theorem dX1_less_58 : decode cX1_less 58 = .ok (.invokevirtual 53, 3) := by decide +kernel
theorem dX1_less_61 : decode cX1_less 61 = .ok (.aload_n 0, 1) := by decide +kernel
theorem dX1_less_62 : decode cX1_less 62 = .ok (.getfield 12, 3) := by decide +kernel
theorem dX1_less_65 : decode cX1_less 65 = .ok (.invokevirtual 46, 3) := by decide +kernel
theorem dX1_less_68 : decode cX1_less 68 = .ok (.astore_n 3, 1) := by decide +kernel
theorem dX1_less_69 : decode cX1_less 69 = .ok (.iinc 4 1, 3) := by decide +kernel
theorem dX1_less_72 : decode cX1_less 72 = .ok (.goto (-48), 3) := by decide +kernel
theorem dX1_less_75 : decode cX1_less 75 = .ok (.aload_n 0, 1) := by decide +kernel
theorem dX1_less_76 : decode cX1_less 76 = .ok (.getfield 24, 3) := by decide +kernel
theorem dX1_less_79 : decode cX1_less 79 = .ok (.getfield 37, 3) := by decide +kernel
theorem dX1_less_82 : decode cX1_less 82 = .ok (.iload_n 2, 1) := by decide +kernel
theorem dX1_less_83 : decode cX1_less 83 = .ok (.isub, 1) := by decide +kernel
theorem dX1_less_84 : decode cX1_less 84 = .ok (.ireturn, 1) := by decide +kernel
set_option maxRecDepth 20000 in
theorem ggX1_tellWish_X3_append : GoodIn wsX1_tellWish wsX3_append := goodIn_r _ [8, 9, 10, 26, 27] (by decide +kernel) (by decide +kernel)
set_option maxRecDepth 20000 in
theorem gX1_tellWish_X3_append : GoodIn wsX1_tellWish (wsV RX1 60 RX3 yX3_append wsX3_append) := goodIn_app (goodIn_of _ (by decide +kernel)) ggX1_tellWish_X3_append
theorem dX1_tellWish_0 : decode cX1_tellWish 0 = .ok (.aload_n 1, 1) := by decide +kernel
theorem dX1_tellWish_1 : decode cX1_tellWish 1 = .ok (.iconst 0, 1) := by decide +kernel
theorem dX1_tellWish_2 : decode cX1_tellWish 2 = .ok (.putfield 56, 3) := by decide +kernel
theorem dX1_tellWish_5 : decode cX1_tellWish 5 = .ok (.aload_n 1, 1) := by decide +kernel
theorem dX1_tellWish_6 : decode cX1_tellWish 6 = .ok (.dup, 1) := by decide +kernel
theorem dX1_tellWish_7 : decode cX1_tellWish 7 = .ok (.getfield 28, 3) := by decide +kernel
theorem dX1_tellWish_10 : decode cX1_tellWish 10 = .ok (.iconst 1, 1) := by decide +kernel
theorem dX1_tellWish_11 : decode cX1_tellWish 11 = .ok (.iadd, 1) := by decide +kernel
theorem dX1_tellWish_12 : decode cX1_tellWish 12 = .ok (.putfield 28, 3) := by decide +kernel
theorem dX1_tellWish_15 : decode cX1_tellWish 15 = .ok (.aload_n 0, 1) := by decide +kernel
theorem dX1_tellWish_16 : decode cX1_tellWish 16 = .ok (.getfield 21, 3) := by decide +kernel
theorem dX1_tellWish_19 : decode cX1_tellWish 19 = .ok (.aload_n 1, 1) := by decide +kernel
theorem dX1_tellWish_20 : decode cX1_tellWish 20 = .ok (.invokevirtual 60, 3) := by decide +kernel
theorem dX1_tellWish_23 : decode cX1_tellWish 23 = .ok (.return_, 1) := by decide +kernel
set_option maxRecDepth 20000 in
theorem ggX1_lower_X1_suspect : GoodIn wsX1_lower wsX1_suspect := goodIn_r _ [8, 9, 10, 11, 12, 13, 14, 15, 16, 17, 18, 19, 20, 21, 22, 23, 24, 35, 36, 37, 38, 39, 40, 41, 42, 43, 44, 45, 46, 47, 48, 49, 50, 51] (by decide +kernel) (by decide +kernel)
set_option maxRecDepth 20000 in
theorem gX1_lower_X1_suspect : GoodIn wsX1_lower (wsV RX1 63 RX1 yX1_suspect wsX1_suspect) := goodIn_app (goodIn_of _ (by decide +kernel)) ggX1_lower_X1_suspect
set_option maxRecDepth 20000 in
theorem ggX1_lower_X1_tellWish : GoodIn wsX1_lower wsX1_tellWish := goodIn_r _ [28, 2, 1, 29, 18, 19, 20, 21, 22, 23, 24, 35, 36, 37, 38, 39, 40, 41, 42, 43, 44, 45, 46, 47, 48, 49, 50, 51] (by decide +kernel) (by decide +kernel)
set_option maxRecDepth 20000 in
theorem gX1_lower_X1_tellWish : GoodIn wsX1_lower (wsV RX1 66 RX1 yX1_tellWish wsX1_tellWish) := goodIn_app (goodIn_of _ (by decide +kernel)) ggX1_lower_X1_tellWish
set_option maxRecDepth 20000 in
theorem ggX1_lower_X5_blackenUnlessGreen : GoodIn wsX1_lower wsX5_blackenUnlessGreen := goodIn_r _ [33, 17, 34, 13, 14, 15, 16, 35, 36, 37, 38, 39, 40, 41, 42, 43, 44, 45] (by decide +kernel) (by decide +kernel)
set_option maxRecDepth 20000 in
theorem gX1_lower_X5_blackenUnlessGreen : GoodIn wsX1_lower (wsV RX1 34 RX5 yX5_blackenUnlessGreen wsX5_blackenUnlessGreen) := goodIn_app (goodIn_of _ (by decide +kernel)) ggX1_lower_X5_blackenUnlessGreen
set_option maxRecDepth 20000 in
theorem ggX1_lower_X3_append : GoodIn wsX1_lower wsX3_append := goodIn_r _ [22, 23, 24, 50, 51] (by decide +kernel) (by decide +kernel)
set_option maxRecDepth 20000 in
theorem gX1_lower_X3_append : GoodIn wsX1_lower (wsV RX1 60 RX3 yX3_append wsX3_append) := goodIn_app (goodIn_of _ (by decide +kernel)) ggX1_lower_X3_append
theorem dX1_lower_0 : decode cX1_lower 0 = .ok (.aload_n 1, 1) := by decide +kernel
theorem dX1_lower_1 : decode cX1_lower 1 = .ok (.dup, 1) := by decide +kernel
theorem dX1_lower_2 : decode cX1_lower 2 = .ok (.getfield 28, 3) := by decide +kernel
theorem dX1_lower_5 : decode cX1_lower 5 = .ok (.iconst 1, 1) := by decide +kernel
theorem dX1_lower_6 : decode cX1_lower 6 = .ok (.isub, 1) := by decide +kernel
theorem dX1_lower_7 : decode cX1_lower 7 = .ok (.putfield 28, 3) := by decide +kernel
theorem dX1_lower_10 : decode cX1_lower 10 = .ok (.aload_n 1, 1) := by decide +kernel
theorem dX1_lower_11 : decode cX1_lower 11 = .ok (.getfield 28, 3) := by decide +kernel
theorem dX1_lower_14 : decode cX1_lower 14 = .ok (.ifCond .le 11, 3) := by decide +kernel
theorem dX1_lower_17 : decode cX1_lower 17 = .ok (.aload_n 0, 1) := by decide +kernel
theorem dX1_lower_18 : decode cX1_lower 18 = .ok (.aload_n 1, 1) := by decide +kernel
theorem dX1_lower_19 : decode cX1_lower 19 = .ok (.invokevirtual 63, 3) := by decide +kernel
theorem dX1_lower_22 : decode cX1_lower 22 = .ok (.goto 30, 3) := by decide +kernel
theorem dX1_lower_25 : decode cX1_lower 25 = .ok (.aload_n 1, 1) := by decide +kernel
theorem dX1_lower_26 : decode cX1_lower 26 = .ok (.getfield 56, 3) := by decide +kernel
theorem dX1_lower_29 : decode cX1_lower 29 = .ok (.ifCond .eq 15, 3) := by decide +kernel
theorem dX1_lower_32 : decode cX1_lower 32 = .ok (.aload_n 0, 1) := by decide +kernel
theorem dX1_lower_33 : decode cX1_lower 33 = .ok (.aload_n 1, 1) := by decide +kernel
theorem dX1_lower_34 : decode cX1_lower 34 = .ok (.invokevirtual 66, 3) := by decide +kernel
theorem dX1_lower_37 : decode cX1_lower 37 = .ok (.aload_n 1, 1) := by decide +kernel
theorem dX1_lower_38 : decode cX1_lower 38 = .ok (.invokevirtual 34, 3) := by decide +kernel
theorem dX1_lower_41 : decode cX1_lower 41 = .ok (.goto 11, 3) := by decide +kernel
theorem dX1_lower_44 : decode cX1_lower 44 = .ok (.aload_n 0, 1) := by decide +kernel
theorem dX1_lower_45 : decode cX1_lower 45 = .ok (.getfield 12, 3) := by decide +kernel
theorem dX1_lower_48 : decode cX1_lower 48 = .ok (.aload_n 1, 1) := by decide +kernel
theorem dX1_lower_49 : decode cX1_lower 49 = .ok (.invokevirtual 60, 3) := by decide +kernel
theorem dX1_lower_52 : decode cX1_lower 52 = .ok (.return_, 1) := by decide +kernel
set_option maxRecDepth 20000 in
theorem ggX1_suspect_X5_isGreen : GoodIn wsX1_suspect wsX5_isGreen := goodIn_r _ [8, 9, 17, 18, 19, 20, 21, 22, 23, 24, 25, 26, 27] (by decide +kernel) (by decide +kernel)
set_option maxRecDepth 20000 in
theorem gX1_suspect_X5_isGreen : GoodIn wsX1_suspect (wsV RX1 69 RX5 yX5_isGreen wsX5_isGreen) := goodIn_app (goodIn_of _ (by decide +kernel)) ggX1_suspect_X5_isGreen
set_option maxRecDepth 20000 in
theorem ggX1_suspect_X3_append : GoodIn wsX1_suspect wsX3_append := goodIn_r _ [14, 15, 16, 32, 33] (by decide +kernel) (by decide +kernel)
set_option maxRecDepth 20000 in
theorem gX1_suspect_X3_append : GoodIn wsX1_suspect (wsV RX1 60 RX3 yX3_append wsX3_append) := goodIn_app (goodIn_of _ (by decide +kernel)) ggX1_suspect_X3_append
theorem dX1_suspect_0 : decode cX1_suspect 0 = .ok (.aload_n 1, 1) := by decide +kernel
theorem dX1_suspect_1 : decode cX1_suspect 1 = .ok (.invokevirtual 69, 3) := by decide +kernel
theorem dX1_suspect_4 : decode cX1_suspect 4 = .ok (.ifCond .eq 4, 3) := by decide +kernel
theorem dX1_suspect_7 : decode cX1_suspect 7 = .ok (.return_, 1) := by decide +kernel
theorem dX1_suspect_8 : decode cX1_suspect 8 = .ok (.aload_n 1, 1) := by decide +kernel
theorem dX1_suspect_9 : decode cX1_suspect 9 = .ok (.iconst 3, 1) := by decide +kernel
theorem dX1_suspect_10 : decode cX1_suspect 10 = .ok (.putfield 73, 3) := by decide +kernel
theorem dX1_suspect_13 : decode cX1_suspect 13 = .ok (.aload_n 1, 1) := by decide +kernel
theorem dX1_suspect_14 : decode cX1_suspect 14 = .ok (.getfield 76, 3) := by decide +kernel
theorem dX1_suspect_17 : decode cX1_suspect 17 = .ok (.ifCond .ne 16, 3) := by decide +kernel
theorem dX1_suspect_20 : decode cX1_suspect 20 = .ok (.aload_n 1, 1) := by decide +kernel
theorem dX1_suspect_21 : decode cX1_suspect 21 = .ok (.iconst 1, 1) := by decide +kernel
theorem dX1_suspect_22 : decode cX1_suspect 22 = .ok (.putfield 76, 3) := by decide +kernel
theorem dX1_suspect_25 : decode cX1_suspect 25 = .ok (.aload_n 0, 1) := by decide +kernel
theorem dX1_suspect_26 : decode cX1_suspect 26 = .ok (.getfield 18, 3) := by decide +kernel
theorem dX1_suspect_29 : decode cX1_suspect 29 = .ok (.aload_n 1, 1) := by decide +kernel
theorem dX1_suspect_30 : decode cX1_suspect 30 = .ok (.invokevirtual 60, 3) := by decide +kernel
theorem dX1_suspect_33 : decode cX1_suspect 33 = .ok (.return_, 1) := by decide +kernel
set_option maxRecDepth 20000 in
theorem ggX1_finish_X3_removeLast : GoodIn wsX1_finish wsX3_removeLast := goodIn_r _ [9, 10, 62, 63] (by decide +kernel) (by decide +kernel)
set_option maxRecDepth 20000 in
theorem gX1_finish_X3_removeLast : GoodIn wsX1_finish (wsV RX1 79 RX3 yX3_removeLast wsX3_removeLast) := goodIn_app (goodIn_of _ (by decide +kernel)) ggX1_finish_X3_removeLast
set_option maxRecDepth 20000 in
theorem ggX1_finish_X5_blackenUnlessGreen : GoodIn wsX1_finish wsX5_blackenUnlessGreen := goodIn_r _ [15, 16, 17, 18, 19, 14, 20, 51, 52, 53, 54, 55, 56, 57, 58, 59, 60, 61] (by decide +kernel) (by decide +kernel)
set_option maxRecDepth 20000 in
theorem gX1_finish_X5_blackenUnlessGreen : GoodIn wsX1_finish (wsV RX1 34 RX5 yX5_blackenUnlessGreen wsX5_blackenUnlessGreen) := goodIn_app (goodIn_of _ (by decide +kernel)) ggX1_finish_X5_blackenUnlessGreen
set_option maxRecDepth 20000 in
theorem ggX1_finish_X4_free : GoodIn wsX1_finish wsX4_free := goodIn_r _ [25, 26, 27, 28, 29, 30, 31, 32, 33, 34, 35, 36, 37, 38, 39, 40, 41, 42, 43, 44, 45, 46, 51, 52, 53, 54, 55, 56, 57, 58, 59, 60, 61, 64, 65, 66, 67, 68, 69, 70, 71, 72, 73, 74, 75] (by decide +kernel) (by decide +kernel)
set_option maxRecDepth 20000 in
theorem gX1_finish_X4_free : GoodIn wsX1_finish (wsV RX1 85 RX4 yX4_free wsX4_free) := goodIn_app (goodIn_of _ (by decide +kernel)) ggX1_finish_X4_free
theorem dX1_finish_0 : decode cX1_finish 0 = .ok (.aload_n 0, 1) := by decide +kernel
theorem dX1_finish_1 : decode cX1_finish 1 = .ok (.getfield 12, 3) := by decide +kernel
theorem dX1_finish_4 : decode cX1_finish 4 = .ok (.invokevirtual 79, 3) := by decide +kernel
theorem dX1_finish_7 : decode cX1_finish 7 = .ok (.aload_n 1, 1) := by decide +kernel
theorem dX1_finish_8 : decode cX1_finish 8 = .ok (.invokevirtual 34, 3) := by decide +kernel
theorem dX1_finish_11 : decode cX1_finish 11 = .ok (.aload_n 1, 1) := by decide +kernel
theorem dX1_finish_12 : decode cX1_finish 12 = .ok (.getfield 76, 3) := by decide +kernel
theorem dX1_finish_15 : decode cX1_finish 15 = .ok (.ifCond .eq 11, 3) := by decide +kernel
theorem dX1_finish_18 : decode cX1_finish 18 = .ok (.aload_n 1, 1) := by decide +kernel
theorem dX1_finish_19 : decode cX1_finish 19 = .ok (.iconst 1, 1) := by decide +kernel
theorem dX1_finish_20 : decode cX1_finish 20 = .ok (.putfield 82, 3) := by decide +kernel
theorem dX1_finish_23 : decode cX1_finish 23 = .ok (.goto 11, 3) := by decide +kernel
theorem dX1_finish_26 : decode cX1_finish 26 = .ok (.aload_n 0, 1) := by decide +kernel
theorem dX1_finish_27 : decode cX1_finish 27 = .ok (.getfield 24, 3) := by decide +kernel
theorem dX1_finish_30 : decode cX1_finish 30 = .ok (.aload_n 1, 1) := by decide +kernel
theorem dX1_finish_31 : decode cX1_finish 31 = .ok (.invokevirtual 85, 3) := by decide +kernel
theorem dX1_finish_34 : decode cX1_finish 34 = .ok (.return_, 1) := by decide +kernel
theorem dX2_init_0 : decode cX2_init 0 = .ok (.aload_n 0, 1) := by decide +kernel
theorem dX2_init_1 : decode cX2_init 1 = .ok (.invokespecial 1, 3) := by decide +kernel
theorem dX2_init_4 : decode cX2_init 4 = .ok (.aload_n 0, 1) := by decide +kernel
theorem dX2_init_5 : decode cX2_init 5 = .ok (.iload_n 1, 1) := by decide +kernel
theorem dX2_init_6 : decode cX2_init 6 = .ok (.putfield 7, 3) := by decide +kernel
theorem dX2_init_9 : decode cX2_init 9 = .ok (.aload_n 0, 1) := by decide +kernel
theorem dX2_init_10 : decode cX2_init 10 = .ok (.iload_n 2, 1) := by decide +kernel
theorem dX2_init_11 : decode cX2_init 11 = .ok (.putfield 13, 3) := by decide +kernel
theorem dX2_init_14 : decode cX2_init 14 = .ok (.aload_n 0, 1) := by decide +kernel
theorem dX2_init_15 : decode cX2_init 15 = .ok (.iload_n 3, 1) := by decide +kernel
theorem dX2_init_16 : decode cX2_init 16 = .ok (.putfield 16, 3) := by decide +kernel
theorem dX2_init_19 : decode cX2_init 19 = .ok (.aload_n 0, 1) := by decide +kernel
theorem dX2_init_20 : decode cX2_init 20 = .ok (.iload 4, 2) := by decide +kernel
theorem dX2_init_22 : decode cX2_init 22 = .ok (.putfield 19, 3) := by decide +kernel
theorem dX2_init_25 : decode cX2_init 25 = .ok (.return_, 1) := by decide +kernel
theorem dX3_init_0 : decode cX3_init 0 = .ok (.aload_n 0, 1) := by decide +kernel
theorem dX3_init_1 : decode cX3_init 1 = .ok (.invokespecial 3, 3) := by decide +kernel
theorem dX3_init_4 : decode cX3_init 4 = .ok (.aload_n 0, 1) := by decide +kernel
theorem dX3_init_5 : decode cX3_init 5 = .ok (.bipush 80, 2) := by decide +kernel
theorem dX3_init_7 : decode cX3_init 7 = .ok (.anewarray 9, 3) := by decide +kernel
theorem dX3_init_10 : decode cX3_init 10 = .ok (.putfield 11, 3) := by decide +kernel
theorem dX3_init_13 : decode cX3_init 13 = .ok (.return_, 1) := by decide +kernel
theorem dX3_append_0 : decode cX3_append 0 = .ok (.aload_n 0, 1) := by decide +kernel
theorem dX3_append_1 : decode cX3_append 1 = .ok (.getfield 17, 3) := by decide +kernel
theorem dX3_append_4 : decode cX3_append 4 = .ok (.aload_n 0, 1) := by decide +kernel
theorem dX3_append_5 : decode cX3_append 5 = .ok (.getfield 11, 3) := by decide +kernel
theorem dX3_append_8 : decode cX3_append 8 = .ok (.arraylength, 1) := by decide +kernel
theorem dX3_append_9 : decode cX3_append 9 = .ok (.if_icmp .ge 23, 3) := by decide +kernel
theorem dX3_append_12 : decode cX3_append 12 = .ok (.aload_n 0, 1) := by decide +kernel
theorem dX3_append_13 : decode cX3_append 13 = .ok (.getfield 11, 3) := by decide +kernel
theorem dX3_append_16 : decode cX3_append 16 = .ok (.aload_n 0, 1) := by decide +kernel
theorem dX3_append_17 : decode cX3_append 17 = .ok (.getfield 17, 3) := by decide +kernel
theorem dX3_append_20 : decode cX3_append 20 = .ok (.aload_n 1, 1) := by decide +kernel
theorem dX3_append_21 : decode cX3_append 21 = .ok (.aastore, 1) := by decide +kernel
theorem dX3_append_22 : decode cX3_append 22 = .ok (.aload_n 0, 1) := by decide +kernel
theorem dX3_append_23 : decode cX3_append 23 = .ok (.dup, 1) := by decide +kernel
theorem dX3_append_24 : decode cX3_append 24 = .ok (.getfield 17, 3) := by decide +kernel
theorem dX3_append_27 : decode cX3_append 27 = .ok (.iconst 1, 1) := by decide +kernel
theorem dX3_append_28 : decode cX3_append 28 = .ok (.iadd, 1) := by decide +kernel
theorem dX3_append_29 : decode cX3_append 29 = .ok (.putfield 17, 3) := by decide +kernel
theorem dX3_append_32 : decode cX3_append 32 = .ok (.return_, 1) := by decide +kernel
theorem dX3_item_0 : decode cX3_item 0 = .ok (.iload_n 1, 1) := by decide +kernel
theorem dX3_item_1 : decode cX3_item 1 = .ok (.ifCond .lt 29, 3) := by decide +kernel
theorem dX3_item_4 : decode cX3_item 4 = .ok (.iload_n 1, 1) := by decide +kernel
theorem dX3_item_5 : decode cX3_item 5 = .ok (.aload_n 0, 1) := by decide +kernel
theorem dX3_item_6 : decode cX3_item 6 = .ok (.getfield 17, 3) := by decide +kernel
theorem dX3_item_9 : decode cX3_item 9 = .ok (.if_icmp .ge 21, 3) := by decide +kernel
theorem dX3_item_12 : decode cX3_item 12 = .ok (.iload_n 1, 1) := by decide +kernel
theorem dX3_item_13 : decode cX3_item 13 = .ok (.aload_n 0, 1) := by decide +kernel
theorem dX3_item_14 : decode cX3_item 14 = .ok (.getfield 11, 3) := by decide +kernel
theorem dX3_item_17 : decode cX3_item 17 = .ok (.arraylength, 1) := by decide +kernel
theorem dX3_item_18 : decode cX3_item 18 = .ok (.if_icmp .ge 12, 3) := by decide +kernel
theorem dX3_item_21 : decode cX3_item 21 = .ok (.aload_n 0, 1) := by decide +kernel
theorem dX3_item_22 : decode cX3_item 22 = .ok (.getfield 11, 3) := by decide +kernel
theorem dX3_item_25 : decode cX3_item 25 = .ok (.iload_n 1, 1) := by decide +kernel
theorem dX3_item_26 : decode cX3_item 26 = .ok (.aaload, 1) := by decide +kernel
theorem dX3_item_27 : decode cX3_item 27 = .ok (.goto 4, 3) := by decide +kernel
theorem dX3_item_30 : decode cX3_item 30 = .ok (.aconst_null, 1) := by decide +kernel
theorem dX3_item_31 : decode cX3_item 31 = .ok (.areturn, 1) := by decide +kernel
set_option maxRecDepth 20000 in
theorem ggX3_last_X3_item : GoodIn wsX3_last wsX3_item := goodIn_r _ [6, 1, 7, 8, 9] (by decide +kernel) (by decide +kernel)
set_option maxRecDepth 20000 in
theorem gX3_last_X3_item : GoodIn wsX3_last (wsV RX3 21 RX3 yX3_item wsX3_item) := goodIn_app (goodIn_of _ (by decide +kernel)) ggX3_last_X3_item
theorem dX3_last_0 : decode cX3_last 0 = .ok (.aload_n 0, 1) := by decide +kernel
theorem dX3_last_1 : decode cX3_last 1 = .ok (.aload_n 0, 1) := by decide +kernel
theorem dX3_last_2 : decode cX3_last 2 = .ok (.getfield 17, 3) := by decide +kernel
theorem dX3_last_5 : decode cX3_last 5 = .ok (.iconst 1, 1) := by decide +kernel
theorem dX3_last_6 : decode cX3_last 6 = .ok (.isub, 1) := by decide +kernel
theorem dX3_last_7 : decode cX3_last 7 = .ok (.invokevirtual 21, 3) := by decide +kernel
theorem dX3_last_10 : decode cX3_last 10 = .ok (.areturn, 1) := by decide +kernel
theorem dX3_removeLast_0 : decode cX3_removeLast 0 = .ok (.aload_n 0, 1) := by decide +kernel
theorem dX3_removeLast_1 : decode cX3_removeLast 1 = .ok (.getfield 17, 3) := by decide +kernel
theorem dX3_removeLast_4 : decode cX3_removeLast 4 = .ok (.ifCond .le 13, 3) := by decide +kernel
theorem dX3_removeLast_7 : decode cX3_removeLast 7 = .ok (.aload_n 0, 1) := by decide +kernel
theorem dX3_removeLast_8 : decode cX3_removeLast 8 = .ok (.dup, 1) := by decide +kernel
theorem dX3_removeLast_9 : decode cX3_removeLast 9 = .ok (.getfield 17, 3) := by decide +kernel
theorem dX3_removeLast_12 : decode cX3_removeLast 12 = .ok (.iconst 1, 1) := by decide +kernel
theorem dX3_removeLast_13 : decode cX3_removeLast 13 = .ok (.isub, 1) := by decide +kernel
theorem dX3_removeLast_14 : decode cX3_removeLast 14 = .ok (.putfield 17, 3) := by decide +kernel
theorem dX3_removeLast_17 : decode cX3_removeLast 17 = .ok (.return_, 1) := by decide +kernel
set_option maxRecDepth 20000 in
theorem ggX3_takeFirst_X3_item : GoodIn wsX3_takeFirst wsX3_item := goodIn_r _ [7, 1, 2, 8, 9] (by decide +kernel) (by decide +kernel)
set_option maxRecDepth 20000 in
theorem gX3_takeFirst_X3_item : GoodIn wsX3_takeFirst (wsV RX3 21 RX3 yX3_item wsX3_item) := goodIn_app (goodIn_of _ (by decide +kernel)) ggX3_takeFirst_X3_item
theorem dX3_takeFirst_0 : decode cX3_takeFirst 0 = .ok (.aload_n 0, 1) := by decide +kernel
theorem dX3_takeFirst_1 : decode cX3_takeFirst 1 = .ok (.iconst 0, 1) := by decide +kernel
theorem dX3_takeFirst_2 : decode cX3_takeFirst 2 = .ok (.invokevirtual 21, 3) := by decide +kernel
theorem dX3_takeFirst_5 : decode cX3_takeFirst 5 = .ok (.astore_n 1, 1) := by decide +kernel
theorem dX3_takeFirst_6 : decode cX3_takeFirst 6 = .ok (.aload_n 1, 1) := by decide +kernel
theorem dX3_takeFirst_7 : decode cX3_takeFirst 7 = .ok (.ifnull 54, 3) := by decide +kernel
theorem dX3_takeFirst_10 : decode cX3_takeFirst 10 = .ok (.aload_n 0, 1) := by decide +kernel
theorem dX3_takeFirst_11 : decode cX3_takeFirst 11 = .ok (.dup, 1) := by decide +kernel
theorem dX3_takeFirst_12 : decode cX3_takeFirst 12 = .ok (.getfield 17, 3) := by decide +kernel
theorem dX3_takeFirst_15 : decode cX3_takeFirst 15 = .ok (.iconst 1, 1) := by decide +kernel
theorem dX3_takeFirst_16 : decode cX3_takeFirst 16 = .ok (.isub, 1) := by decide +kernel
theorem dX3_takeFirst_17 : decode cX3_takeFirst 17 = .ok (.putfield 17, 3) := by decide +kernel
theorem dX3_takeFirst_20 : decode cX3_takeFirst 20 = .ok (.iconst 0, 1) := by decide +kernel
theorem dX3_takeFirst_21 : decode cX3_takeFirst 21 = .ok (.istore_n 2, 1) := by decide +kernel
theorem dX3_takeFirst_22 : decode cX3_takeFirst 22 = .ok (.iload_n 2, 1) := by decide +kernel
theorem dX3_takeFirst_23 : decode cX3_takeFirst 23 = .ok (.aload_n 0, 1) := by decide +kernel
theorem dX3_takeFirst_24 : decode cX3_takeFirst 24 = .ok (.getfield 17, 3) := by decide +kernel
theorem dX3_takeFirst_27 : decode cX3_takeFirst 27 = .ok (.if_icmp .ge 34, 3) := by decide +kernel
theorem dX3_takeFirst_30 : decode cX3_takeFirst 30 = .ok (.iload_n 2, 1) := by decide +kernel
theorem dX3_takeFirst_31 : decode cX3_takeFirst 31 = .ok (.iconst 1, 1) := by decide +kernel
theorem dX3_takeFirst_32 : decode cX3_takeFirst 32 = .ok (.iadd, 1) := by decide +kernel
theorem dX3_takeFirst_33 : decode cX3_takeFirst 33 = .ok (.aload_n 0, 1) := by decide +kernel
theorem dX3_takeFirst_34 : decode cX3_takeFirst 34 = .ok (.getfield 11, 3) := by decide +kernel
theorem dX3_takeFirst_37 : decode cX3_takeFirst 37 = .ok (.arraylength, 1) := by decide +kernel
theorem dX3_takeFirst_38 : decode cX3_takeFirst 38 = .ok (.if_icmp .ge 23, 3) := by decide +kernel
theorem dX3_takeFirst_41 : decode cX3_takeFirst 41 = .ok (.aload_n 0, 1) := by decide +kernel
theorem dX3_takeFirst_42 : decode cX3_takeFirst 42 = .ok (.getfield 11, 3) := by decide +kernel
theorem dX3_takeFirst_45 : decode cX3_takeFirst 45 = .ok (.iload_n 2, 1) := by decide +kernel
theorem dX3_takeFirst_46 : decode cX3_takeFirst 46 = .ok (.aload_n 0, 1) := by decide +kernel
theorem dX3_takeFirst_47 : decode cX3_takeFirst 47 = .ok (.getfield 11, 3) := by decide +kernel
theorem dX3_takeFirst_50 : decode cX3_takeFirst 50 = .ok (.iload_n 2, 1) := by decide +kernel
theorem dX3_takeFirst_51 : decode cX3_takeFirst 51 = .ok (.iconst 1, 1) := by decide +kernel
theorem dX3_takeFirst_52 : decode cX3_takeFirst 52 = .ok (.iadd, 1) := by decide +kernel
theorem dX3_takeFirst_53 : decode cX3_takeFirst 53 = .ok (.aaload, 1) := by decide +kernel
theorem dX3_takeFirst_54 : decode cX3_takeFirst 54 = .ok (.aastore, 1) := by decide +kernel
theorem dX3_takeFirst_55 : decode cX3_takeFirst 55 = .ok (.iinc 2 1, 3) := by decide +kernel
theorem dX3_takeFirst_58 : decode cX3_takeFirst 58 = .ok (.goto (-36), 3) := by decide +kernel
theorem dX3_takeFirst_61 : decode cX3_takeFirst 61 = .ok (.aload_n 1, 1) := by decide +kernel
theorem dX3_takeFirst_62 : decode cX3_takeFirst 62 = .ok (.areturn, 1) := by decide +kernel
theorem dX3_clear_0 : decode cX3_clear 0 = .ok (.aload_n 0, 1) := by decide +kernel
theorem dX3_clear_1 : decode cX3_clear 1 = .ok (.iconst 0, 1) := by decide +kernel
theorem dX3_clear_2 : decode cX3_clear 2 = .ok (.putfield 17, 3) := by decide +kernel
theorem dX3_clear_5 : decode cX3_clear 5 = .ok (.return_, 1) := by decide +kernel
set_option maxRecDepth 20000 in
theorem ggX4_init_X6_init : GoodIn wsX4_init wsX6_init := goodIn_r _ [14, 15, 2, 3, 16, 17, 18, 25, 26] (by decide +kernel) (by decide +kernel)
set_option maxRecDepth 20000 in
theorem gX4_init_X6_init_n26 : GoodIn wsX4_init (wsX6_init) := ggX4_init_X6_init
theorem dX4_init_0 : decode cX4_init 0 = .ok (.aload_n 0, 1) := by decide +kernel
theorem dX4_init_1 : decode cX4_init 1 = .ok (.invokespecial 3, 3) := by decide +kernel
theorem dX4_init_4 : decode cX4_init 4 = .ok (.aload_n 0, 1) := by decide +kernel
theorem dX4_init_5 : decode cX4_init 5 = .ok (.bipush 80, 2) := by decide +kernel
theorem dX4_init_7 : decode cX4_init 7 = .ok (.anewarray 9, 3) := by decide +kernel
theorem dX4_init_10 : decode cX4_init 10 = .ok (.putfield 11, 3) := by decide +kernel
theorem dX4_init_13 : decode cX4_init 13 = .ok (.aload_n 0, 1) := by decide +kernel
theorem dX4_init_14 : decode cX4_init 14 = .ok (.bipush 100, 2) := by decide +kernel
theorem dX4_init_16 : decode cX4_init 16 = .ok (.newarray .int, 2) := by decide +kernel
theorem dX4_init_18 : decode cX4_init 18 = .ok (.putfield 17, 3) := by decide +kernel
theorem dX4_init_21 : decode cX4_init 21 = .ok (.aload_n 0, 1) := by decide +kernel
theorem dX4_init_22 : decode cX4_init 22 = .ok (.bipush 20, 2) := by decide +kernel
theorem dX4_init_24 : decode cX4_init 24 = .ok (.anewarray 9, 3) := by decide +kernel
theorem dX4_init_27 : decode cX4_init 27 = .ok (.putfield 21, 3) := by decide +kernel
theorem dX4_init_30 : decode cX4_init 30 = .ok (.aload_n 0, 1) := by decide +kernel
theorem dX4_init_31 : decode cX4_init 31 = .ok (.new 24, 3) := by decide +kernel
theorem dX4_init_34 : decode cX4_init 34 = .ok (.dup, 1) := by decide +kernel
theorem dX4_init_35 : decode cX4_init 35 = .ok (.invokespecial 26, 3) := by decide +kernel
theorem dX4_init_38 : decode cX4_init 38 = .ok (.putfield 27, 3) := by decide +kernel
theorem dX4_init_41 : decode cX4_init 41 = .ok (.return_, 1) := by decide +kernel
theorem dX4_thing_0 : decode cX4_thing 0 = .ok (.iload_n 1, 1) := by decide +kernel
theorem dX4_thing_1 : decode cX4_thing 1 = .ok (.ifCond .lt 18, 3) := by decide +kernel
theorem dX4_thing_4 : decode cX4_thing 4 = .ok (.iload_n 1, 1) := by decide +kernel
theorem dX4_thing_5 : decode cX4_thing 5 = .ok (.bipush 80, 2) := by decide +kernel
theorem dX4_thing_7 : decode cX4_thing 7 = .ok (.if_icmp .ge 12, 3) := by decide +kernel
theorem dX4_thing_10 : decode cX4_thing 10 = .ok (.aload_n 0, 1) := by decide +kernel
theorem dX4_thing_11 : decode cX4_thing 11 = .ok (.getfield 11, 3) := by decide +kernel
theorem dX4_thing_14 : decode cX4_thing 14 = .ok (.iload_n 1, 1) := by decide +kernel
theorem dX4_thing_15 : decode cX4_thing 15 = .ok (.aaload, 1) := by decide +kernel
theorem dX4_thing_16 : decode cX4_thing 16 = .ok (.goto 4, 3) := by decide +kernel
theorem dX4_thing_19 : decode cX4_thing 19 = .ok (.aconst_null, 1) := by decide +kernel
theorem dX4_thing_20 : decode cX4_thing 20 = .ok (.areturn, 1) := by decide +kernel
set_option maxRecDepth 20000 in
theorem ggX4_living_X4_thing : GoodIn wsX4_living wsX4_thing := goodIn_r _ [6, 7, 19, 20, 21, 22, 23, 24] (by decide +kernel) (by decide +kernel)
set_option maxRecDepth 20000 in
theorem gX4_living_X4_thing : GoodIn wsX4_living (wsV RX4 31 RX4 yX4_thing wsX4_thing) := goodIn_app (goodIn_of _ (by decide +kernel)) ggX4_living_X4_thing
theorem dX4_living_0 : decode cX4_living 0 = .ok (.aload_n 0, 1) := by decide +kernel
theorem dX4_living_1 : decode cX4_living 1 = .ok (.iload_n 1, 1) := by decide +kernel
theorem dX4_living_2 : decode cX4_living 2 = .ok (.invokevirtual 31, 3) := by decide +kernel
theorem dX4_living_5 : decode cX4_living 5 = .ok (.astore_n 2, 1) := by decide +kernel
theorem dX4_living_6 : decode cX4_living 6 = .ok (.aload_n 2, 1) := by decide +kernel
theorem dX4_living_7 : decode cX4_living 7 = .ok (.ifnull 10, 3) := by decide +kernel
theorem dX4_living_10 : decode cX4_living 10 = .ok (.aload_n 2, 1) := by decide +kernel
theorem dX4_living_11 : decode cX4_living 11 = .ok (.getfield 35, 3) := by decide +kernel
theorem dX4_living_14 : decode cX4_living 14 = .ok (.ifCond .eq 7, 3) := by decide +kernel
theorem dX4_living_17 : decode cX4_living 17 = .ok (.aconst_null, 1) := by decide +kernel
theorem dX4_living_18 : decode cX4_living 18 = .ok (.goto 4, 3) := by decide +kernel
theorem dX4_living_21 : decode cX4_living 21 = .ok (.aload_n 2, 1) := by decide +kernel
theorem dX4_living_22 : decode cX4_living 22 = .ok (.areturn, 1) := by decide +kernel
theorem dX4_leastFreeNumber_0 : decode cX4_leastFreeNumber 0 = .ok (.iconst 0, 1) := by decide +kernel
theorem dX4_leastFreeNumber_1 : decode cX4_leastFreeNumber 1 = .ok (.istore_n 1, 1) := by decide +kernel
theorem dX4_leastFreeNumber_2 : decode cX4_leastFreeNumber 2 = .ok (.iload_n 1, 1) := by decide +kernel
theorem dX4_leastFreeNumber_3 : decode cX4_leastFreeNumber 3 = .ok (.bipush 80, 2) := by decide +kernel
theorem dX4_leastFreeNumber_5 : decode cX4_leastFreeNumber 5 = .ok (.if_icmp .ge 20, 3) := by decide +kernel
theorem dX4_leastFreeNumber_8 : decode cX4_leastFreeNumber 8 = .ok (.aload_n 0, 1) := by decide +kernel
theorem dX4_leastFreeNumber_9 : decode cX4_leastFreeNumber 9 = .ok (.getfield 11, 3) := by decide +kernel
theorem dX4_leastFreeNumber_12 : decode cX4_leastFreeNumber 12 = .ok (.iload_n 1, 1) := by decide +kernel
theorem dX4_leastFreeNumber_13 : decode cX4_leastFreeNumber 13 = .ok (.aaload, 1) := by decide +kernel
theorem dX4_leastFreeNumber_14 : decode cX4_leastFreeNumber 14 = .ok (.ifnonnull 5, 3) := by decide +kernel
theorem dX4_leastFreeNumber_17 : decode cX4_leastFreeNumber 17 = .ok (.iload_n 1, 1) := by decide +kernel
theorem dX4_leastFreeNumber_18 : decode cX4_leastFreeNumber 18 = .ok (.ireturn, 1) := by decide +kernel
theorem dX4_leastFreeNumber_19 : decode cX4_leastFreeNumber 19 = .ok (.iinc 1 1, 3) := by decide +kernel
theorem dX4_leastFreeNumber_22 : decode cX4_leastFreeNumber 22 = .ok (.goto (-20), 3) := by decide +kernel
theorem dX4_leastFreeNumber_25 : decode cX4_leastFreeNumber 25 = .ok (.iconst (-1), 1) := by decide +kernel
theorem dX4_leastFreeNumber_26 : decode cX4_leastFreeNumber 26 = .ok (.ireturn, 1) := by decide +kernel
set_option maxRecDepth 20000 in
theorem ggX4_hasRoomFor_X4_leastFreeNumber : GoodIn wsX4_hasRoomFor wsX4_leastFreeNumber := goodIn_r _ [7, 8, 15, 16, 17, 18, 19, 20] (by decide +kernel) (by decide +kernel)
set_option maxRecDepth 20000 in
theorem gX4_hasRoomFor_X4_leastFreeNumber : GoodIn wsX4_hasRoomFor (wsV RX4 39 RX4 yX4_leastFreeNumber wsX4_leastFreeNumber) := goodIn_app (goodIn_of _ (by decide +kernel)) ggX4_hasRoomFor_X4_leastFreeNumber
set_option maxRecDepth 20000 in
theorem ggX4_hasRoomFor_X6_gapFor : GoodIn wsX4_hasRoomFor wsX6_gapFor := goodIn_r _ [13, 14, 25, 26] (by decide +kernel) (by decide +kernel)
set_option maxRecDepth 20000 in
theorem gX4_hasRoomFor_X6_gapFor : GoodIn wsX4_hasRoomFor (wsV RX4 49 RX6 yX6_gapFor wsX6_gapFor) := goodIn_app (goodIn_of _ (by decide +kernel)) ggX4_hasRoomFor_X6_gapFor
theorem dX4_hasRoomFor_0 : decode cX4_hasRoomFor 0 = .ok (.aload_n 0, 1) := by decide +kernel
theorem dX4_hasRoomFor_1 : decode cX4_hasRoomFor 1 = .ok (.invokevirtual 39, 3) := by decide +kernel
theorem dX4_hasRoomFor_4 : decode cX4_hasRoomFor 4 = .ok (.iconst (-1), 1) := by decide +kernel
theorem dX4_hasRoomFor_5 : decode cX4_hasRoomFor 5 = .ok (.if_icmp .eq 22, 3) := by decide +kernel
theorem dX4_hasRoomFor_8 : decode cX4_hasRoomFor 8 = .ok (.aload_n 0, 1) := by decide +kernel
theorem dX4_hasRoomFor_9 : decode cX4_hasRoomFor 9 = .ok (.getfield 27, 3) := by decide +kernel
theorem dX4_hasRoomFor_12 : decode cX4_hasRoomFor 12 = .ok (.aload_n 1, 1) := by decide +kernel
theorem dX4_hasRoomFor_13 : decode cX4_hasRoomFor 13 = .ok (.getfield 43, 3) := by decide +kernel
theorem dX4_hasRoomFor_16 : decode cX4_hasRoomFor 16 = .ok (.invokevirtual 49, 3) := by decide +kernel
theorem dX4_hasRoomFor_19 : decode cX4_hasRoomFor 19 = .ok (.iconst (-1), 1) := by decide +kernel
theorem dX4_hasRoomFor_20 : decode cX4_hasRoomFor 20 = .ok (.if_icmp .eq 7, 3) := by decide +kernel
theorem dX4_hasRoomFor_23 : decode cX4_hasRoomFor 23 = .ok (.iconst 1, 1) := by decide +kernel
theorem dX4_hasRoomFor_24 : decode cX4_hasRoomFor 24 = .ok (.goto 4, 3) := by decide +kernel
theorem dX4_hasRoomFor_27 : decode cX4_hasRoomFor 27 = .ok (.iconst 0, 1) := by decide +kernel
theorem dX4_hasRoomFor_28 : decode cX4_hasRoomFor 28 = .ok (.ireturn, 1) := by decide +kernel
set_option maxRecDepth 20000 in
theorem ggX4_place_X4_leastFreeNumber : GoodIn wsX4_place wsX4_leastFreeNumber := goodIn_r _ [12, 6, 43, 44, 45, 46, 47, 48] (by decide +kernel) (by decide +kernel)
set_option maxRecDepth 20000 in
theorem gX4_place_X4_leastFreeNumber : GoodIn wsX4_place (wsV RX4 39 RX4 yX4_leastFreeNumber wsX4_leastFreeNumber) := goodIn_app (goodIn_of _ (by decide +kernel)) ggX4_place_X4_leastFreeNumber
set_option maxRecDepth 20000 in
theorem ggX4_place_X6_gapFor : GoodIn wsX4_place wsX6_gapFor := goodIn_r _ [17, 18, 64, 65] (by decide +kernel) (by decide +kernel)
set_option maxRecDepth 20000 in
theorem gX4_place_X6_gapFor : GoodIn wsX4_place (wsV RX4 49 RX6 yX6_gapFor wsX6_gapFor) := goodIn_app (goodIn_of _ (by decide +kernel)) ggX4_place_X6_gapFor
set_option maxRecDepth 20000 in
theorem ggX4_place_X5_init : GoodIn wsX4_place wsX5_init := goodIn_r _ [21, 22, 23, 24, 25, 26, 27, 28, 29, 30, 31, 32, 33, 34, 53, 54, 55, 56, 57, 58, 59, 60, 61, 62, 63, 49, 50, 51, 52] (by decide +kernel) (by decide +kernel)
set_option maxRecDepth 20000 in
theorem gX4_place_X5_init : GoodIn wsX4_place (wsX5_init) := ggX4_place_X5_init
set_option maxRecDepth 20000 in
theorem ggX4_place_X6_give : GoodIn wsX4_place wsX6_give := goodIn_r _ [38, 39, 40, 18, 41, 42, 53, 54, 55, 56, 57, 58, 59, 60, 61, 62, 63, 49, 50, 51, 52, 64, 65] (by decide +kernel) (by decide +kernel)
set_option maxRecDepth 20000 in
theorem gX4_place_X6_give : GoodIn wsX4_place (wsV RX4 56 RX6 yX6_give wsX6_give) := goodIn_app (goodIn_of _ (by decide +kernel)) ggX4_place_X6_give
theorem dX4_place_0 : decode cX4_place 0 = .ok (.aload_n 0, 1) := by decide +kernel
theorem dX4_place_1 : decode cX4_place 1 = .ok (.invokevirtual 39, 3) := by decide +kernel
theorem dX4_place_4 : decode cX4_place 4 = .ok (.istore_n 2, 1) := by decide +kernel
theorem dX4_place_5 : decode cX4_place 5 = .ok (.aload_n 0, 1) := by decide +kernel
theorem dX4_place_6 : decode cX4_place 6 = .ok (.getfield 27, 3) := by decide +kernel
theorem dX4_place_9 : decode cX4_place 9 = .ok (.aload_n 1, 1) := by decide +kernel
theorem dX4_place_10 : decode cX4_place 10 = .ok (.getfield 43, 3) := by decide +kernel
theorem dX4_place_13 : decode cX4_place 13 = .ok (.invokevirtual 49, 3) := by decide +kernel
theorem dX4_place_16 : decode cX4_place 16 = .ok (.istore_n 3, 1) := by decide +kernel
theorem dX4_place_17 : decode cX4_place 17 = .ok (.iload_n 2, 1) := by decide +kernel
theorem dX4_place_18 : decode cX4_place 18 = .ok (.ifCond .lt 13, 3) := by decide +kernel
theorem dX4_place_21 : decode cX4_place 21 = .ok (.iload_n 2, 1) := by decide +kernel
theorem dX4_place_22 : decode cX4_place 22 = .ok (.bipush 80, 2) := by decide +kernel
theorem dX4_place_24 : decode cX4_place 24 = .ok (.if_icmp .ge 7, 3) := by decide +kernel
theorem dX4_place_27 : decode cX4_place 27 = .ok (.iload_n 3, 1) := by decide +kernel
theorem dX4_place_28 : decode cX4_place 28 = .ok (.ifCond .ge 6, 3) := by decide +kernel
theorem dX4_place_31 : decode cX4_place 31 = .ok (.bipush (-2), 2) := by decide +kernel
theorem dX4_place_33 : decode cX4_place 33 = .ok (.ireturn, 1) := by decide +kernel
theorem dX4_place_34 : decode cX4_place 34 = .ok (.new 9, 3) := by decide +kernel
theorem dX4_place_37 : decode cX4_place 37 = .ok (.dup, 1) := by decide +kernel
theorem dX4_place_38 : decode cX4_place 38 = .ok (.iload_n 2, 1) := by decide +kernel
theorem dX4_place_39 : decode cX4_place 39 = .ok (.aload_n 1, 1) := by decide +kernel
theorem dX4_place_40 : decode cX4_place 40 = .ok (.invokespecial 53, 3) := by decide +kernel
theorem dX4_place_43 : decode cX4_place 43 = .ok (.astore 4, 2) := by decide +kernel
theorem dX4_place_45 : decode cX4_place 45 = .ok (.aload_n 0, 1) := by decide +kernel
theorem dX4_place_46 : decode cX4_place 46 = .ok (.getfield 27, 3) := by decide +kernel
theorem dX4_place_49 : decode cX4_place 49 = .ok (.aload 4, 2) := by decide +kernel
theorem dX4_place_51 : decode cX4_place 51 = .ok (.iload_n 3, 1) := by decide +kernel
theorem dX4_place_52 : decode cX4_place 52 = .ok (.invokevirtual 56, 3) := by decide +kernel
theorem dX4_place_55 : decode cX4_place 55 = .ok (.aload_n 0, 1) := by decide +kernel
theorem dX4_place_56 : decode cX4_place 56 = .ok (.getfield 11, 3) := by decide +kernel
theorem dX4_place_59 : decode cX4_place 59 = .ok (.iload_n 2, 1) := by decide +kernel
theorem dX4_place_60 : decode cX4_place 60 = .ok (.aload 4, 2) := by decide +kernel
theorem dX4_place_62 : decode cX4_place 62 = .ok (.aastore, 1) := by decide +kernel
theorem dX4_place_63 : decode cX4_place 63 = .ok (.aload_n 0, 1) := by decide +kernel
theorem dX4_place_64 : decode cX4_place 64 = .ok (.dup, 1) := by decide +kernel
theorem dX4_place_65 : decode cX4_place 65 = .ok (.getfield 60, 3) := by decide +kernel
theorem dX4_place_68 : decode cX4_place 68 = .ok (.iconst 1, 1) := by decide +kernel
theorem dX4_place_69 : decode cX4_place 69 = .ok (.iadd, 1) := by decide +kernel
theorem dX4_place_70 : decode cX4_place 70 = .ok (.putfield 60, 3) := by decide +kernel
theorem dX4_place_73 : decode cX4_place 73 = .ok (.iload_n 2, 1) := by decide +kernel
theorem dX4_place_74 : decode cX4_place 74 = .ok (.ireturn, 1) := by decide +kernel
set_option maxRecDepth 20000 in
theorem ggX4_free_X6_takeBack : GoodIn wsX4_free wsX6_takeBack := goodIn_r _ [12, 13, 14, 15, 16, 17, 22, 23, 24, 25, 26, 27, 28, 29, 30, 31, 32, 39, 40, 41, 42, 43, 44] (by decide +kernel) (by decide +kernel)
set_option maxRecDepth 20000 in
theorem gX4_free_X6_takeBack : GoodIn wsX4_free (wsV RX4 66 RX6 yX6_takeBack wsX6_takeBack) := goodIn_app (goodIn_of _ (by decide +kernel)) ggX4_free_X6_takeBack
set_option maxRecDepth 20000 in
theorem ggX4_free_J9_floorMod_7cf53 : GoodIn wsX4_free wsJ9_floorMod_7cf53 := goodIn_r _ [21] (by decide +kernel) (by decide +kernel)
set_option maxRecDepth 20000 in
theorem gX4_free_J9_floorMod_7cf53 : GoodIn wsX4_free (va_wsS RX4 73 yJ9_floorMod_7cf53 wsJ9_floorMod_7cf53) := goodIn_app (goodIn_of _ (by decide +kernel)) ggX4_free_J9_floorMod_7cf53
theorem dX4_free_0 : decode cX4_free 0 = .ok (.aload_n 1, 1) := by decide +kernel
theorem dX4_free_1 : decode cX4_free 1 = .ok (.getfield 63, 3) := by decide +kernel
theorem dX4_free_4 : decode cX4_free 4 = .ok (.istore_n 2, 1) := by decide +kernel
theorem dX4_free_5 : decode cX4_free 5 = .ok (.iload_n 2, 1) := by decide +kernel
theorem dX4_free_6 : decode cX4_free 6 = .ok (.ifCond .lt 9, 3) := by decide +kernel
theorem dX4_free_9 : decode cX4_free 9 = .ok (.iload_n 2, 1) := by decide +kernel
theorem dX4_free_10 : decode cX4_free 10 = .ok (.bipush 80, 2) := by decide +kernel
theorem dX4_free_12 : decode cX4_free 12 = .ok (.if_icmp .lt 4, 3) := by decide +kernel
theorem dX4_free_15 : decode cX4_free 15 = .ok (.return_, 1) := by decide +kernel
theorem dX4_free_16 : decode cX4_free 16 = .ok (.aload_n 0, 1) := by decide +kernel
theorem dX4_free_17 : decode cX4_free 17 = .ok (.getfield 27, 3) := by decide +kernel
theorem dX4_free_20 : decode cX4_free 20 = .ok (.aload_n 1, 1) := by decide +kernel
theorem dX4_free_21 : decode cX4_free 21 = .ok (.invokevirtual 66, 3) := by decide +kernel
theorem dX4_free_24 : decode cX4_free 24 = .ok (.aload_n 0, 1) := by decide +kernel
theorem dX4_free_25 : decode cX4_free 25 = .ok (.getfield 11, 3) := by decide +kernel
theorem dX4_free_28 : decode cX4_free 28 = .ok (.iload_n 2, 1) := by decide +kernel
theorem dX4_free_29 : decode cX4_free 29 = .ok (.aconst_null, 1) := by decide +kernel
theorem dX4_free_30 : decode cX4_free 30 = .ok (.aastore, 1) := by decide +kernel
theorem dX4_free_31 : decode cX4_free 31 = .ok (.aload_n 0, 1) := by decide +kernel
theorem dX4_free_32 : decode cX4_free 32 = .ok (.dup, 1) := by decide +kernel
theorem dX4_free_33 : decode cX4_free 33 = .ok (.getfield 60, 3) := by decide +kernel
theorem dX4_free_36 : decode cX4_free 36 = .ok (.iconst 1, 1) := by decide +kernel
theorem dX4_free_37 : decode cX4_free 37 = .ok (.isub, 1) := by decide +kernel
theorem dX4_free_38 : decode cX4_free 38 = .ok (.putfield 60, 3) := by decide +kernel
theorem dX4_free_41 : decode cX4_free 41 = .ok (.iconst 0, 1) := by decide +kernel
theorem dX4_free_42 : decode cX4_free 42 = .ok (.istore_n 3, 1) := by decide +kernel
theorem dX4_free_43 : decode cX4_free 43 = .ok (.iload_n 3, 1) := by decide +kernel
theorem dX4_free_44 : decode cX4_free 44 = .ok (.bipush 20, 2) := by decide +kernel
theorem dX4_free_46 : decode cX4_free 46 = .ok (.if_icmp .ge 26, 3) := by decide +kernel
theorem dX4_free_49 : decode cX4_free 49 = .ok (.aload_n 0, 1) := by decide +kernel
theorem dX4_free_50 : decode cX4_free 50 = .ok (.getfield 21, 3) := by decide +kernel
theorem dX4_free_53 : decode cX4_free 53 = .ok (.iload_n 3, 1) := by decide +kernel
theorem dX4_free_54 : decode cX4_free 54 = .ok (.aaload, 1) := by decide +kernel
theorem dX4_free_55 : decode cX4_free 55 = .ok (.aload_n 1, 1) := by decide +kernel
theorem dX4_free_56 : decode cX4_free 56 = .ok (.if_acmp .ne 10, 3) := by decide +kernel
theorem dX4_free_59 : decode cX4_free 59 = .ok (.aload_n 0, 1) := by decide +kernel
theorem dX4_free_60 : decode cX4_free 60 = .ok (.getfield 21, 3) := by decide +kernel
theorem dX4_free_63 : decode cX4_free 63 = .ok (.iload_n 3, 1) := by decide +kernel
theorem dX4_free_64 : decode cX4_free 64 = .ok (.aconst_null, 1) := by decide +kernel
theorem dX4_free_65 : decode cX4_free 65 = .ok (.aastore, 1) := by decide +kernel
theorem dX4_free_66 : decode cX4_free 66 = .ok (.iinc 3 1, 3) := by decide +kernel
theorem dX4_free_69 : decode cX4_free 69 = .ok (.goto (-26), 3) := by decide +kernel
theorem dX4_free_72 : decode cX4_free 72 = .ok (.aload_n 0, 1) := by decide +kernel
theorem dX4_free_73 : decode cX4_free 73 = .ok (.getfield 17, 3) := by decide +kernel
theorem dX4_free_76 : decode cX4_free 76 = .ok (.aload_n 0, 1) := by decide +kernel
theorem dX4_free_77 : decode cX4_free 77 = .ok (.getfield 70, 3) := by decide +kernel
theorem dX4_free_80 : decode cX4_free 80 = .ok (.bipush 100, 2) := by decide +kernel
theorem dX4_free_82 : decode cX4_free 82 = .ok (.invokestatic 73, 3) := by decide +kernel
theorem dX4_free_85 : decode cX4_free 85 = .ok (.iload_n 2, 1) := by decide +kernel
theorem dX4_free_86 : decode cX4_free 86 = .ok (.iastore, 1) := by decide +kernel
theorem dX4_free_87 : decode cX4_free 87 = .ok (.aload_n 0, 1) := by decide +kernel
theorem dX4_free_88 : decode cX4_free 88 = .ok (.dup, 1) := by decide +kernel
theorem dX4_free_89 : decode cX4_free 89 = .ok (.getfield 70, 3) := by decide +kernel
theorem dX4_free_92 : decode cX4_free 92 = .ok (.iconst 1, 1) := by decide +kernel
theorem dX4_free_93 : decode cX4_free 93 = .ok (.iadd, 1) := by decide +kernel
theorem dX4_free_94 : decode cX4_free 94 = .ok (.putfield 70, 3) := by decide +kernel
theorem dX4_free_97 : decode cX4_free 97 = .ok (.return_, 1) := by decide +kernel
theorem dX4_freedNumber_0 : decode cX4_freedNumber 0 = .ok (.iload_n 1, 1) := by decide +kernel
theorem dX4_freedNumber_1 : decode cX4_freedNumber 1 = .ok (.ifCond .lt 22, 3) := by decide +kernel
theorem dX4_freedNumber_4 : decode cX4_freedNumber 4 = .ok (.iload_n 1, 1) := by decide +kernel
theorem dX4_freedNumber_5 : decode cX4_freedNumber 5 = .ok (.aload_n 0, 1) := by decide +kernel
theorem dX4_freedNumber_6 : decode cX4_freedNumber 6 = .ok (.getfield 70, 3) := by decide +kernel
theorem dX4_freedNumber_9 : decode cX4_freedNumber 9 = .ok (.if_icmp .ge 14, 3) := by decide +kernel
theorem dX4_freedNumber_12 : decode cX4_freedNumber 12 = .ok (.iload_n 1, 1) := by decide +kernel
theorem dX4_freedNumber_13 : decode cX4_freedNumber 13 = .ok (.aload_n 0, 1) := by decide +kernel
theorem dX4_freedNumber_14 : decode cX4_freedNumber 14 = .ok (.getfield 70, 3) := by decide +kernel
theorem dX4_freedNumber_17 : decode cX4_freedNumber 17 = .ok (.bipush 100, 2) := by decide +kernel
theorem dX4_freedNumber_19 : decode cX4_freedNumber 19 = .ok (.isub, 1) := by decide +kernel
theorem dX4_freedNumber_20 : decode cX4_freedNumber 20 = .ok (.if_icmp .ge 5, 3) := by decide +kernel
theorem dX4_freedNumber_23 : decode cX4_freedNumber 23 = .ok (.iconst (-1), 1) := by decide +kernel
theorem dX4_freedNumber_24 : decode cX4_freedNumber 24 = .ok (.ireturn, 1) := by decide +kernel
theorem dX4_freedNumber_25 : decode cX4_freedNumber 25 = .ok (.aload_n 0, 1) := by decide +kernel
theorem dX4_freedNumber_26 : decode cX4_freedNumber 26 = .ok (.getfield 17, 3) := by decide +kernel
theorem dX4_freedNumber_29 : decode cX4_freedNumber 29 = .ok (.iload_n 1, 1) := by decide +kernel
theorem dX4_freedNumber_30 : decode cX4_freedNumber 30 = .ok (.bipush 100, 2) := by decide +kernel
theorem dX4_freedNumber_32 : decode cX4_freedNumber 32 = .ok (.irem, 1) := by decide +kernel
theorem dX4_freedNumber_33 : decode cX4_freedNumber 33 = .ok (.iaload, 1) := by decide +kernel
theorem dX4_freedNumber_34 : decode cX4_freedNumber 34 = .ok (.ireturn, 1) := by decide +kernel
theorem dX5_init_0 : decode cX5_init 0 = .ok (.aload_n 0, 1) := by decide +kernel
theorem dX5_init_1 : decode cX5_init 1 = .ok (.invokespecial 3, 3) := by decide +kernel
theorem dX5_init_4 : decode cX5_init 4 = .ok (.aload_n 0, 1) := by decide +kernel
theorem dX5_init_5 : decode cX5_init 5 = .ok (.iconst 1, 1) := by decide +kernel
theorem dX5_init_6 : decode cX5_init 6 = .ok (.putfield 9, 3) := by decide +kernel
theorem dX5_init_9 : decode cX5_init 9 = .ok (.aload_n 0, 1) := by decide +kernel
theorem dX5_init_10 : decode cX5_init 10 = .ok (.iconst 1, 1) := by decide +kernel
theorem dX5_init_11 : decode cX5_init 11 = .ok (.putfield 15, 3) := by decide +kernel
theorem dX5_init_14 : decode cX5_init 14 = .ok (.aload_n 0, 1) := by decide +kernel
theorem dX5_init_15 : decode cX5_init 15 = .ok (.iload_n 1, 1) := by decide +kernel
theorem dX5_init_16 : decode cX5_init 16 = .ok (.putfield 18, 3) := by decide +kernel
theorem dX5_init_19 : decode cX5_init 19 = .ok (.aload_n 0, 1) := by decide +kernel
theorem dX5_init_20 : decode cX5_init 20 = .ok (.aload_n 2, 1) := by decide +kernel
theorem dX5_init_21 : decode cX5_init 21 = .ok (.putfield 21, 3) := by decide +kernel
theorem dX5_init_24 : decode cX5_init 24 = .ok (.aload_n 0, 1) := by decide +kernel
theorem dX5_init_25 : decode cX5_init 25 = .ok (.bipush 6, 2) := by decide +kernel
theorem dX5_init_27 : decode cX5_init 27 = .ok (.anewarray 10, 3) := by decide +kernel
theorem dX5_init_30 : decode cX5_init 30 = .ok (.putfield 25, 3) := by decide +kernel
theorem dX5_init_33 : decode cX5_init 33 = .ok (.aload_n 0, 1) := by decide +kernel
theorem dX5_init_34 : decode cX5_init 34 = .ok (.aload_n 2, 1) := by decide +kernel
theorem dX5_init_35 : decode cX5_init 35 = .ok (.getfield 29, 3) := by decide +kernel
theorem dX5_init_38 : decode cX5_init 38 = .ok (.ifCond .ne 7, 3) := by decide +kernel
theorem dX5_init_41 : decode cX5_init 41 = .ok (.iconst 4, 1) := by decide +kernel
theorem dX5_init_42 : decode cX5_init 42 = .ok (.goto 4, 3) := by decide +kernel
theorem dX5_init_45 : decode cX5_init 45 = .ok (.iconst 0, 1) := by decide +kernel
theorem dX5_init_46 : decode cX5_init 46 = .ok (.putfield 34, 3) := by decide +kernel
theorem dX5_init_49 : decode cX5_init 49 = .ok (.aload_n 0, 1) := by decide +kernel
theorem dX5_init_50 : decode cX5_init 50 = .ok (.aload_n 2, 1) := by decide +kernel
theorem dX5_init_51 : decode cX5_init 51 = .ok (.getfield 37, 3) := by decide +kernel
theorem dX5_init_54 : decode cX5_init 54 = .ok (.putfield 41, 3) := by decide +kernel
theorem dX5_init_57 : decode cX5_init 57 = .ok (.return_, 1) := by decide +kernel
theorem dX5_hasField_0 : decode cX5_hasField 0 = .ok (.iload_n 1, 1) := by decide +kernel
theorem dX5_hasField_1 : decode cX5_hasField 1 = .ok (.ifCond .lt 27, 3) := by decide +kernel
theorem dX5_hasField_4 : decode cX5_hasField 4 = .ok (.iload_n 1, 1) := by decide +kernel
theorem dX5_hasField_5 : decode cX5_hasField 5 = .ok (.aload_n 0, 1) := by decide +kernel
theorem dX5_hasField_6 : decode cX5_hasField 6 = .ok (.getfield 21, 3) := by decide +kernel
theorem dX5_hasField_9 : decode cX5_hasField 9 = .ok (.getfield 29, 3) := by decide +kernel
theorem dX5_hasField_12 : decode cX5_hasField 12 = .ok (.if_icmp .ge 16, 3) := by decide +kernel
theorem dX5_hasField_15 : decode cX5_hasField 15 = .ok (.iload_n 1, 1) := by decide +kernel
theorem dX5_hasField_16 : decode cX5_hasField 16 = .ok (.aload_n 0, 1) := by decide +kernel
theorem dX5_hasField_17 : decode cX5_hasField 17 = .ok (.getfield 25, 3) := by decide +kernel
theorem dX5_hasField_20 : decode cX5_hasField 20 = .ok (.arraylength, 1) := by decide +kernel
theorem dX5_hasField_21 : decode cX5_hasField 21 = .ok (.if_icmp .ge 7, 3) := by decide +kernel
theorem dX5_hasField_24 : decode cX5_hasField 24 = .ok (.iconst 1, 1) := by decide +kernel
theorem dX5_hasField_25 : decode cX5_hasField 25 = .ok (.goto 4, 3) := by decide +kernel
theorem dX5_hasField_28 : decode cX5_hasField 28 = .ok (.iconst 0, 1) := by decide +kernel
theorem dX5_hasField_29 : decode cX5_hasField 29 = .ok (.ireturn, 1) := by decide +kernel
theorem dX5_isGreen_0 : decode cX5_isGreen 0 = .ok (.aload_n 0, 1) := by decide +kernel
theorem dX5_isGreen_1 : decode cX5_isGreen 1 = .ok (.getfield 34, 3) := by decide +kernel
theorem dX5_isGreen_4 : decode cX5_isGreen 4 = .ok (.iconst 4, 1) := by decide +kernel
theorem dX5_isGreen_5 : decode cX5_isGreen 5 = .ok (.if_icmp .ne 7, 3) := by decide +kernel
theorem dX5_isGreen_8 : decode cX5_isGreen 8 = .ok (.iconst 1, 1) := by decide +kernel
theorem dX5_isGreen_9 : decode cX5_isGreen 9 = .ok (.goto 4, 3) := by decide +kernel
theorem dX5_isGreen_12 : decode cX5_isGreen 12 = .ok (.iconst 0, 1) := by decide +kernel
theorem dX5_isGreen_13 : decode cX5_isGreen 13 = .ok (.ireturn, 1) := by decide +kernel
set_option maxRecDepth 20000 in
theorem ggX5_blackenUnlessGreen_X5_isGreen : GoodIn wsX5_blackenUnlessGreen wsX5_isGreen := goodIn_r _ [6, 1, 7, 8, 9, 10, 11, 12, 13, 14, 15, 16, 17] (by decide +kernel) (by decide +kernel)
set_option maxRecDepth 20000 in
theorem gX5_blackenUnlessGreen_X5_isGreen : GoodIn wsX5_blackenUnlessGreen (wsV RX5 44 RX5 yX5_isGreen wsX5_isGreen) := goodIn_app (goodIn_of _ (by decide +kernel)) ggX5_blackenUnlessGreen_X5_isGreen
theorem dX5_blackenUnlessGreen_0 : decode cX5_blackenUnlessGreen 0 = .ok (.aload_n 0, 1) := by decide +kernel
theorem dX5_blackenUnlessGreen_1 : decode cX5_blackenUnlessGreen 1 = .ok (.invokevirtual 44, 3) := by decide +kernel
theorem dX5_blackenUnlessGreen_4 : decode cX5_blackenUnlessGreen 4 = .ok (.ifCond .ne 8, 3) := by decide +kernel
theorem dX5_blackenUnlessGreen_7 : decode cX5_blackenUnlessGreen 7 = .ok (.aload_n 0, 1) := by decide +kernel
theorem dX5_blackenUnlessGreen_8 : decode cX5_blackenUnlessGreen 8 = .ok (.iconst 0, 1) := by decide +kernel
theorem dX5_blackenUnlessGreen_9 : decode cX5_blackenUnlessGreen 9 = .ok (.putfield 34, 3) := by decide +kernel
theorem dX5_blackenUnlessGreen_12 : decode cX5_blackenUnlessGreen 12 = .ok (.return_, 1) := by decide +kernel
theorem dX5_giveUpNext_0 : decode cX5_giveUpNext 0 = .ok (.aconst_null, 1) := by decide +kernel
theorem dX5_giveUpNext_1 : decode cX5_giveUpNext 1 = .ok (.astore_n 1, 1) := by decide +kernel
theorem dX5_giveUpNext_2 : decode cX5_giveUpNext 2 = .ok (.aload_n 1, 1) := by decide +kernel
theorem dX5_giveUpNext_3 : decode cX5_giveUpNext 3 = .ok (.ifnonnull 55, 3) := by decide +kernel
theorem dX5_giveUpNext_6 : decode cX5_giveUpNext 6 = .ok (.aload_n 0, 1) := by decide +kernel
theorem dX5_giveUpNext_7 : decode cX5_giveUpNext 7 = .ok (.getfield 48, 3) := by decide +kernel
theorem dX5_giveUpNext_10 : decode cX5_giveUpNext 10 = .ok (.ifCond .lt 48, 3) := by decide +kernel
theorem dX5_giveUpNext_13 : decode cX5_giveUpNext 13 = .ok (.aload_n 0, 1) := by decide +kernel
theorem dX5_giveUpNext_14 : decode cX5_giveUpNext 14 = .ok (.getfield 48, 3) := by decide +kernel
theorem dX5_giveUpNext_17 : decode cX5_giveUpNext 17 = .ok (.aload_n 0, 1) := by decide +kernel
theorem dX5_giveUpNext_18 : decode cX5_giveUpNext 18 = .ok (.getfield 25, 3) := by decide +kernel
theorem dX5_giveUpNext_21 : decode cX5_giveUpNext 21 = .ok (.arraylength, 1) := by decide +kernel
theorem dX5_giveUpNext_22 : decode cX5_giveUpNext 22 = .ok (.if_icmp .ge 36, 3) := by decide +kernel
theorem dX5_giveUpNext_25 : decode cX5_giveUpNext 25 = .ok (.aload_n 0, 1) := by decide +kernel
theorem dX5_giveUpNext_26 : decode cX5_giveUpNext 26 = .ok (.getfield 25, 3) := by decide +kernel
theorem dX5_giveUpNext_29 : decode cX5_giveUpNext 29 = .ok (.aload_n 0, 1) := by decide +kernel
theorem dX5_giveUpNext_30 : decode cX5_giveUpNext 30 = .ok (.getfield 48, 3) := by decide +kernel
theorem dX5_giveUpNext_33 : decode cX5_giveUpNext 33 = .ok (.aaload, 1) := by decide +kernel
theorem dX5_giveUpNext_34 : decode cX5_giveUpNext 34 = .ok (.astore_n 1, 1) := by decide +kernel
theorem dX5_giveUpNext_35 : decode cX5_giveUpNext 35 = .ok (.aload_n 0, 1) := by decide +kernel
theorem dX5_giveUpNext_36 : decode cX5_giveUpNext 36 = .ok (.getfield 25, 3) := by decide +kernel
theorem dX5_giveUpNext_39 : decode cX5_giveUpNext 39 = .ok (.aload_n 0, 1) := by decide +kernel
theorem dX5_giveUpNext_40 : decode cX5_giveUpNext 40 = .ok (.getfield 48, 3) := by decide +kernel
theorem dX5_giveUpNext_43 : decode cX5_giveUpNext 43 = .ok (.aconst_null, 1) := by decide +kernel
theorem dX5_giveUpNext_44 : decode cX5_giveUpNext 44 = .ok (.aastore, 1) := by decide +kernel
theorem dX5_giveUpNext_45 : decode cX5_giveUpNext 45 = .ok (.aload_n 0, 1) := by decide +kernel
theorem dX5_giveUpNext_46 : decode cX5_giveUpNext 46 = .ok (.dup, 1) := by decide +kernel
theorem dX5_giveUpNext_47 : decode cX5_giveUpNext 47 = .ok (.getfield 48, 3) := by decide +kernel
theorem dX5_giveUpNext_50 : decode cX5_giveUpNext 50 = .ok (.iconst 1, 1) := by decide +kernel
theorem dX5_giveUpNext_51 : decode cX5_giveUpNext 51 = .ok (.iadd, 1) := by decide +kernel
theorem dX5_giveUpNext_52 : decode cX5_giveUpNext 52 = .ok (.putfield 48, 3) := by decide +kernel
theorem dX5_giveUpNext_55 : decode cX5_giveUpNext 55 = .ok (.goto (-53), 3) := by decide +kernel
theorem dX5_giveUpNext_58 : decode cX5_giveUpNext 58 = .ok (.aload_n 1, 1) := by decide +kernel
theorem dX5_giveUpNext_59 : decode cX5_giveUpNext 59 = .ok (.areturn, 1) := by decide +kernel
theorem dX5_tell_0 : decode cX5_tell 0 = .ok (.iload_n 1, 1) := by decide +kernel
theorem dX5_tell_1 : decode cX5_tell 1 = .ok (.tableswitch 97 0 6 #[43, 51, 56, 61, 66, 79, 92], 43) := by decide +kernel
theorem dX5_tell_44 : decode cX5_tell 44 = .ok (.aload_n 0, 1) := by decide +kernel
theorem dX5_tell_45 : decode cX5_tell 45 = .ok (.getfield 21, 3) := by decide +kernel
theorem dX5_tell_48 : decode cX5_tell 48 = .ok (.getfield 51, 3) := by decide +kernel
theorem dX5_tell_51 : decode cX5_tell 51 = .ok (.ireturn, 1) := by decide +kernel
theorem dX5_tell_52 : decode cX5_tell 52 = .ok (.aload_n 0, 1) := by decide +kernel
theorem dX5_tell_53 : decode cX5_tell 53 = .ok (.getfield 9, 3) := by decide +kernel
theorem dX5_tell_56 : decode cX5_tell 56 = .ok (.ireturn, 1) := by decide +kernel
theorem dX5_tell_57 : decode cX5_tell 57 = .ok (.aload_n 0, 1) := by decide +kernel
theorem dX5_tell_58 : decode cX5_tell 58 = .ok (.getfield 34, 3) := by decide +kernel
theorem dX5_tell_61 : decode cX5_tell 61 = .ok (.ireturn, 1) := by decide +kernel
theorem dX5_tell_62 : decode cX5_tell 62 = .ok (.aload_n 0, 1) := by decide +kernel
theorem dX5_tell_63 : decode cX5_tell 63 = .ok (.getfield 52, 3) := by decide +kernel
theorem dX5_tell_66 : decode cX5_tell 66 = .ok (.ireturn, 1) := by decide +kernel
theorem dX5_tell_67 : decode cX5_tell 67 = .ok (.aload_n 0, 1) := by decide +kernel
theorem dX5_tell_68 : decode cX5_tell 68 = .ok (.getfield 55, 3) := by decide +kernel
theorem dX5_tell_71 : decode cX5_tell 71 = .ok (.ifCond .eq 7, 3) := by decide +kernel
theorem dX5_tell_74 : decode cX5_tell 74 = .ok (.iconst 1, 1) := by decide +kernel
theorem dX5_tell_75 : decode cX5_tell 75 = .ok (.goto 4, 3) := by decide +kernel
theorem dX5_tell_78 : decode cX5_tell 78 = .ok (.iconst 0, 1) := by decide +kernel
theorem dX5_tell_79 : decode cX5_tell 79 = .ok (.ireturn, 1) := by decide +kernel
theorem dX5_tell_80 : decode cX5_tell 80 = .ok (.aload_n 0, 1) := by decide +kernel
theorem dX5_tell_81 : decode cX5_tell 81 = .ok (.getfield 41, 3) := by decide +kernel
theorem dX5_tell_84 : decode cX5_tell 84 = .ok (.ifCond .eq 7, 3) := by decide +kernel
theorem dX5_tell_87 : decode cX5_tell 87 = .ok (.iconst 1, 1) := by decide +kernel
theorem dX5_tell_88 : decode cX5_tell 88 = .ok (.goto 4, 3) := by decide +kernel
theorem dX5_tell_91 : decode cX5_tell 91 = .ok (.iconst 0, 1) := by decide +kernel
theorem dX5_tell_92 : decode cX5_tell 92 = .ok (.ireturn, 1) := by decide +kernel
theorem dX5_tell_93 : decode cX5_tell 93 = .ok (.aload_n 0, 1) := by decide +kernel
theorem dX5_tell_94 : decode cX5_tell 94 = .ok (.getfield 15, 3) := by decide +kernel
theorem dX5_tell_97 : decode cX5_tell 97 = .ok (.ireturn, 1) := by decide +kernel
theorem dX5_tell_98 : decode cX5_tell 98 = .ok (.aload_n 0, 1) := by decide +kernel
theorem dX5_tell_99 : decode cX5_tell 99 = .ok (.getfield 58, 3) := by decide +kernel
theorem dX5_tell_102 : decode cX5_tell 102 = .ok (.ifCond .eq 7, 3) := by decide +kernel
theorem dX5_tell_105 : decode cX5_tell 105 = .ok (.iconst 1, 1) := by decide +kernel
theorem dX5_tell_106 : decode cX5_tell 106 = .ok (.goto 4, 3) := by decide +kernel
theorem dX5_tell_109 : decode cX5_tell 109 = .ok (.iconst 0, 1) := by decide +kernel
theorem dX5_tell_110 : decode cX5_tell 110 = .ok (.ireturn, 1) := by decide +kernel
theorem dX6_init_0 : decode cX6_init 0 = .ok (.aload_n 0, 1) := by decide +kernel
theorem dX6_init_1 : decode cX6_init 1 = .ok (.invokespecial 3, 3) := by decide +kernel
theorem dX6_init_4 : decode cX6_init 4 = .ok (.aload_n 0, 1) := by decide +kernel
theorem dX6_init_5 : decode cX6_init 5 = .ok (.sipush 400, 3) := by decide +kernel
theorem dX6_init_8 : decode cX6_init 8 = .ok (.anewarray 9, 3) := by decide +kernel
theorem dX6_init_11 : decode cX6_init 11 = .ok (.putfield 11, 3) := by decide +kernel
theorem dX6_init_14 : decode cX6_init 14 = .ok (.aload_n 0, 1) := by decide +kernel
theorem dX6_init_15 : decode cX6_init 15 = .ok (.sipush 400, 3) := by decide +kernel
theorem dX6_init_18 : decode cX6_init 18 = .ok (.putfield 17, 3) := by decide +kernel
theorem dX6_init_21 : decode cX6_init 21 = .ok (.return_, 1) := by decide +kernel
theorem dX6_owner_0 : decode cX6_owner 0 = .ok (.iload_n 1, 1) := by decide +kernel
theorem dX6_owner_1 : decode cX6_owner 1 = .ok (.ifCond .lt 19, 3) := by decide +kernel
theorem dX6_owner_4 : decode cX6_owner 4 = .ok (.iload_n 1, 1) := by decide +kernel
theorem dX6_owner_5 : decode cX6_owner 5 = .ok (.sipush 400, 3) := by decide +kernel
theorem dX6_owner_8 : decode cX6_owner 8 = .ok (.if_icmp .ge 12, 3) := by decide +kernel
theorem dX6_owner_11 : decode cX6_owner 11 = .ok (.aload_n 0, 1) := by decide +kernel
theorem dX6_owner_12 : decode cX6_owner 12 = .ok (.getfield 11, 3) := by decide +kernel
theorem dX6_owner_15 : decode cX6_owner 15 = .ok (.iload_n 1, 1) := by decide +kernel
theorem dX6_owner_16 : decode cX6_owner 16 = .ok (.aaload, 1) := by decide +kernel
theorem dX6_owner_17 : decode cX6_owner 17 = .ok (.goto 4, 3) := by decide +kernel
theorem dX6_owner_20 : decode cX6_owner 20 = .ok (.aconst_null, 1) := by decide +kernel
theorem dX6_owner_21 : decode cX6_owner 21 = .ok (.areturn, 1) := by decide +kernel
set_option maxRecDepth 20000 in
theorem ggX6_ownerFrom_X6_owner : GoodIn wsX6_ownerFrom wsX6_owner := goodIn_r _ [6, 7, 19, 20] (by decide +kernel) (by decide +kernel)
set_option maxRecDepth 20000 in
theorem gX6_ownerFrom_X6_owner : GoodIn wsX6_ownerFrom (wsV RX6 21 RX6 yX6_owner wsX6_owner) := goodIn_app (goodIn_of _ (by decide +kernel)) ggX6_ownerFrom_X6_owner
theorem dX6_ownerFrom_0 : decode cX6_ownerFrom 0 = .ok (.aload_n 0, 1) := by decide +kernel
theorem dX6_ownerFrom_1 : decode cX6_ownerFrom 1 = .ok (.iload_n 1, 1) := by decide +kernel
theorem dX6_ownerFrom_2 : decode cX6_ownerFrom 2 = .ok (.invokevirtual 21, 3) := by decide +kernel
theorem dX6_ownerFrom_5 : decode cX6_ownerFrom 5 = .ok (.astore_n 2, 1) := by decide +kernel
theorem dX6_ownerFrom_6 : decode cX6_ownerFrom 6 = .ok (.aload_n 2, 1) := by decide +kernel
theorem dX6_ownerFrom_7 : decode cX6_ownerFrom 7 = .ok (.ifnull 15, 3) := by decide +kernel
theorem dX6_ownerFrom_10 : decode cX6_ownerFrom 10 = .ok (.aload_n 2, 1) := by decide +kernel
theorem dX6_ownerFrom_11 : decode cX6_ownerFrom 11 = .ok (.getfield 25, 3) := by decide +kernel
theorem dX6_ownerFrom_14 : decode cX6_ownerFrom 14 = .ok (.iload_n 1, 1) := by decide +kernel
theorem dX6_ownerFrom_15 : decode cX6_ownerFrom 15 = .ok (.if_icmp .ne 7, 3) := by decide +kernel
theorem dX6_ownerFrom_18 : decode cX6_ownerFrom 18 = .ok (.aload_n 2, 1) := by decide +kernel
theorem dX6_ownerFrom_19 : decode cX6_ownerFrom 19 = .ok (.goto 4, 3) := by decide +kernel
theorem dX6_ownerFrom_22 : decode cX6_ownerFrom 22 = .ok (.aconst_null, 1) := by decide +kernel
theorem dX6_ownerFrom_23 : decode cX6_ownerFrom 23 = .ok (.areturn, 1) := by decide +kernel
theorem dX6_gapFor_0 : decode cX6_gapFor 0 = .ok (.iconst 0, 1) := by decide +kernel
theorem dX6_gapFor_1 : decode cX6_gapFor 1 = .ok (.istore_n 2, 1) := by decide +kernel
theorem dX6_gapFor_2 : decode cX6_gapFor 2 = .ok (.iconst 0, 1) := by decide +kernel
theorem dX6_gapFor_3 : decode cX6_gapFor 3 = .ok (.istore_n 3, 1) := by decide +kernel
theorem dX6_gapFor_4 : decode cX6_gapFor 4 = .ok (.iload_n 3, 1) := by decide +kernel
theorem dX6_gapFor_5 : decode cX6_gapFor 5 = .ok (.sipush 400, 3) := by decide +kernel
theorem dX6_gapFor_8 : decode cX6_gapFor 8 = .ok (.if_icmp .ge 37, 3) := by decide +kernel
theorem dX6_gapFor_11 : decode cX6_gapFor 11 = .ok (.aload_n 0, 1) := by decide +kernel
theorem dX6_gapFor_12 : decode cX6_gapFor 12 = .ok (.getfield 11, 3) := by decide +kernel
theorem dX6_gapFor_15 : decode cX6_gapFor 15 = .ok (.iload_n 3, 1) := by decide +kernel
theorem dX6_gapFor_16 : decode cX6_gapFor 16 = .ok (.aaload, 1) := by decide +kernel
theorem dX6_gapFor_17 : decode cX6_gapFor 17 = .ok (.ifnonnull 9, 3) := by decide +kernel
theorem dX6_gapFor_20 : decode cX6_gapFor 20 = .ok (.iload_n 2, 1) := by decide +kernel
theorem dX6_gapFor_21 : decode cX6_gapFor 21 = .ok (.iconst 1, 1) := by decide +kernel
theorem dX6_gapFor_22 : decode cX6_gapFor 22 = .ok (.iadd, 1) := by decide +kernel
theorem dX6_gapFor_23 : decode cX6_gapFor 23 = .ok (.goto 4, 3) := by decide +kernel
theorem dX6_gapFor_26 : decode cX6_gapFor 26 = .ok (.iconst 0, 1) := by decide +kernel
theorem dX6_gapFor_27 : decode cX6_gapFor 27 = .ok (.istore_n 2, 1) := by decide +kernel
theorem dX6_gapFor_28 : decode cX6_gapFor 28 = .ok (.iload_n 2, 1) := by decide +kernel
theorem dX6_gapFor_29 : decode cX6_gapFor 29 = .ok (.iload_n 1, 1) := by decide +kernel
theorem dX6_gapFor_30 : decode cX6_gapFor 30 = .ok (.if_icmp .lt 9, 3) := by decide +kernel
theorem dX6_gapFor_33 : decode cX6_gapFor 33 = .ok (.iload_n 3, 1) := by decide +kernel
theorem dX6_gapFor_34 : decode cX6_gapFor 34 = .ok (.iconst 1, 1) := by decide +kernel
theorem dX6_gapFor_35 : decode cX6_gapFor 35 = .ok (.iadd, 1) := by decide +kernel
theorem dX6_gapFor_36 : decode cX6_gapFor 36 = .ok (.iload_n 1, 1) := by decide +kernel
theorem dX6_gapFor_37 : decode cX6_gapFor 37 = .ok (.isub, 1) := by decide +kernel
theorem dX6_gapFor_38 : decode cX6_gapFor 38 = .ok (.ireturn, 1) := by decide +kernel
theorem dX6_gapFor_39 : decode cX6_gapFor 39 = .ok (.iinc 3 1, 3) := by decide +kernel
theorem dX6_gapFor_42 : decode cX6_gapFor 42 = .ok (.goto (-38), 3) := by decide +kernel
theorem dX6_gapFor_45 : decode cX6_gapFor 45 = .ok (.iconst (-1), 1) := by decide +kernel
theorem dX6_gapFor_46 : decode cX6_gapFor 46 = .ok (.ireturn, 1) := by decide +kernel
theorem dX6_give_0 : decode cX6_give 0 = .ok (.iload_n 2, 1) := by decide +kernel
theorem dX6_give_1 : decode cX6_give 1 = .ok (.aload_n 1, 1) := by decide +kernel
theorem dX6_give_2 : decode cX6_give 2 = .ok (.getfield 28, 3) := by decide +kernel
theorem dX6_give_5 : decode cX6_give 5 = .ok (.getfield 32, 3) := by decide +kernel
theorem dX6_give_8 : decode cX6_give 8 = .ok (.iadd, 1) := by decide +kernel
theorem dX6_give_9 : decode cX6_give 9 = .ok (.istore_n 3, 1) := by decide +kernel
theorem dX6_give_10 : decode cX6_give 10 = .ok (.iload_n 2, 1) := by decide +kernel
theorem dX6_give_11 : decode cX6_give 11 = .ok (.istore 4, 2) := by decide +kernel
theorem dX6_give_13 : decode cX6_give 13 = .ok (.iload 4, 2) := by decide +kernel
theorem dX6_give_15 : decode cX6_give 15 = .ok (.ifCond .lt 31, 3) := by decide +kernel
theorem dX6_give_18 : decode cX6_give 18 = .ok (.iload 4, 2) := by decide +kernel
theorem dX6_give_20 : decode cX6_give 20 = .ok (.iload_n 3, 1) := by decide +kernel
theorem dX6_give_21 : decode cX6_give 21 = .ok (.if_icmp .ge 25, 3) := by decide +kernel
theorem dX6_give_24 : decode cX6_give 24 = .ok (.iload 4, 2) := by decide +kernel
theorem dX6_give_26 : decode cX6_give 26 = .ok (.sipush 400, 3) := by decide +kernel
theorem dX6_give_29 : decode cX6_give 29 = .ok (.if_icmp .ge 17, 3) := by decide +kernel
theorem dX6_give_32 : decode cX6_give 32 = .ok (.aload_n 0, 1) := by decide +kernel
theorem dX6_give_33 : decode cX6_give 33 = .ok (.getfield 11, 3) := by decide +kernel
theorem dX6_give_36 : decode cX6_give 36 = .ok (.iload 4, 2) := by decide +kernel
theorem dX6_give_38 : decode cX6_give 38 = .ok (.aload_n 1, 1) := by decide +kernel
theorem dX6_give_39 : decode cX6_give 39 = .ok (.aastore, 1) := by decide +kernel
theorem dX6_give_40 : decode cX6_give 40 = .ok (.iinc 4 1, 3) := by decide +kernel
theorem dX6_give_43 : decode cX6_give 43 = .ok (.goto (-30), 3) := by decide +kernel
theorem dX6_give_46 : decode cX6_give 46 = .ok (.aload_n 1, 1) := by decide +kernel
theorem dX6_give_47 : decode cX6_give 47 = .ok (.iload_n 2, 1) := by decide +kernel
theorem dX6_give_48 : decode cX6_give 48 = .ok (.putfield 25, 3) := by decide +kernel
theorem dX6_give_51 : decode cX6_give 51 = .ok (.aload_n 0, 1) := by decide +kernel
theorem dX6_give_52 : decode cX6_give 52 = .ok (.dup, 1) := by decide +kernel
theorem dX6_give_53 : decode cX6_give 53 = .ok (.getfield 17, 3) := by decide +kernel
theorem dX6_give_56 : decode cX6_give 56 = .ok (.aload_n 1, 1) := by decide +kernel
theorem dX6_give_57 : decode cX6_give 57 = .ok (.getfield 28, 3) := by decide +kernel
theorem dX6_give_60 : decode cX6_give 60 = .ok (.getfield 32, 3) := by decide +kernel
theorem dX6_give_63 : decode cX6_give 63 = .ok (.isub, 1) := by decide +kernel
theorem dX6_give_64 : decode cX6_give 64 = .ok (.putfield 17, 3) := by decide +kernel
theorem dX6_give_67 : decode cX6_give 67 = .ok (.return_, 1) := by decide +kernel
theorem dX6_takeBack_0 : decode cX6_takeBack 0 = .ok (.aload_n 1, 1) := by decide +kernel
theorem dX6_takeBack_1 : decode cX6_takeBack 1 = .ok (.getfield 25, 3) := by decide +kernel
theorem dX6_takeBack_4 : decode cX6_takeBack 4 = .ok (.aload_n 1, 1) := by decide +kernel
theorem dX6_takeBack_5 : decode cX6_takeBack 5 = .ok (.getfield 28, 3) := by decide +kernel
theorem dX6_takeBack_8 : decode cX6_takeBack 8 = .ok (.getfield 32, 3) := by decide +kernel
theorem dX6_takeBack_11 : decode cX6_takeBack 11 = .ok (.iadd, 1) := by decide +kernel
theorem dX6_takeBack_12 : decode cX6_takeBack 12 = .ok (.istore_n 2, 1) := by decide +kernel
theorem dX6_takeBack_13 : decode cX6_takeBack 13 = .ok (.aload_n 1, 1) := by decide +kernel
theorem dX6_takeBack_14 : decode cX6_takeBack 14 = .ok (.getfield 25, 3) := by decide +kernel
theorem dX6_takeBack_17 : decode cX6_takeBack 17 = .ok (.istore_n 3, 1) := by decide +kernel
theorem dX6_takeBack_18 : decode cX6_takeBack 18 = .ok (.iload_n 3, 1) := by decide +kernel
theorem dX6_takeBack_19 : decode cX6_takeBack 19 = .ok (.ifCond .lt 28, 3) := by decide +kernel
theorem dX6_takeBack_22 : decode cX6_takeBack 22 = .ok (.iload_n 3, 1) := by decide +kernel
theorem dX6_takeBack_23 : decode cX6_takeBack 23 = .ok (.iload_n 2, 1) := by decide +kernel
theorem dX6_takeBack_24 : decode cX6_takeBack 24 = .ok (.if_icmp .ge 23, 3) := by decide +kernel
theorem dX6_takeBack_27 : decode cX6_takeBack 27 = .ok (.iload_n 3, 1) := by decide +kernel
theorem dX6_takeBack_28 : decode cX6_takeBack 28 = .ok (.sipush 400, 3) := by decide +kernel
theorem dX6_takeBack_31 : decode cX6_takeBack 31 = .ok (.if_icmp .ge 16, 3) := by decide +kernel
theorem dX6_takeBack_34 : decode cX6_takeBack 34 = .ok (.aload_n 0, 1) := by decide +kernel
theorem dX6_takeBack_35 : decode cX6_takeBack 35 = .ok (.getfield 11, 3) := by decide +kernel
theorem dX6_takeBack_38 : decode cX6_takeBack 38 = .ok (.iload_n 3, 1) := by decide +kernel
theorem dX6_takeBack_39 : decode cX6_takeBack 39 = .ok (.aconst_null, 1) := by decide +kernel
theorem dX6_takeBack_40 : decode cX6_takeBack 40 = .ok (.aastore, 1) := by decide +kernel
theorem dX6_takeBack_41 : decode cX6_takeBack 41 = .ok (.iinc 3 1, 3) := by decide +kernel
theorem dX6_takeBack_44 : decode cX6_takeBack 44 = .ok (.goto (-26), 3) := by decide +kernel
theorem dX6_takeBack_47 : decode cX6_takeBack 47 = .ok (.aload_n 0, 1) := by decide +kernel
theorem dX6_takeBack_48 : decode cX6_takeBack 48 = .ok (.dup, 1) := by decide +kernel
theorem dX6_takeBack_49 : decode cX6_takeBack 49 = .ok (.getfield 17, 3) := by decide +kernel
theorem dX6_takeBack_52 : decode cX6_takeBack 52 = .ok (.aload_n 1, 1) := by decide +kernel
theorem dX6_takeBack_53 : decode cX6_takeBack 53 = .ok (.getfield 28, 3) := by decide +kernel
theorem dX6_takeBack_56 : decode cX6_takeBack 56 = .ok (.getfield 32, 3) := by decide +kernel
theorem dX6_takeBack_59 : decode cX6_takeBack 59 = .ok (.iadd, 1) := by decide +kernel
theorem dX6_takeBack_60 : decode cX6_takeBack 60 = .ok (.putfield 17, 3) := by decide +kernel
theorem dX6_takeBack_63 : decode cX6_takeBack 63 = .ok (.return_, 1) := by decide +kernel
set_option maxRecDepth 20000 in
theorem ggX6_moveAllDown_X6_ownerFrom : GoodIn wsX6_moveAllDown wsX6_ownerFrom := goodIn_r _ [7, 8, 9, 10, 11, 6, 12, 13, 23, 24, 25, 26, 27, 28, 29, 30, 31, 32, 33, 38, 39] (by decide +kernel) (by decide +kernel)
set_option maxRecDepth 20000 in
theorem gX6_moveAllDown_X6_ownerFrom : GoodIn wsX6_moveAllDown (wsV RX6 37 RX6 yX6_ownerFrom wsX6_ownerFrom) := goodIn_app (goodIn_of _ (by decide +kernel)) ggX6_moveAllDown_X6_ownerFrom
set_option maxRecDepth 20000 in
theorem ggX6_moveAllDown_X6_takeBack : GoodIn wsX6_moveAllDown wsX6_takeBack := goodIn_r _ [17, 8, 1, 2, 13, 18, 23, 24, 25, 26, 27, 28, 29, 30, 31, 32, 33, 34, 35, 36, 37, 38, 39] (by decide +kernel) (by decide +kernel)
set_option maxRecDepth 20000 in
theorem gX6_moveAllDown_X6_takeBack : GoodIn wsX6_moveAllDown (wsV RX6 40 RX6 yX6_takeBack wsX6_takeBack) := goodIn_app (goodIn_of _ (by decide +kernel)) ggX6_moveAllDown_X6_takeBack
set_option maxRecDepth 20000 in
theorem ggX6_moveAllDown_X6_give : GoodIn wsX6_moveAllDown wsX6_give := goodIn_r _ [22, 1, 2, 13, 8, 18, 23, 24, 25, 26, 27, 28, 29, 30, 31, 32, 33, 34, 35, 36, 37, 38, 39] (by decide +kernel) (by decide +kernel)
set_option maxRecDepth 20000 in
theorem gX6_moveAllDown_X6_give : GoodIn wsX6_moveAllDown (wsV RX6 44 RX6 yX6_give wsX6_give) := goodIn_app (goodIn_of _ (by decide +kernel)) ggX6_moveAllDown_X6_give
theorem dX6_moveAllDown_0 : decode cX6_moveAllDown 0 = .ok (.iconst 0, 1) := by decide +kernel
theorem dX6_moveAllDown_1 : decode cX6_moveAllDown 1 = .ok (.istore_n 1, 1) := by decide +kernel
theorem dX6_moveAllDown_2 : decode cX6_moveAllDown 2 = .ok (.iconst 0, 1) := by decide +kernel
theorem dX6_moveAllDown_3 : decode cX6_moveAllDown 3 = .ok (.istore_n 2, 1) := by decide +kernel
theorem dX6_moveAllDown_4 : decode cX6_moveAllDown 4 = .ok (.iconst 0, 1) := by decide +kernel
theorem dX6_moveAllDown_5 : decode cX6_moveAllDown 5 = .ok (.istore_n 3, 1) := by decide +kernel
theorem dX6_moveAllDown_6 : decode cX6_moveAllDown 6 = .ok (.iload_n 3, 1) := by decide +kernel
theorem dX6_moveAllDown_7 : decode cX6_moveAllDown 7 = .ok (.sipush 400, 3) := by decide +kernel
theorem dX6_moveAllDown_10 : decode cX6_moveAllDown 10 = .ok (.if_icmp .ge 53, 3) := by decide +kernel
theorem dX6_moveAllDown_13 : decode cX6_moveAllDown 13 = .ok (.aload_n 0, 1) := by decide +kernel
theorem dX6_moveAllDown_14 : decode cX6_moveAllDown 14 = .ok (.iload_n 3, 1) := by decide +kernel
theorem dX6_moveAllDown_15 : decode cX6_moveAllDown 15 = .ok (.invokevirtual 37, 3) := by decide +kernel
theorem dX6_moveAllDown_18 : decode cX6_moveAllDown 18 = .ok (.astore 4, 2) := by decide +kernel
theorem dX6_moveAllDown_20 : decode cX6_moveAllDown 20 = .ok (.aload 4, 2) := by decide +kernel
theorem dX6_moveAllDown_22 : decode cX6_moveAllDown 22 = .ok (.ifnull 35, 3) := by decide +kernel
theorem dX6_moveAllDown_25 : decode cX6_moveAllDown 25 = .ok (.iload_n 3, 1) := by decide +kernel
theorem dX6_moveAllDown_26 : decode cX6_moveAllDown 26 = .ok (.iload_n 2, 1) := by decide +kernel
theorem dX6_moveAllDown_27 : decode cX6_moveAllDown 27 = .ok (.if_icmp .eq 19, 3) := by decide +kernel
theorem dX6_moveAllDown_30 : decode cX6_moveAllDown 30 = .ok (.aload_n 0, 1) := by decide +kernel
theorem dX6_moveAllDown_31 : decode cX6_moveAllDown 31 = .ok (.aload 4, 2) := by decide +kernel
theorem dX6_moveAllDown_33 : decode cX6_moveAllDown 33 = .ok (.invokevirtual 40, 3) := by decide +kernel
theorem dX6_moveAllDown_36 : decode cX6_moveAllDown 36 = .ok (.aload_n 0, 1) := by decide +kernel
theorem dX6_moveAllDown_37 : decode cX6_moveAllDown 37 = .ok (.aload 4, 2) := by decide +kernel
theorem dX6_moveAllDown_39 : decode cX6_moveAllDown 39 = .ok (.iload_n 2, 1) := by decide +kernel
theorem dX6_moveAllDown_40 : decode cX6_moveAllDown 40 = .ok (.invokevirtual 44, 3) := by decide +kernel
theorem dX6_moveAllDown_43 : decode cX6_moveAllDown 43 = .ok (.iinc 1 1, 3) := by decide +kernel
theorem dX6_moveAllDown_46 : decode cX6_moveAllDown 46 = .ok (.iload_n 2, 1) := by decide +kernel
theorem dX6_moveAllDown_47 : decode cX6_moveAllDown 47 = .ok (.aload 4, 2) := by decide +kernel
theorem dX6_moveAllDown_49 : decode cX6_moveAllDown 49 = .ok (.getfield 28, 3) := by decide +kernel
theorem dX6_moveAllDown_52 : decode cX6_moveAllDown 52 = .ok (.getfield 32, 3) := by decide +kernel
theorem dX6_moveAllDown_55 : decode cX6_moveAllDown 55 = .ok (.iadd, 1) := by decide +kernel
theorem dX6_moveAllDown_56 : decode cX6_moveAllDown 56 = .ok (.istore_n 2, 1) := by decide +kernel
theorem dX6_moveAllDown_57 : decode cX6_moveAllDown 57 = .ok (.iinc 3 1, 3) := by decide +kernel
theorem dX6_moveAllDown_60 : decode cX6_moveAllDown 60 = .ok (.goto (-54), 3) := by decide +kernel
theorem dX6_moveAllDown_63 : decode cX6_moveAllDown 63 = .ok (.iload_n 1, 1) := by decide +kernel
theorem dX6_moveAllDown_64 : decode cX6_moveAllDown 64 = .ok (.ireturn, 1) := by decide +kernel
