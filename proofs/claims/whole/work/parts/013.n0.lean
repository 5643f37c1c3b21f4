set_option maxRecDepth 20000 in
theorem ggX0_init_X3_init : GoodIn wsX0_init wsX3_init := goodIn_r _ [12, 13, 2, 3, 14, 15, 16, 17] (by decide +kernel) (by decide +kernel)
set_option maxRecDepth 20000 in
theorem gX0_init_X3_init_n11 : GoodIn wsX0_init (wsX3_init) := ggX0_init_X3_init
theorem dX0_init_0 : decode cX0_init 0 = .ok (.aload_n 0, 1) := by decide +kernel
theorem dX0_init_1 : decode cX0_init 1 = .ok (.invokespecial 3, 3) := by decide +kernel
theorem dX0_init_4 : decode cX0_init 4 = .ok (.aload_n 0, 1) := by decide +kernel
theorem dX0_init_5 : decode cX0_init 5 = .ok (.new 9, 3) := by decide +kernel
theorem dX0_init_8 : decode cX0_init 8 = .ok (.dup, 1) := by decide +kernel
theorem dX0_init_9 : decode cX0_init 9 = .ok (.invokespecial 11, 3) := by decide +kernel
theorem dX0_init_12 : decode cX0_init 12 = .ok (.putfield 12, 3) := by decide +kernel
theorem dX0_init_15 : decode cX0_init 15 = .ok (.aload_n 0, 1) := by decide +kernel
theorem dX0_init_16 : decode cX0_init 16 = .ok (.new 9, 3) := by decide +kernel
theorem dX0_init_19 : decode cX0_init 19 = .ok (.dup, 1) := by decide +kernel
theorem dX0_init_20 : decode cX0_init 20 = .ok (.invokespecial 11, 3) := by decide +kernel
theorem dX0_init_23 : decode cX0_init 23 = .ok (.putfield 18, 3) := by decide +kernel
theorem dX0_init_26 : decode cX0_init 26 = .ok (.aload_n 0, 1) := by decide +kernel
theorem dX0_init_27 : decode cX0_init 27 = .ok (.aload_n 1, 1) := by decide +kernel
theorem dX0_init_28 : decode cX0_init 28 = .ok (.putfield 21, 3) := by decide +kernel
theorem dX0_init_31 : decode cX0_init 31 = .ok (.aload_n 0, 1) := by decide +kernel
theorem dX0_init_32 : decode cX0_init 32 = .ok (.aload_n 2, 1) := by decide +kernel
theorem dX0_init_33 : decode cX0_init 33 = .ok (.putfield 25, 3) := by decide +kernel
theorem dX0_init_36 : decode cX0_init 36 = .ok (.return_, 1) := by decide +kernel
set_option maxRecDepth 20000 in
theorem ggX0_run_X0_markListed : GoodIn wsX0_run wsX0_markListed := goodIn_r _ [8, 9, 10, 11, 12, 13, 1, 14, 15, 16, 17, 18, 19, 20, 21, 22, 23, 24, 25, 26, 27, 28, 29, 30, 31, 32, 33, 34, 35, 36, 37, 38, 39, 40, 41, 42, 43, 44, 45, 46, 47, 48, 49, 50, 7, 51, 52, 53, 54, 55, 56, 57, 58, 59, 60, 61, 62, 63, 64, 65, 66, 67, 68, 69, 70, 71, 72, 73, 173, 174, 175, 176, 177, 178, 179, 186, 187, 188, 189, 190, 191, 192, 193, 194, 195, 196, 197, 198, 199, 200, 201, 202, 180, 181, 182, 183, 184, 185, 203, 204, 205, 206, 207, 208] (by decide +kernel) (by decide +kernel)
set_option maxRecDepth 20000 in
theorem gX0_run_X0_markListed : GoodIn wsX0_run (wsV RX0 38 RX0 yX0_markListed wsX0_markListed) := goodIn_app (goodIn_of _ (by decide +kernel)) ggX0_run_X0_markListed
set_option maxRecDepth 20000 in
theorem ggX0_run_X0_scanListed : GoodIn wsX0_run wsX0_scanListed := goodIn_r _ [77, 9, 10, 11, 13, 15, 16, 17, 18, 19, 20, 21, 78, 79, 80, 7, 81, 52, 53, 55, 56, 57, 58, 82, 83, 84, 85, 14, 54, 86, 87, 88, 89, 90, 91, 92, 93, 94, 95, 70, 71, 72, 73, 64, 65, 66, 67, 68, 69, 173, 174, 175, 176, 177, 178, 179, 186, 187, 188, 189, 190, 191, 192, 193, 194, 195, 196, 197, 198, 199, 200, 201, 202] (by decide +kernel) (by decide +kernel)
set_option maxRecDepth 20000 in
theorem gX0_run_X0_scanListed : GoodIn wsX0_run (wsV RX0 41 RX0 yX0_scanListed wsX0_scanListed) := goodIn_app (goodIn_of _ (by decide +kernel)) ggX0_run_X0_scanListed
set_option maxRecDepth 20000 in
theorem ggX0_run_X0_tellWishes : GoodIn wsX0_run wsX0_tellWishes := goodIn_r _ [99, 1, 100, 14, 101, 9, 102, 103, 104, 37, 105, 39, 106, 107, 108, 109, 42, 110, 111, 112, 113, 114, 115, 116, 117, 118, 71, 72, 18, 73, 20, 21, 86, 87, 88, 7, 89, 90, 11, 53, 54, 55, 56, 57, 58, 91, 92, 93, 94, 95, 70, 15, 16, 17, 19, 64, 65, 66, 67, 68, 69, 173, 174, 175, 176, 177, 178, 179, 180, 181, 182, 183, 184, 185, 192, 193, 194, 195, 196, 197, 198, 199, 200, 201, 202, 207, 208, 186, 187, 188, 189, 190, 191] (by decide +kernel) (by decide +kernel)
set_option maxRecDepth 20000 in
theorem gX0_run_X0_tellWishes : GoodIn wsX0_run (wsV RX0 44 RX0 yX0_tellWishes wsX0_tellWishes) := goodIn_app (goodIn_of _ (by decide +kernel)) ggX0_run_X0_tellWishes
set_option maxRecDepth 20000 in
theorem ggX0_run_X0_emptyList : GoodIn wsX0_run wsX0_emptyList := goodIn_r _ [122, 9, 10, 11, 13, 15, 16, 17, 18, 19, 20, 21, 55, 56, 57, 58, 173, 174, 175, 176, 177, 178, 179, 186, 187, 188, 189, 190, 191, 192, 193, 194, 195, 196, 197, 198, 199, 200, 201, 202] (by decide +kernel) (by decide +kernel)
set_option maxRecDepth 20000 in
theorem gX0_run_X0_emptyList : GoodIn wsX0_run (wsV RX0 47 RX0 yX0_emptyList wsX0_emptyList) := goodIn_app (goodIn_of _ (by decide +kernel)) ggX0_run_X0_emptyList
set_option maxRecDepth 20000 in
theorem ggX0_run_X0_freeWhite : GoodIn wsX0_run wsX0_freeWhite := goodIn_r _ [126, 1, 100, 14, 53, 9, 102, 103, 104, 37, 105, 39, 106, 107, 108, 109, 42, 64, 65, 66, 67, 68, 69, 127, 128, 129, 113, 130, 131, 132, 133, 134, 135, 136, 137, 116, 115, 138, 139, 140, 141, 142, 143, 144, 145, 118, 71, 72, 18, 73, 20, 21, 146, 111, 112, 114, 117, 147, 148, 149, 150, 151, 152, 153, 154, 155, 156, 16, 17, 19, 157, 158, 159, 160, 161, 162, 163, 164, 165, 166, 167, 168, 169, 170, 171, 172, 23, 24, 25, 26, 27, 28, 29, 30, 31, 32, 33, 34, 35, 36, 38, 40, 41, 43, 44, 45, 46, 47, 22, 173, 174, 175, 176, 177, 178, 179, 180, 181, 182, 183, 184, 185, 192, 193, 194, 195, 196, 197, 198, 199, 200, 201, 202, 207, 208, 186, 187, 188, 189, 190, 191, 203, 204, 205, 206] (by decide +kernel) (by decide +kernel)
set_option maxRecDepth 20000 in
theorem gX0_run_X0_freeWhite : GoodIn wsX0_run (wsV RX0 50 RX0 yX0_freeWhite wsX0_freeWhite) := goodIn_app (goodIn_of _ (by decide +kernel)) ggX0_run_X0_freeWhite
theorem dX0_run_0 : decode cX0_run 0 = .ok (.aload_n 0, 1) := by decide +kernel
theorem dX0_run_1 : decode cX0_run 1 = .ok (.getfield 21, 3) := by decide +kernel
theorem dX0_run_4 : decode cX0_run 4 = .ok (.getfield 29, 3) := by decide +kernel
theorem dX0_run_7 : decode cX0_run 7 = .ok (.istore_n 1, 1) := by decide +kernel
theorem dX0_run_8 : decode cX0_run 8 = .ok (.aload_n 0, 1) := by decide +kernel
theorem dX0_run_9 : decode cX0_run 9 = .ok (.dup, 1) := by decide +kernel
theorem dX0_run_10 : decode cX0_run 10 = .ok (.getfield 35, 3) := by decide +kernel
theorem dX0_run_13 : decode cX0_run 13 = .ok (.iconst 1, 1) := by decide +kernel
theorem dX0_run_14 : decode cX0_run 14 = .ok (.iadd, 1) := by decide +kernel
theorem dX0_run_15 : decode cX0_run 15 = .ok (.putfield 35, 3) := by decide +kernel
theorem dX0_run_18 : decode cX0_run 18 = .ok (.aload_n 0, 1) := by decide +kernel
theorem dX0_run_19 : decode cX0_run 19 = .ok (.invokevirtual 38, 3) := by decide +kernel
theorem dX0_run_22 : decode cX0_run 22 = .ok (.aload_n 0, 1) := by decide +kernel
theorem dX0_run_23 : decode cX0_run 23 = .ok (.invokevirtual 41, 3) := by decide +kernel
theorem dX0_run_26 : decode cX0_run 26 = .ok (.aload_n 0, 1) := by decide +kernel
theorem dX0_run_27 : decode cX0_run 27 = .ok (.invokevirtual 44, 3) := by decide +kernel
theorem dX0_run_30 : decode cX0_run 30 = .ok (.aload_n 0, 1) := by decide +kernel
theorem dX0_run_31 : decode cX0_run 31 = .ok (.invokevirtual 47, 3) := by decide +kernel
theorem dX0_run_34 : decode cX0_run 34 = .ok (.aload_n 0, 1) := by decide +kernel
theorem dX0_run_35 : decode cX0_run 35 = .ok (.invokevirtual 50, 3) := by decide +kernel
theorem dX0_run_38 : decode cX0_run 38 = .ok (.aload_n 0, 1) := by decide +kernel
theorem dX0_run_39 : decode cX0_run 39 = .ok (.getfield 21, 3) := by decide +kernel
theorem dX0_run_42 : decode cX0_run 42 = .ok (.getfield 29, 3) := by decide +kernel
theorem dX0_run_45 : decode cX0_run 45 = .ok (.iload_n 1, 1) := by decide +kernel
theorem dX0_run_46 : decode cX0_run 46 = .ok (.isub, 1) := by decide +kernel
theorem dX0_run_47 : decode cX0_run 47 = .ok (.ireturn, 1) := by decide +kernel
set_option maxRecDepth 20000 in
theorem ggX0_markListed_X3_item : GoodIn wsX0_markListed wsX3_item := goodIn_r _ [12, 13, 14, 79, 80] (by decide +kernel) (by decide +kernel)
set_option maxRecDepth 20000 in
theorem gX0_markListed_X3_item : GoodIn wsX0_markListed (wsV RX0 61 RX3 yX3_item wsX3_item) := goodIn_app (goodIn_of _ (by decide +kernel)) ggX0_markListed_X3_item
set_option maxRecDepth 20000 in
theorem ggX0_markListed_X4_free : GoodIn wsX0_markListed wsX4_free := goodIn_r _ [19, 20, 21, 22, 23, 24, 25, 26, 27, 28, 29, 30, 31, 32, 33, 34, 35, 36, 37, 38, 39, 40, 81, 82, 83, 84, 85, 86, 87, 88, 89, 90, 91, 92, 93, 94, 95, 96, 97, 98, 99, 100, 101, 102, 103] (by decide +kernel) (by decide +kernel)
set_option maxRecDepth 20000 in
theorem gX0_markListed_X4_free : GoodIn wsX0_markListed (wsV RX0 74 RX4 yX4_free wsX4_free) := goodIn_app (goodIn_of _ (by decide +kernel)) ggX0_markListed_X4_free
set_option maxRecDepth 20000 in
theorem ggX0_markListed_X0_markFrom : GoodIn wsX0_markListed wsX0_markFrom := goodIn_r _ [45, 46, 3, 47, 48, 49, 50, 51, 11, 52, 13, 53, 54, 55, 44, 56, 7, 57, 58, 59, 60, 61, 62, 63, 64, 65, 66, 67, 14, 8, 9, 10, 12, 68, 69, 70, 71, 72, 73, 74, 79, 80, 81, 82, 83, 84, 85, 86, 87, 88, 89, 90, 91] (by decide +kernel) (by decide +kernel)
set_option maxRecDepth 20000 in
theorem gX0_markListed_X0_markFrom : GoodIn wsX0_markListed (wsV RX0 81 RX0 yX0_markFrom wsX0_markFrom) := goodIn_app (goodIn_of _ (by decide +kernel)) ggX0_markListed_X0_markFrom
theorem dX0_markListed_0 : decode cX0_markListed 0 = .ok (.aload_n 0, 1) := by decide +kernel
theorem dX0_markListed_1 : decode cX0_markListed 1 = .ok (.getfield 25, 3) := by decide +kernel
theorem dX0_markListed_4 : decode cX0_markListed 4 = .ok (.getfield 53, 3) := by decide +kernel
theorem dX0_markListed_7 : decode cX0_markListed 7 = .ok (.astore_n 1, 1) := by decide +kernel
theorem dX0_markListed_8 : decode cX0_markListed 8 = .ok (.iconst 0, 1) := by decide +kernel
theorem dX0_markListed_9 : decode cX0_markListed 9 = .ok (.istore_n 2, 1) := by decide +kernel
theorem dX0_markListed_10 : decode cX0_markListed 10 = .ok (.iload_n 2, 1) := by decide +kernel
theorem dX0_markListed_11 : decode cX0_markListed 11 = .ok (.bipush 80, 2) := by decide +kernel
theorem dX0_markListed_13 : decode cX0_markListed 13 = .ok (.if_icmp .ge 74, 3) := by decide +kernel
theorem dX0_markListed_16 : decode cX0_markListed 16 = .ok (.iload_n 2, 1) := by decide +kernel
theorem dX0_markListed_17 : decode cX0_markListed 17 = .ok (.aload_n 1, 1) := by decide +kernel
theorem dX0_markListed_18 : decode cX0_markListed 18 = .ok (.getfield 58, 3) := by decide +kernel
theorem dX0_markListed_21 : decode cX0_markListed 21 = .ok (.if_icmp .ge 66, 3) := by decide +kernel
theorem dX0_markListed_24 : decode cX0_markListed 24 = .ok (.aload_n 1, 1) := by decide +kernel
theorem dX0_markListed_25 : decode cX0_markListed 25 = .ok (.iload_n 2, 1) := by decide +kernel
theorem dX0_markListed_26 : decode cX0_markListed 26 = .ok (.invokevirtual 61, 3) := by decide +kernel
theorem dX0_markListed_29 : decode cX0_markListed 29 = .ok (.astore_n 3, 1) := by decide +kernel
theorem dX0_markListed_30 : decode cX0_markListed 30 = .ok (.aload_n 3, 1) := by decide +kernel
theorem dX0_markListed_31 : decode cX0_markListed 31 = .ok (.ifnonnull 6, 3) := by decide +kernel
theorem dX0_markListed_34 : decode cX0_markListed 34 = .ok (.goto 47, 3) := by decide +kernel
theorem dX0_markListed_37 : decode cX0_markListed 37 = .ok (.aload_n 3, 1) := by decide +kernel
theorem dX0_markListed_38 : decode cX0_markListed 38 = .ok (.getfield 65, 3) := by decide +kernel
theorem dX0_markListed_41 : decode cX0_markListed 41 = .ok (.ifCond .eq 19, 3) := by decide +kernel
theorem dX0_markListed_44 : decode cX0_markListed 44 = .ok (.aload_n 3, 1) := by decide +kernel
theorem dX0_markListed_45 : decode cX0_markListed 45 = .ok (.iconst 0, 1) := by decide +kernel
theorem dX0_markListed_46 : decode cX0_markListed 46 = .ok (.putfield 71, 3) := by decide +kernel
theorem dX0_markListed_49 : decode cX0_markListed 49 = .ok (.aload_n 0, 1) := by decide +kernel
theorem dX0_markListed_50 : decode cX0_markListed 50 = .ok (.getfield 21, 3) := by decide +kernel
theorem dX0_markListed_53 : decode cX0_markListed 53 = .ok (.aload_n 3, 1) := by decide +kernel
theorem dX0_markListed_54 : decode cX0_markListed 54 = .ok (.invokevirtual 74, 3) := by decide +kernel
theorem dX0_markListed_57 : decode cX0_markListed 57 = .ok (.goto 24, 3) := by decide +kernel
theorem dX0_markListed_60 : decode cX0_markListed 60 = .ok (.aload_n 3, 1) := by decide +kernel
theorem dX0_markListed_61 : decode cX0_markListed 61 = .ok (.getfield 78, 3) := by decide +kernel
theorem dX0_markListed_64 : decode cX0_markListed 64 = .ok (.iconst 1, 1) := by decide +kernel
theorem dX0_markListed_65 : decode cX0_markListed 65 = .ok (.if_icmp .ne 11, 3) := by decide +kernel
theorem dX0_markListed_68 : decode cX0_markListed 68 = .ok (.aload_n 3, 1) := by decide +kernel
theorem dX0_markListed_69 : decode cX0_markListed 69 = .ok (.iconst 0, 1) := by decide +kernel
theorem dX0_markListed_70 : decode cX0_markListed 70 = .ok (.putfield 71, 3) := by decide +kernel
theorem dX0_markListed_73 : decode cX0_markListed 73 = .ok (.goto 8, 3) := by decide +kernel
theorem dX0_markListed_76 : decode cX0_markListed 76 = .ok (.aload_n 0, 1) := by decide +kernel
theorem dX0_markListed_77 : decode cX0_markListed 77 = .ok (.aload_n 3, 1) := by decide +kernel
theorem dX0_markListed_78 : decode cX0_markListed 78 = .ok (.invokevirtual 81, 3) := by decide +kernel
theorem dX0_markListed_81 : decode cX0_markListed 81 = .ok (.iinc 2 1, 3) := by decide +kernel
theorem dX0_markListed_84 : decode cX0_markListed 84 = .ok (.goto (-74), 3) := by decide +kernel
theorem dX0_markListed_87 : decode cX0_markListed 87 = .ok (.return_, 1) := by decide +kernel
set_option maxRecDepth 20000 in
theorem ggX0_markFrom_X3_clear : GoodIn wsX0_markFrom wsX3_clear := goodIn_r _ [9, 10, 40, 41] (by decide +kernel) (by decide +kernel)
set_option maxRecDepth 20000 in
theorem gX0_markFrom_X3_clear : GoodIn wsX0_markFrom (wsV RX0 84 RX3 yX3_clear wsX3_clear) := goodIn_app (goodIn_of _ (by decide +kernel)) ggX0_markFrom_X3_clear
set_option maxRecDepth 20000 in
theorem ggX0_markFrom_X0_turnGray : GoodIn wsX0_markFrom wsX0_turnGray := goodIn_r _ [15, 16, 17, 1, 18, 19, 20, 21, 22, 23, 24, 25, 26, 8, 27, 10, 28, 42, 43, 44, 45, 46, 47, 48, 49, 50, 51, 52, 33, 34, 35, 36, 37, 38, 39, 40, 41] (by decide +kernel) (by decide +kernel)
set_option maxRecDepth 20000 in
theorem gX0_markFrom_X0_turnGray : GoodIn wsX0_markFrom (wsV RX0 87 RX0 yX0_turnGray wsX0_turnGray) := goodIn_app (goodIn_of _ (by decide +kernel)) ggX0_markFrom_X0_turnGray
set_option maxRecDepth 20000 in
theorem ggX0_markFrom_X3_item : GoodIn wsX0_markFrom wsX3_item := goodIn_r _ [32, 10, 28, 40, 41] (by decide +kernel) (by decide +kernel)
set_option maxRecDepth 20000 in
theorem gX0_markFrom_X3_item : GoodIn wsX0_markFrom (wsV RX0 61 RX3 yX3_item wsX3_item) := goodIn_app (goodIn_of _ (by decide +kernel)) ggX0_markFrom_X3_item
set_option maxRecDepth 20000 in
theorem ggX0_markFrom_X5_isGreen : GoodIn wsX0_markFrom wsX5_isGreen := goodIn_r _ [22, 23, 42, 43, 44, 45, 46, 47, 48, 49, 50, 51, 52] (by decide +kernel) (by decide +kernel)
set_option maxRecDepth 20000 in
theorem gX0_markFrom_X5_isGreen : GoodIn wsX0_markFrom (wsV RX0 94 RX5 yX5_isGreen wsX5_isGreen) := goodIn_app (goodIn_of _ (by decide +kernel)) ggX0_markFrom_X5_isGreen
theorem dX0_markFrom_0 : decode cX0_markFrom 0 = .ok (.aload_n 0, 1) := by decide +kernel
theorem dX0_markFrom_1 : decode cX0_markFrom 1 = .ok (.getfield 12, 3) := by decide +kernel
theorem dX0_markFrom_4 : decode cX0_markFrom 4 = .ok (.invokevirtual 84, 3) := by decide +kernel
theorem dX0_markFrom_7 : decode cX0_markFrom 7 = .ok (.aload_n 0, 1) := by decide +kernel
theorem dX0_markFrom_8 : decode cX0_markFrom 8 = .ok (.aload_n 1, 1) := by decide +kernel
theorem dX0_markFrom_9 : decode cX0_markFrom 9 = .ok (.invokevirtual 87, 3) := by decide +kernel
theorem dX0_markFrom_12 : decode cX0_markFrom 12 = .ok (.iconst 0, 1) := by decide +kernel
theorem dX0_markFrom_13 : decode cX0_markFrom 13 = .ok (.istore_n 2, 1) := by decide +kernel
theorem dX0_markFrom_14 : decode cX0_markFrom 14 = .ok (.iload_n 2, 1) := by decide +kernel
theorem dX0_markFrom_15 : decode cX0_markFrom 15 = .ok (.bipush 80, 2) := by decide +kernel
theorem dX0_markFrom_17 : decode cX0_markFrom 17 = .ok (.if_icmp .ge 100, 3) := by decide +kernel
theorem dX0_markFrom_20 : decode cX0_markFrom 20 = .ok (.iload_n 2, 1) := by decide +kernel
theorem dX0_markFrom_21 : decode cX0_markFrom 21 = .ok (.aload_n 0, 1) := by decide +kernel
theorem dX0_markFrom_22 : decode cX0_markFrom 22 = .ok (.getfield 12, 3) := by decide +kernel
theorem dX0_markFrom_25 : decode cX0_markFrom 25 = .ok (.getfield 58, 3) := by decide +kernel
theorem dX0_markFrom_28 : decode cX0_markFrom 28 = .ok (.if_icmp .ge 89, 3) := by decide +kernel
theorem dX0_markFrom_31 : decode cX0_markFrom 31 = .ok (.aload_n 0, 1) := by decide +kernel
theorem dX0_markFrom_32 : decode cX0_markFrom 32 = .ok (.getfield 12, 3) := by decide +kernel
theorem dX0_markFrom_35 : decode cX0_markFrom 35 = .ok (.iload_n 2, 1) := by decide +kernel
theorem dX0_markFrom_36 : decode cX0_markFrom 36 = .ok (.invokevirtual 61, 3) := by decide +kernel
theorem dX0_markFrom_39 : decode cX0_markFrom 39 = .ok (.astore_n 3, 1) := by decide +kernel
theorem dX0_markFrom_40 : decode cX0_markFrom 40 = .ok (.aload_n 3, 1) := by decide +kernel
theorem dX0_markFrom_41 : decode cX0_markFrom 41 = .ok (.ifnonnull 6, 3) := by decide +kernel
theorem dX0_markFrom_44 : decode cX0_markFrom 44 = .ok (.goto 67, 3) := by decide +kernel
theorem dX0_markFrom_47 : decode cX0_markFrom 47 = .ok (.aload_n 3, 1) := by decide +kernel
theorem dX0_markFrom_48 : decode cX0_markFrom 48 = .ok (.getfield 90, 3) := by decide +kernel
theorem dX0_markFrom_51 : decode cX0_markFrom 51 = .ok (.astore 4, 2) := by decide +kernel
theorem dX0_markFrom_53 : decode cX0_markFrom 53 = .ok (.aload 4, 2) := by decide +kernel
theorem dX0_markFrom_55 : decode cX0_markFrom 55 = .ok (.arraylength, 1) := by decide +kernel
theorem dX0_markFrom_56 : decode cX0_markFrom 56 = .ok (.istore 5, 2) := by decide +kernel
theorem dX0_markFrom_58 : decode cX0_markFrom 58 = .ok (.iconst 0, 1) := by decide +kernel
theorem dX0_markFrom_59 : decode cX0_markFrom 59 = .ok (.istore 6, 2) := by decide +kernel
theorem dX0_markFrom_61 : decode cX0_markFrom 61 = .ok (.iload 6, 2) := by decide +kernel
theorem dX0_markFrom_63 : decode cX0_markFrom 63 = .ok (.iload 5, 2) := by decide +kernel
theorem dX0_markFrom_65 : decode cX0_markFrom 65 = .ok (.if_icmp .ge 46, 3) := by decide +kernel
theorem dX0_markFrom_68 : decode cX0_markFrom 68 = .ok (.aload 4, 2) := by decide +kernel
theorem dX0_markFrom_70 : decode cX0_markFrom 70 = .ok (.iload 6, 2) := by decide +kernel
theorem dX0_markFrom_72 : decode cX0_markFrom 72 = .ok (.aaload, 1) := by decide +kernel
theorem dX0_markFrom_73 : decode cX0_markFrom 73 = .ok (.astore 7, 2) := by decide +kernel
theorem dX0_markFrom_75 : decode cX0_markFrom 75 = .ok (.aload 7, 2) := by decide +kernel
theorem dX0_markFrom_77 : decode cX0_markFrom 77 = .ok (.ifnull 28, 3) := by decide +kernel
theorem dX0_markFrom_80 : decode cX0_markFrom 80 = .ok (.aload 7, 2) := by decide +kernel
theorem dX0_markFrom_82 : decode cX0_markFrom 82 = .ok (.invokevirtual 94, 3) := by decide +kernel
theorem dX0_markFrom_85 : decode cX0_markFrom 85 = .ok (.ifCond .ne 20, 3) := by decide +kernel
theorem dX0_markFrom_88 : decode cX0_markFrom 88 = .ok (.aload 7, 2) := by decide +kernel
theorem dX0_markFrom_90 : decode cX0_markFrom 90 = .ok (.dup, 1) := by decide +kernel
theorem dX0_markFrom_91 : decode cX0_markFrom 91 = .ok (.getfield 98, 3) := by decide +kernel
theorem dX0_markFrom_94 : decode cX0_markFrom 94 = .ok (.iconst 1, 1) := by decide +kernel
theorem dX0_markFrom_95 : decode cX0_markFrom 95 = .ok (.isub, 1) := by decide +kernel
theorem dX0_markFrom_96 : decode cX0_markFrom 96 = .ok (.putfield 98, 3) := by decide +kernel
theorem dX0_markFrom_99 : decode cX0_markFrom 99 = .ok (.aload_n 0, 1) := by decide +kernel
theorem dX0_markFrom_100 : decode cX0_markFrom 100 = .ok (.aload 7, 2) := by decide +kernel
theorem dX0_markFrom_102 : decode cX0_markFrom 102 = .ok (.invokevirtual 87, 3) := by decide +kernel
theorem dX0_markFrom_105 : decode cX0_markFrom 105 = .ok (.iinc 6 1, 3) := by decide +kernel
theorem dX0_markFrom_108 : decode cX0_markFrom 108 = .ok (.goto (-47), 3) := by decide +kernel
theorem dX0_markFrom_111 : decode cX0_markFrom 111 = .ok (.iinc 2 1, 3) := by decide +kernel
theorem dX0_markFrom_114 : decode cX0_markFrom 114 = .ok (.goto (-100), 3) := by decide +kernel
theorem dX0_markFrom_117 : decode cX0_markFrom 117 = .ok (.return_, 1) := by decide +kernel
set_option maxRecDepth 20000 in
theorem ggX0_turnGray_X5_isGreen : GoodIn wsX0_turnGray wsX5_isGreen := goodIn_r _ [8, 9, 17, 18, 19, 20, 21, 22, 23, 24, 25, 26, 27] (by decide +kernel) (by decide +kernel)
set_option maxRecDepth 20000 in
theorem gX0_turnGray_X5_isGreen : GoodIn wsX0_turnGray (wsV RX0 94 RX5 yX5_isGreen wsX5_isGreen) := goodIn_app (goodIn_of _ (by decide +kernel)) ggX0_turnGray_X5_isGreen
set_option maxRecDepth 20000 in
theorem ggX0_turnGray_X3_append : GoodIn wsX0_turnGray wsX3_append := goodIn_r _ [14, 15, 16, 35, 36] (by decide +kernel) (by decide +kernel)
set_option maxRecDepth 20000 in
theorem gX0_turnGray_X3_append : GoodIn wsX0_turnGray (wsV RX0 104 RX3 yX3_append wsX3_append) := goodIn_app (goodIn_of _ (by decide +kernel)) ggX0_turnGray_X3_append
theorem dX0_turnGray_0 : decode cX0_turnGray 0 = .ok (.aload_n 1, 1) := by decide +kernel
theorem dX0_turnGray_1 : decode cX0_turnGray 1 = .ok (.getfield 78, 3) := by decide +kernel
theorem dX0_turnGray_4 : decode cX0_turnGray 4 = .ok (.iconst 1, 1) := by decide +kernel
theorem dX0_turnGray_5 : decode cX0_turnGray 5 = .ok (.if_icmp .eq 33, 3) := by decide +kernel
theorem dX0_turnGray_8 : decode cX0_turnGray 8 = .ok (.aload_n 1, 1) := by decide +kernel
theorem dX0_turnGray_9 : decode cX0_turnGray 9 = .ok (.invokevirtual 94, 3) := by decide +kernel
theorem dX0_turnGray_12 : decode cX0_turnGray 12 = .ok (.ifCond .ne 26, 3) := by decide +kernel
theorem dX0_turnGray_15 : decode cX0_turnGray 15 = .ok (.aload_n 1, 1) := by decide +kernel
theorem dX0_turnGray_16 : decode cX0_turnGray 16 = .ok (.iconst 1, 1) := by decide +kernel
theorem dX0_turnGray_17 : decode cX0_turnGray 17 = .ok (.putfield 78, 3) := by decide +kernel
theorem dX0_turnGray_20 : decode cX0_turnGray 20 = .ok (.aload_n 0, 1) := by decide +kernel
theorem dX0_turnGray_21 : decode cX0_turnGray 21 = .ok (.dup, 1) := by decide +kernel
theorem dX0_turnGray_22 : decode cX0_turnGray 22 = .ok (.getfield 101, 3) := by decide +kernel
theorem dX0_turnGray_25 : decode cX0_turnGray 25 = .ok (.iconst 1, 1) := by decide +kernel
theorem dX0_turnGray_26 : decode cX0_turnGray 26 = .ok (.iadd, 1) := by decide +kernel
theorem dX0_turnGray_27 : decode cX0_turnGray 27 = .ok (.putfield 101, 3) := by decide +kernel
theorem dX0_turnGray_30 : decode cX0_turnGray 30 = .ok (.aload_n 0, 1) := by decide +kernel
theorem dX0_turnGray_31 : decode cX0_turnGray 31 = .ok (.getfield 12, 3) := by decide +kernel
theorem dX0_turnGray_34 : decode cX0_turnGray 34 = .ok (.aload_n 1, 1) := by decide +kernel
theorem dX0_turnGray_35 : decode cX0_turnGray 35 = .ok (.invokevirtual 104, 3) := by decide +kernel
theorem dX0_turnGray_38 : decode cX0_turnGray 38 = .ok (.return_, 1) := by decide +kernel
set_option maxRecDepth 20000 in
theorem ggX0_scanListed_X3_item : GoodIn wsX0_scanListed wsX3_item := goodIn_r _ [9, 10, 11, 60, 61] (by decide +kernel) (by decide +kernel)
set_option maxRecDepth 20000 in
theorem gX0_scanListed_X3_item : GoodIn wsX0_scanListed (wsV RX0 61 RX3 yX3_item wsX3_item) := goodIn_app (goodIn_of _ (by decide +kernel)) ggX0_scanListed_X3_item
set_option maxRecDepth 20000 in
theorem ggX0_scanListed_X0_scanFrom : GoodIn wsX0_scanListed wsX0_scanFrom := goodIn_r _ [16, 17, 3, 18, 19, 20, 21, 8, 22, 10, 23, 24, 25, 15, 26, 27, 28, 29, 30, 31, 32, 33, 34, 35, 36, 37, 38, 39, 40, 41, 42, 11, 5, 6, 7, 9, 43, 44, 45, 46, 47, 48, 49, 50, 51, 52, 53, 54, 55, 60, 61, 62, 63, 64, 65, 66, 67, 68, 69, 70, 71, 72] (by decide +kernel) (by decide +kernel)
set_option maxRecDepth 20000 in
theorem gX0_scanListed_X0_scanFrom : GoodIn wsX0_scanListed (wsV RX0 107 RX0 yX0_scanFrom wsX0_scanFrom) := goodIn_app (goodIn_of _ (by decide +kernel)) ggX0_scanListed_X0_scanFrom
theorem dX0_scanListed_0 : decode cX0_scanListed 0 = .ok (.aload_n 0, 1) := by decide +kernel
theorem dX0_scanListed_1 : decode cX0_scanListed 1 = .ok (.getfield 25, 3) := by decide +kernel
theorem dX0_scanListed_4 : decode cX0_scanListed 4 = .ok (.getfield 53, 3) := by decide +kernel
theorem dX0_scanListed_7 : decode cX0_scanListed 7 = .ok (.astore_n 1, 1) := by decide +kernel
theorem dX0_scanListed_8 : decode cX0_scanListed 8 = .ok (.iconst 0, 1) := by decide +kernel
theorem dX0_scanListed_9 : decode cX0_scanListed 9 = .ok (.istore_n 2, 1) := by decide +kernel
theorem dX0_scanListed_10 : decode cX0_scanListed 10 = .ok (.iload_n 2, 1) := by decide +kernel
theorem dX0_scanListed_11 : decode cX0_scanListed 11 = .ok (.bipush 80, 2) := by decide +kernel
theorem dX0_scanListed_13 : decode cX0_scanListed 13 = .ok (.if_icmp .ge 39, 3) := by decide +kernel
theorem dX0_scanListed_16 : decode cX0_scanListed 16 = .ok (.iload_n 2, 1) := by decide +kernel
theorem dX0_scanListed_17 : decode cX0_scanListed 17 = .ok (.aload_n 1, 1) := by decide +kernel
theorem dX0_scanListed_18 : decode cX0_scanListed 18 = .ok (.getfield 58, 3) := by decide +kernel
theorem dX0_scanListed_21 : decode cX0_scanListed 21 = .ok (.if_icmp .ge 31, 3) := by decide +kernel
theorem dX0_scanListed_24 : decode cX0_scanListed 24 = .ok (.aload_n 1, 1) := by decide +kernel
theorem dX0_scanListed_25 : decode cX0_scanListed 25 = .ok (.iload_n 2, 1) := by decide +kernel
theorem dX0_scanListed_26 : decode cX0_scanListed 26 = .ok (.invokevirtual 61, 3) := by decide +kernel
theorem dX0_scanListed_29 : decode cX0_scanListed 29 = .ok (.astore_n 3, 1) := by decide +kernel
theorem dX0_scanListed_30 : decode cX0_scanListed 30 = .ok (.aload_n 3, 1) := by decide +kernel
theorem dX0_scanListed_31 : decode cX0_scanListed 31 = .ok (.ifnull 15, 3) := by decide +kernel
theorem dX0_scanListed_34 : decode cX0_scanListed 34 = .ok (.aload_n 3, 1) := by decide +kernel
theorem dX0_scanListed_35 : decode cX0_scanListed 35 = .ok (.getfield 71, 3) := by decide +kernel
theorem dX0_scanListed_38 : decode cX0_scanListed 38 = .ok (.ifCond .eq 8, 3) := by decide +kernel
theorem dX0_scanListed_41 : decode cX0_scanListed 41 = .ok (.aload_n 0, 1) := by decide +kernel
theorem dX0_scanListed_42 : decode cX0_scanListed 42 = .ok (.aload_n 3, 1) := by decide +kernel
theorem dX0_scanListed_43 : decode cX0_scanListed 43 = .ok (.invokevirtual 107, 3) := by decide +kernel
theorem dX0_scanListed_46 : decode cX0_scanListed 46 = .ok (.iinc 2 1, 3) := by decide +kernel
theorem dX0_scanListed_49 : decode cX0_scanListed 49 = .ok (.goto (-39), 3) := by decide +kernel
theorem dX0_scanListed_52 : decode cX0_scanListed 52 = .ok (.return_, 1) := by decide +kernel
set_option maxRecDepth 20000 in
theorem ggX0_scanFrom_X3_clear : GoodIn wsX0_scanFrom wsX3_clear := goodIn_r _ [8, 9, 49, 50] (by decide +kernel) (by decide +kernel)
set_option maxRecDepth 20000 in
theorem gX0_scanFrom_X3_clear : GoodIn wsX0_scanFrom (wsV RX0 84 RX3 yX3_clear wsX3_clear) := goodIn_app (goodIn_of _ (by decide +kernel)) ggX0_scanFrom_X3_clear
set_option maxRecDepth 20000 in
theorem ggX0_scanFrom_X0_judge : GoodIn wsX0_scanFrom wsX0_judge := goodIn_r _ [14, 15, 16, 1, 17, 18, 19, 13, 20, 21, 2, 3, 4, 5, 6, 7, 8, 9, 22, 23, 24, 25, 26, 27, 28, 29, 30, 31, 32, 33, 34, 35, 36, 37, 38, 39, 40, 41, 51, 52, 53, 54, 55, 56, 57, 58, 59, 60, 61, 42, 43, 44, 45, 46, 47, 48, 49, 50] (by decide +kernel) (by decide +kernel)
set_option maxRecDepth 20000 in
theorem gX0_scanFrom_X0_judge : GoodIn wsX0_scanFrom (wsV RX0 110 RX0 yX0_judge wsX0_judge) := goodIn_app (goodIn_of _ (by decide +kernel)) ggX0_scanFrom_X0_judge
set_option maxRecDepth 20000 in
theorem ggX0_scanFrom_X3_item : GoodIn wsX0_scanFrom wsX3_item := goodIn_r _ [35, 9, 31, 49, 50] (by decide +kernel) (by decide +kernel)
set_option maxRecDepth 20000 in
theorem gX0_scanFrom_X3_item : GoodIn wsX0_scanFrom (wsV RX0 61 RX3 yX3_item wsX3_item) := goodIn_app (goodIn_of _ (by decide +kernel)) ggX0_scanFrom_X3_item
theorem dX0_scanFrom_0 : decode cX0_scanFrom 0 = .ok (.aload_n 0, 1) := by decide +kernel
theorem dX0_scanFrom_1 : decode cX0_scanFrom 1 = .ok (.getfield 12, 3) := by decide +kernel
theorem dX0_scanFrom_4 : decode cX0_scanFrom 4 = .ok (.invokevirtual 84, 3) := by decide +kernel
theorem dX0_scanFrom_7 : decode cX0_scanFrom 7 = .ok (.aload_n 0, 1) := by decide +kernel
theorem dX0_scanFrom_8 : decode cX0_scanFrom 8 = .ok (.aload_n 1, 1) := by decide +kernel
theorem dX0_scanFrom_9 : decode cX0_scanFrom 9 = .ok (.invokevirtual 110, 3) := by decide +kernel
theorem dX0_scanFrom_12 : decode cX0_scanFrom 12 = .ok (.iconst 0, 1) := by decide +kernel
theorem dX0_scanFrom_13 : decode cX0_scanFrom 13 = .ok (.istore_n 2, 1) := by decide +kernel
theorem dX0_scanFrom_14 : decode cX0_scanFrom 14 = .ok (.iload_n 2, 1) := by decide +kernel
theorem dX0_scanFrom_15 : decode cX0_scanFrom 15 = .ok (.bipush 80, 2) := by decide +kernel
theorem dX0_scanFrom_17 : decode cX0_scanFrom 17 = .ok (.if_icmp .ge 81, 3) := by decide +kernel
theorem dX0_scanFrom_20 : decode cX0_scanFrom 20 = .ok (.iload_n 2, 1) := by decide +kernel
theorem dX0_scanFrom_21 : decode cX0_scanFrom 21 = .ok (.aload_n 0, 1) := by decide +kernel
theorem dX0_scanFrom_22 : decode cX0_scanFrom 22 = .ok (.getfield 12, 3) := by decide +kernel
theorem dX0_scanFrom_25 : decode cX0_scanFrom 25 = .ok (.getfield 58, 3) := by decide +kernel
theorem dX0_scanFrom_28 : decode cX0_scanFrom 28 = .ok (.if_icmp .ge 70, 3) := by decide +kernel
theorem dX0_scanFrom_31 : decode cX0_scanFrom 31 = .ok (.aload_n 0, 1) := by decide +kernel
theorem dX0_scanFrom_32 : decode cX0_scanFrom 32 = .ok (.getfield 12, 3) := by decide +kernel
theorem dX0_scanFrom_35 : decode cX0_scanFrom 35 = .ok (.iload_n 2, 1) := by decide +kernel
theorem dX0_scanFrom_36 : decode cX0_scanFrom 36 = .ok (.invokevirtual 61, 3) := by decide +kernel
theorem dX0_scanFrom_39 : decode cX0_scanFrom 39 = .ok (.astore_n 3, 1) := by decide +kernel
theorem dX0_scanFrom_40 : decode cX0_scanFrom 40 = .ok (.aload_n 3, 1) := by decide +kernel
theorem dX0_scanFrom_41 : decode cX0_scanFrom 41 = .ok (.ifnonnull 6, 3) := by decide +kernel
theorem dX0_scanFrom_44 : decode cX0_scanFrom 44 = .ok (.goto 48, 3) := by decide +kernel
theorem dX0_scanFrom_47 : decode cX0_scanFrom 47 = .ok (.aload_n 3, 1) := by decide +kernel
theorem dX0_scanFrom_48 : decode cX0_scanFrom 48 = .ok (.getfield 90, 3) := by decide +kernel
theorem dX0_scanFrom_51 : decode cX0_scanFrom 51 = .ok (.astore 4, 2) := by decide +kernel
theorem dX0_scanFrom_53 : decode cX0_scanFrom 53 = .ok (.aload 4, 2) := by decide +kernel
theorem dX0_scanFrom_55 : decode cX0_scanFrom 55 = .ok (.arraylength, 1) := by decide +kernel
theorem dX0_scanFrom_56 : decode cX0_scanFrom 56 = .ok (.istore 5, 2) := by decide +kernel
theorem dX0_scanFrom_58 : decode cX0_scanFrom 58 = .ok (.iconst 0, 1) := by decide +kernel
theorem dX0_scanFrom_59 : decode cX0_scanFrom 59 = .ok (.istore 6, 2) := by decide +kernel
theorem dX0_scanFrom_61 : decode cX0_scanFrom 61 = .ok (.iload 6, 2) := by decide +kernel
theorem dX0_scanFrom_63 : decode cX0_scanFrom 63 = .ok (.iload 5, 2) := by decide +kernel
theorem dX0_scanFrom_65 : decode cX0_scanFrom 65 = .ok (.if_icmp .ge 27, 3) := by decide +kernel
theorem dX0_scanFrom_68 : decode cX0_scanFrom 68 = .ok (.aload 4, 2) := by decide +kernel
theorem dX0_scanFrom_70 : decode cX0_scanFrom 70 = .ok (.iload 6, 2) := by decide +kernel
theorem dX0_scanFrom_72 : decode cX0_scanFrom 72 = .ok (.aaload, 1) := by decide +kernel
theorem dX0_scanFrom_73 : decode cX0_scanFrom 73 = .ok (.astore 7, 2) := by decide +kernel
theorem dX0_scanFrom_75 : decode cX0_scanFrom 75 = .ok (.aload 7, 2) := by decide +kernel
theorem dX0_scanFrom_77 : decode cX0_scanFrom 77 = .ok (.ifnull 9, 3) := by decide +kernel
theorem dX0_scanFrom_80 : decode cX0_scanFrom 80 = .ok (.aload_n 0, 1) := by decide +kernel
theorem dX0_scanFrom_81 : decode cX0_scanFrom 81 = .ok (.aload 7, 2) := by decide +kernel
theorem dX0_scanFrom_83 : decode cX0_scanFrom 83 = .ok (.invokevirtual 110, 3) := by decide +kernel
theorem dX0_scanFrom_86 : decode cX0_scanFrom 86 = .ok (.iinc 6 1, 3) := by decide +kernel
theorem dX0_scanFrom_89 : decode cX0_scanFrom 89 = .ok (.goto (-28), 3) := by decide +kernel
theorem dX0_scanFrom_92 : decode cX0_scanFrom 92 = .ok (.iinc 2 1, 3) := by decide +kernel
theorem dX0_scanFrom_95 : decode cX0_scanFrom 95 = .ok (.goto (-81), 3) := by decide +kernel
theorem dX0_scanFrom_98 : decode cX0_scanFrom 98 = .ok (.return_, 1) := by decide +kernel
set_option maxRecDepth 20000 in
theorem ggX0_judge_X0_blackenFrom : GoodIn wsX0_judge wsX0_blackenFrom := goodIn_r _ [8, 9, 10, 11, 2, 12, 13, 14, 15, 16, 17, 18, 19, 20, 7, 21, 1, 22, 23, 24, 25, 26, 27, 28, 29, 30, 31, 32, 33, 34, 35, 36, 37, 49, 50, 51, 52, 53, 54, 55, 56, 57, 38, 39, 40, 41, 42, 43, 44, 45, 46, 47, 48] (by decide +kernel) (by decide +kernel)
set_option maxRecDepth 20000 in
theorem gX0_judge_X0_blackenFrom : GoodIn wsX0_judge (wsV RX0 113 RX0 yX0_blackenFrom wsX0_blackenFrom) := goodIn_app (goodIn_of _ (by decide +kernel)) ggX0_judge_X0_blackenFrom
set_option maxRecDepth 20000 in
theorem ggX0_judge_X3_append : GoodIn wsX0_judge wsX3_append := goodIn_r _ [26, 17, 27, 56, 57] (by decide +kernel) (by decide +kernel)
set_option maxRecDepth 20000 in
theorem gX0_judge_X3_append : GoodIn wsX0_judge (wsV RX0 104 RX3 yX3_append wsX3_append) := goodIn_app (goodIn_of _ (by decide +kernel)) ggX0_judge_X3_append
theorem dX0_judge_0 : decode cX0_judge 0 = .ok (.aload_n 1, 1) := by decide +kernel
theorem dX0_judge_1 : decode cX0_judge 1 = .ok (.getfield 78, 3) := by decide +kernel
theorem dX0_judge_4 : decode cX0_judge 4 = .ok (.iconst 1, 1) := by decide +kernel
theorem dX0_judge_5 : decode cX0_judge 5 = .ok (.if_icmp .eq 4, 3) := by decide +kernel
theorem dX0_judge_8 : decode cX0_judge 8 = .ok (.return_, 1) := by decide +kernel
theorem dX0_judge_9 : decode cX0_judge 9 = .ok (.aload_n 1, 1) := by decide +kernel
theorem dX0_judge_10 : decode cX0_judge 10 = .ok (.getfield 98, 3) := by decide +kernel
theorem dX0_judge_13 : decode cX0_judge 13 = .ok (.ifCond .le 11, 3) := by decide +kernel
theorem dX0_judge_16 : decode cX0_judge 16 = .ok (.aload_n 0, 1) := by decide +kernel
theorem dX0_judge_17 : decode cX0_judge 17 = .ok (.aload_n 1, 1) := by decide +kernel
theorem dX0_judge_18 : decode cX0_judge 18 = .ok (.invokevirtual 113, 3) := by decide +kernel
theorem dX0_judge_21 : decode cX0_judge 21 = .ok (.goto 16, 3) := by decide +kernel
theorem dX0_judge_24 : decode cX0_judge 24 = .ok (.aload_n 1, 1) := by decide +kernel
theorem dX0_judge_25 : decode cX0_judge 25 = .ok (.iconst 2, 1) := by decide +kernel
theorem dX0_judge_26 : decode cX0_judge 26 = .ok (.putfield 78, 3) := by decide +kernel
theorem dX0_judge_29 : decode cX0_judge 29 = .ok (.aload_n 0, 1) := by decide +kernel
theorem dX0_judge_30 : decode cX0_judge 30 = .ok (.getfield 12, 3) := by decide +kernel
theorem dX0_judge_33 : decode cX0_judge 33 = .ok (.aload_n 1, 1) := by decide +kernel
theorem dX0_judge_34 : decode cX0_judge 34 = .ok (.invokevirtual 104, 3) := by decide +kernel
theorem dX0_judge_37 : decode cX0_judge 37 = .ok (.return_, 1) := by decide +kernel
set_option maxRecDepth 20000 in
theorem ggX0_blackenFrom_X3_clear : GoodIn wsX0_blackenFrom wsX3_clear := goodIn_r _ [9, 10, 40, 41] (by decide +kernel) (by decide +kernel)
set_option maxRecDepth 20000 in
theorem gX0_blackenFrom_X3_clear : GoodIn wsX0_blackenFrom (wsV RX0 84 RX3 yX3_clear wsX3_clear) := goodIn_app (goodIn_of _ (by decide +kernel)) ggX0_blackenFrom_X3_clear
set_option maxRecDepth 20000 in
theorem ggX0_blackenFrom_X0_turnBlack : GoodIn wsX0_blackenFrom wsX0_turnBlack := goodIn_r _ [15, 16, 17, 1, 18, 19, 20, 8, 21, 10, 22, 42, 43, 44, 45, 46, 47, 48, 49, 50, 51, 52, 33, 34, 35, 36, 37, 38, 39, 40, 41] (by decide +kernel) (by decide +kernel)
set_option maxRecDepth 20000 in
theorem gX0_blackenFrom_X0_turnBlack : GoodIn wsX0_blackenFrom (wsV RX0 116 RX0 yX0_turnBlack wsX0_turnBlack) := goodIn_app (goodIn_of _ (by decide +kernel)) ggX0_blackenFrom_X0_turnBlack
set_option maxRecDepth 20000 in
theorem ggX0_blackenFrom_X3_item : GoodIn wsX0_blackenFrom wsX3_item := goodIn_r _ [26, 10, 22, 40, 41] (by decide +kernel) (by decide +kernel)
set_option maxRecDepth 20000 in
theorem gX0_blackenFrom_X3_item : GoodIn wsX0_blackenFrom (wsV RX0 61 RX3 yX3_item wsX3_item) := goodIn_app (goodIn_of _ (by decide +kernel)) ggX0_blackenFrom_X3_item
set_option maxRecDepth 20000 in
theorem ggX0_blackenFrom_X5_isGreen : GoodIn wsX0_blackenFrom wsX5_isGreen := goodIn_r _ [31, 32, 42, 43, 44, 45, 46, 47, 48, 49, 50, 51, 52] (by decide +kernel) (by decide +kernel)
set_option maxRecDepth 20000 in
theorem gX0_blackenFrom_X5_isGreen : GoodIn wsX0_blackenFrom (wsV RX0 94 RX5 yX5_isGreen wsX5_isGreen) := goodIn_app (goodIn_of _ (by decide +kernel)) ggX0_blackenFrom_X5_isGreen
theorem dX0_blackenFrom_0 : decode cX0_blackenFrom 0 = .ok (.aload_n 0, 1) := by decide +kernel
theorem dX0_blackenFrom_1 : decode cX0_blackenFrom 1 = .ok (.getfield 18, 3) := by decide +kernel
theorem dX0_blackenFrom_4 : decode cX0_blackenFrom 4 = .ok (.invokevirtual 84, 3) := by decide +kernel
theorem dX0_blackenFrom_7 : decode cX0_blackenFrom 7 = .ok (.aload_n 0, 1) := by decide +kernel
theorem dX0_blackenFrom_8 : decode cX0_blackenFrom 8 = .ok (.aload_n 1, 1) := by decide +kernel
theorem dX0_blackenFrom_9 : decode cX0_blackenFrom 9 = .ok (.invokevirtual 116, 3) := by decide +kernel
theorem dX0_blackenFrom_12 : decode cX0_blackenFrom 12 = .ok (.iconst 0, 1) := by decide +kernel
theorem dX0_blackenFrom_13 : decode cX0_blackenFrom 13 = .ok (.istore_n 2, 1) := by decide +kernel
theorem dX0_blackenFrom_14 : decode cX0_blackenFrom 14 = .ok (.iload_n 2, 1) := by decide +kernel
theorem dX0_blackenFrom_15 : decode cX0_blackenFrom 15 = .ok (.bipush 80, 2) := by decide +kernel
theorem dX0_blackenFrom_17 : decode cX0_blackenFrom 17 = .ok (.if_icmp .ge 100, 3) := by decide +kernel
theorem dX0_blackenFrom_20 : decode cX0_blackenFrom 20 = .ok (.iload_n 2, 1) := by decide +kernel
theorem dX0_blackenFrom_21 : decode cX0_blackenFrom 21 = .ok (.aload_n 0, 1) := by decide +kernel
theorem dX0_blackenFrom_22 : decode cX0_blackenFrom 22 = .ok (.getfield 18, 3) := by decide +kernel
theorem dX0_blackenFrom_25 : decode cX0_blackenFrom 25 = .ok (.getfield 58, 3) := by decide +kernel
theorem dX0_blackenFrom_28 : decode cX0_blackenFrom 28 = .ok (.if_icmp .ge 89, 3) := by decide +kernel
theorem dX0_blackenFrom_31 : decode cX0_blackenFrom 31 = .ok (.aload_n 0, 1) := by decide +kernel
theorem dX0_blackenFrom_32 : decode cX0_blackenFrom 32 = .ok (.getfield 18, 3) := by decide +kernel
theorem dX0_blackenFrom_35 : decode cX0_blackenFrom 35 = .ok (.iload_n 2, 1) := by decide +kernel
theorem dX0_blackenFrom_36 : decode cX0_blackenFrom 36 = .ok (.invokevirtual 61, 3) := by decide +kernel
theorem dX0_blackenFrom_39 : decode cX0_blackenFrom 39 = .ok (.astore_n 3, 1) := by decide +kernel
theorem dX0_blackenFrom_40 : decode cX0_blackenFrom 40 = .ok (.aload_n 3, 1) := by decide +kernel
theorem dX0_blackenFrom_41 : decode cX0_blackenFrom 41 = .ok (.ifnonnull 6, 3) := by decide +kernel
theorem dX0_blackenFrom_44 : decode cX0_blackenFrom 44 = .ok (.goto 67, 3) := by decide +kernel
theorem dX0_blackenFrom_47 : decode cX0_blackenFrom 47 = .ok (.aload_n 3, 1) := by decide +kernel
theorem dX0_blackenFrom_48 : decode cX0_blackenFrom 48 = .ok (.getfield 90, 3) := by decide +kernel
theorem dX0_blackenFrom_51 : decode cX0_blackenFrom 51 = .ok (.astore 4, 2) := by decide +kernel
theorem dX0_blackenFrom_53 : decode cX0_blackenFrom 53 = .ok (.aload 4, 2) := by decide +kernel
theorem dX0_blackenFrom_55 : decode cX0_blackenFrom 55 = .ok (.arraylength, 1) := by decide +kernel
theorem dX0_blackenFrom_56 : decode cX0_blackenFrom 56 = .ok (.istore 5, 2) := by decide +kernel
theorem dX0_blackenFrom_58 : decode cX0_blackenFrom 58 = .ok (.iconst 0, 1) := by decide +kernel
theorem dX0_blackenFrom_59 : decode cX0_blackenFrom 59 = .ok (.istore 6, 2) := by decide +kernel
theorem dX0_blackenFrom_61 : decode cX0_blackenFrom 61 = .ok (.iload 6, 2) := by decide +kernel
theorem dX0_blackenFrom_63 : decode cX0_blackenFrom 63 = .ok (.iload 5, 2) := by decide +kernel
theorem dX0_blackenFrom_65 : decode cX0_blackenFrom 65 = .ok (.if_icmp .ge 46, 3) := by decide +kernel
theorem dX0_blackenFrom_68 : decode cX0_blackenFrom 68 = .ok (.aload 4, 2) := by decide +kernel
theorem dX0_blackenFrom_70 : decode cX0_blackenFrom 70 = .ok (.iload 6, 2) := by decide +kernel
theorem dX0_blackenFrom_72 : decode cX0_blackenFrom 72 = .ok (.aaload, 1) := by decide +kernel
theorem dX0_blackenFrom_73 : decode cX0_blackenFrom 73 = .ok (.astore 7, 2) := by decide +kernel
theorem dX0_blackenFrom_75 : decode cX0_blackenFrom 75 = .ok (.aload 7, 2) := by decide +kernel
theorem dX0_blackenFrom_77 : decode cX0_blackenFrom 77 = .ok (.ifnull 28, 3) := by decide +kernel
theorem dX0_blackenFrom_80 : decode cX0_blackenFrom 80 = .ok (.aload 7, 2) := by decide +kernel
theorem dX0_blackenFrom_82 : decode cX0_blackenFrom 82 = .ok (.invokevirtual 94, 3) := by decide +kernel
theorem dX0_blackenFrom_85 : decode cX0_blackenFrom 85 = .ok (.ifCond .ne 20, 3) := by decide +kernel
theorem dX0_blackenFrom_88 : decode cX0_blackenFrom 88 = .ok (.aload 7, 2) := by decide +kernel
theorem dX0_blackenFrom_90 : decode cX0_blackenFrom 90 = .ok (.dup, 1) := by decide +kernel
theorem dX0_blackenFrom_91 : decode cX0_blackenFrom 91 = .ok (.getfield 98, 3) := by decide +kernel
theorem dX0_blackenFrom_94 : decode cX0_blackenFrom 94 = .ok (.iconst 1, 1) := by decide +kernel
theorem dX0_blackenFrom_95 : decode cX0_blackenFrom 95 = .ok (.iadd, 1) := by decide +kernel
theorem dX0_blackenFrom_96 : decode cX0_blackenFrom 96 = .ok (.putfield 98, 3) := by decide +kernel
theorem dX0_blackenFrom_99 : decode cX0_blackenFrom 99 = .ok (.aload_n 0, 1) := by decide +kernel
theorem dX0_blackenFrom_100 : decode cX0_blackenFrom 100 = .ok (.aload 7, 2) := by decide +kernel
theorem dX0_blackenFrom_102 : decode cX0_blackenFrom 102 = .ok (.invokevirtual 116, 3) := by decide +kernel
theorem dX0_blackenFrom_105 : decode cX0_blackenFrom 105 = .ok (.iinc 6 1, 3) := by decide +kernel
theorem dX0_blackenFrom_108 : decode cX0_blackenFrom 108 = .ok (.goto (-47), 3) := by decide +kernel
theorem dX0_blackenFrom_111 : decode cX0_blackenFrom 111 = .ok (.iinc 2 1, 3) := by decide +kernel
theorem dX0_blackenFrom_114 : decode cX0_blackenFrom 114 = .ok (.goto (-100), 3) := by decide +kernel
theorem dX0_blackenFrom_117 : decode cX0_blackenFrom 117 = .ok (.return_, 1) := by decide +kernel
set_option maxRecDepth 20000 in
theorem ggX0_turnBlack_X3_append : GoodIn wsX0_turnBlack wsX3_append := goodIn_r _ [8, 9, 10, 29, 30] (by decide +kernel) (by decide +kernel)
set_option maxRecDepth 20000 in
theorem gX0_turnBlack_X3_append : GoodIn wsX0_turnBlack (wsV RX0 104 RX3 yX3_append wsX3_append) := goodIn_app (goodIn_of _ (by decide +kernel)) ggX0_turnBlack_X3_append
theorem dX0_turnBlack_0 : decode cX0_turnBlack 0 = .ok (.aload_n 1, 1) := by decide +kernel
theorem dX0_turnBlack_1 : decode cX0_turnBlack 1 = .ok (.getfield 78, 3) := by decide +kernel
theorem dX0_turnBlack_4 : decode cX0_turnBlack 4 = .ok (.ifCond .eq 26, 3) := by decide +kernel
theorem dX0_turnBlack_7 : decode cX0_turnBlack 7 = .ok (.aload_n 1, 1) := by decide +kernel
theorem dX0_turnBlack_8 : decode cX0_turnBlack 8 = .ok (.iconst 0, 1) := by decide +kernel
theorem dX0_turnBlack_9 : decode cX0_turnBlack 9 = .ok (.putfield 78, 3) := by decide +kernel
theorem dX0_turnBlack_12 : decode cX0_turnBlack 12 = .ok (.aload_n 0, 1) := by decide +kernel
theorem dX0_turnBlack_13 : decode cX0_turnBlack 13 = .ok (.dup, 1) := by decide +kernel
theorem dX0_turnBlack_14 : decode cX0_turnBlack 14 = .ok (.getfield 119, 3) := by decide +kernel
theorem dX0_turnBlack_17 : decode cX0_turnBlack 17 = .ok (.iconst 1, 1) := by decide +kernel
theorem dX0_turnBlack_18 : decode cX0_turnBlack 18 = .ok (.iadd, 1) := by decide +kernel
theorem dX0_turnBlack_19 : decode cX0_turnBlack 19 = .ok (.putfield 119, 3) := by decide +kernel
theorem dX0_turnBlack_22 : decode cX0_turnBlack 22 = .ok (.aload_n 0, 1) := by decide +kernel
theorem dX0_turnBlack_23 : decode cX0_turnBlack 23 = .ok (.getfield 18, 3) := by decide +kernel
theorem dX0_turnBlack_26 : decode cX0_turnBlack 26 = .ok (.aload_n 1, 1) := by decide +kernel
theorem dX0_turnBlack_27 : decode cX0_turnBlack 27 = .ok (.invokevirtual 104, 3) := by decide +kernel
theorem dX0_turnBlack_30 : decode cX0_turnBlack 30 = .ok (.return_, 1) := by decide +kernel
set_option maxRecDepth 20000 in
theorem ggX0_tellWishes_X6_ownerFrom : GoodIn wsX0_tellWishes wsX6_ownerFrom := goodIn_r _ [10, 11, 12, 13, 14, 9, 15, 16, 74, 75, 76, 77, 78, 79, 80, 81, 82, 83, 84, 85, 86] (by decide +kernel) (by decide +kernel)
set_option maxRecDepth 20000 in
theorem gX0_tellWishes_X6_ownerFrom : GoodIn wsX0_tellWishes (wsV RX0 126 RX6 yX6_ownerFrom wsX6_ownerFrom) := goodIn_app (goodIn_of _ (by decide +kernel)) ggX0_tellWishes_X6_ownerFrom
set_option maxRecDepth 20000 in
theorem ggX0_tellWishes_X1_tellWish : GoodIn wsX0_tellWishes wsX1_tellWish := goodIn_r _ [21, 22, 23, 24, 25, 26, 27, 28, 29, 30, 31, 74, 75, 76, 77, 78, 79, 80, 81, 82, 83, 84, 87, 88, 89, 90, 91, 92] (by decide +kernel) (by decide +kernel)
set_option maxRecDepth 20000 in
theorem gX0_tellWishes_X1_tellWish : GoodIn wsX0_tellWishes (wsV RX0 134 RX1 yX1_tellWish wsX1_tellWish) := goodIn_app (goodIn_of _ (by decide +kernel)) ggX0_tellWishes_X1_tellWish
set_option maxRecDepth 20000 in
theorem ggX0_tellWishes_X0_blackenFrom : GoodIn wsX0_tellWishes wsX0_blackenFrom := goodIn_r _ [36, 37, 38, 39, 40, 41, 42, 43, 28, 44, 30, 45, 46, 47, 35, 48, 3, 49, 50, 26, 27, 29, 31, 51, 52, 53, 54, 55, 56, 57, 58, 59, 60, 61, 62, 63, 64, 65, 66, 67, 91, 92, 74, 75, 76, 77, 78, 79, 80, 81, 82, 83, 84] (by decide +kernel) (by decide +kernel)
set_option maxRecDepth 20000 in
theorem gX0_tellWishes_X0_blackenFrom : GoodIn wsX0_tellWishes (wsV RX0 113 RX0 yX0_blackenFrom wsX0_blackenFrom) := goodIn_app (goodIn_of _ (by decide +kernel)) ggX0_tellWishes_X0_blackenFrom
theorem dX0_tellWishes_0 : decode cX0_tellWishes 0 = .ok (.iconst 0, 1) := by decide +kernel
theorem dX0_tellWishes_1 : decode cX0_tellWishes 1 = .ok (.istore_n 1, 1) := by decide +kernel
theorem dX0_tellWishes_2 : decode cX0_tellWishes 2 = .ok (.iload_n 1, 1) := by decide +kernel
theorem dX0_tellWishes_3 : decode cX0_tellWishes 3 = .ok (.sipush 400, 3) := by decide +kernel
theorem dX0_tellWishes_6 : decode cX0_tellWishes 6 = .ok (.if_icmp .ge 53, 3) := by decide +kernel
theorem dX0_tellWishes_9 : decode cX0_tellWishes 9 = .ok (.aload_n 0, 1) := by decide +kernel
theorem dX0_tellWishes_10 : decode cX0_tellWishes 10 = .ok (.getfield 21, 3) := by decide +kernel
theorem dX0_tellWishes_13 : decode cX0_tellWishes 13 = .ok (.getfield 122, 3) := by decide +kernel
theorem dX0_tellWishes_16 : decode cX0_tellWishes 16 = .ok (.iload_n 1, 1) := by decide +kernel
theorem dX0_tellWishes_17 : decode cX0_tellWishes 17 = .ok (.invokevirtual 126, 3) := by decide +kernel
theorem dX0_tellWishes_20 : decode cX0_tellWishes 20 = .ok (.astore_n 2, 1) := by decide +kernel
theorem dX0_tellWishes_21 : decode cX0_tellWishes 21 = .ok (.aload_n 2, 1) := by decide +kernel
theorem dX0_tellWishes_22 : decode cX0_tellWishes 22 = .ok (.ifnull 31, 3) := by decide +kernel
theorem dX0_tellWishes_25 : decode cX0_tellWishes 25 = .ok (.aload_n 2, 1) := by decide +kernel
theorem dX0_tellWishes_26 : decode cX0_tellWishes 26 = .ok (.getfield 78, 3) := by decide +kernel
theorem dX0_tellWishes_29 : decode cX0_tellWishes 29 = .ok (.iconst 2, 1) := by decide +kernel
theorem dX0_tellWishes_30 : decode cX0_tellWishes 30 = .ok (.if_icmp .ne 23, 3) := by decide +kernel
theorem dX0_tellWishes_33 : decode cX0_tellWishes 33 = .ok (.aload_n 2, 1) := by decide +kernel
theorem dX0_tellWishes_34 : decode cX0_tellWishes 34 = .ok (.getfield 131, 3) := by decide +kernel
theorem dX0_tellWishes_37 : decode cX0_tellWishes 37 = .ok (.ifCond .eq 16, 3) := by decide +kernel
theorem dX0_tellWishes_40 : decode cX0_tellWishes 40 = .ok (.aload_n 0, 1) := by decide +kernel
theorem dX0_tellWishes_41 : decode cX0_tellWishes 41 = .ok (.getfield 25, 3) := by decide +kernel
theorem dX0_tellWishes_44 : decode cX0_tellWishes 44 = .ok (.aload_n 2, 1) := by decide +kernel
theorem dX0_tellWishes_45 : decode cX0_tellWishes 45 = .ok (.invokevirtual 134, 3) := by decide +kernel
theorem dX0_tellWishes_48 : decode cX0_tellWishes 48 = .ok (.aload_n 0, 1) := by decide +kernel
theorem dX0_tellWishes_49 : decode cX0_tellWishes 49 = .ok (.aload_n 2, 1) := by decide +kernel
theorem dX0_tellWishes_50 : decode cX0_tellWishes 50 = .ok (.invokevirtual 113, 3) := by decide +kernel
theorem dX0_tellWishes_53 : decode cX0_tellWishes 53 = .ok (.iinc 1 1, 3) := by decide +kernel
theorem dX0_tellWishes_56 : decode cX0_tellWishes 56 = .ok (.goto (-54), 3) := by decide +kernel
theorem dX0_tellWishes_59 : decode cX0_tellWishes 59 = .ok (.return_, 1) := by decide +kernel
set_option maxRecDepth 20000 in
theorem ggX0_emptyList_X3_item : GoodIn wsX0_emptyList wsX3_item := goodIn_r _ [9, 10, 11, 27, 28] (by decide +kernel) (by decide +kernel)
set_option maxRecDepth 20000 in
theorem gX0_emptyList_X3_item : GoodIn wsX0_emptyList (wsV RX0 61 RX3 yX3_item wsX3_item) := goodIn_app (goodIn_of _ (by decide +kernel)) ggX0_emptyList_X3_item
set_option maxRecDepth 20000 in
theorem ggX0_emptyList_X3_clear : GoodIn wsX0_emptyList wsX3_clear := goodIn_r _ [15, 10, 27, 28] (by decide +kernel) (by decide +kernel)
set_option maxRecDepth 20000 in
theorem gX0_emptyList_X3_clear : GoodIn wsX0_emptyList (wsV RX0 84 RX3 yX3_clear wsX3_clear) := goodIn_app (goodIn_of _ (by decide +kernel)) ggX0_emptyList_X3_clear
theorem dX0_emptyList_0 : decode cX0_emptyList 0 = .ok (.aload_n 0, 1) := by decide +kernel
theorem dX0_emptyList_1 : decode cX0_emptyList 1 = .ok (.getfield 25, 3) := by decide +kernel
theorem dX0_emptyList_4 : decode cX0_emptyList 4 = .ok (.getfield 53, 3) := by decide +kernel
theorem dX0_emptyList_7 : decode cX0_emptyList 7 = .ok (.astore_n 1, 1) := by decide +kernel
theorem dX0_emptyList_8 : decode cX0_emptyList 8 = .ok (.iconst 0, 1) := by decide +kernel
theorem dX0_emptyList_9 : decode cX0_emptyList 9 = .ok (.istore_n 2, 1) := by decide +kernel
theorem dX0_emptyList_10 : decode cX0_emptyList 10 = .ok (.iload_n 2, 1) := by decide +kernel
theorem dX0_emptyList_11 : decode cX0_emptyList 11 = .ok (.bipush 80, 2) := by decide +kernel
theorem dX0_emptyList_13 : decode cX0_emptyList 13 = .ok (.if_icmp .ge 32, 3) := by decide +kernel
theorem dX0_emptyList_16 : decode cX0_emptyList 16 = .ok (.iload_n 2, 1) := by decide +kernel
theorem dX0_emptyList_17 : decode cX0_emptyList 17 = .ok (.aload_n 1, 1) := by decide +kernel
theorem dX0_emptyList_18 : decode cX0_emptyList 18 = .ok (.getfield 58, 3) := by decide +kernel
theorem dX0_emptyList_21 : decode cX0_emptyList 21 = .ok (.if_icmp .ge 24, 3) := by decide +kernel
theorem dX0_emptyList_24 : decode cX0_emptyList 24 = .ok (.aload_n 1, 1) := by decide +kernel
theorem dX0_emptyList_25 : decode cX0_emptyList 25 = .ok (.iload_n 2, 1) := by decide +kernel
theorem dX0_emptyList_26 : decode cX0_emptyList 26 = .ok (.invokevirtual 61, 3) := by decide +kernel
theorem dX0_emptyList_29 : decode cX0_emptyList 29 = .ok (.astore_n 3, 1) := by decide +kernel
theorem dX0_emptyList_30 : decode cX0_emptyList 30 = .ok (.aload_n 3, 1) := by decide +kernel
theorem dX0_emptyList_31 : decode cX0_emptyList 31 = .ok (.ifnull 8, 3) := by decide +kernel
theorem dX0_emptyList_34 : decode cX0_emptyList 34 = .ok (.aload_n 3, 1) := by decide +kernel
theorem dX0_emptyList_35 : decode cX0_emptyList 35 = .ok (.iconst 0, 1) := by decide +kernel
theorem dX0_emptyList_36 : decode cX0_emptyList 36 = .ok (.putfield 71, 3) := by decide +kernel
theorem dX0_emptyList_39 : decode cX0_emptyList 39 = .ok (.iinc 2 1, 3) := by decide +kernel
theorem dX0_emptyList_42 : decode cX0_emptyList 42 = .ok (.goto (-32), 3) := by decide +kernel
theorem dX0_emptyList_45 : decode cX0_emptyList 45 = .ok (.aload_n 1, 1) := by decide +kernel
theorem dX0_emptyList_46 : decode cX0_emptyList 46 = .ok (.invokevirtual 84, 3) := by decide +kernel
theorem dX0_emptyList_49 : decode cX0_emptyList 49 = .ok (.return_, 1) := by decide +kernel
set_option maxRecDepth 20000 in
theorem ggX0_freeWhite_X6_ownerFrom : GoodIn wsX0_freeWhite wsX6_ownerFrom := goodIn_r _ [10, 11, 12, 13, 14, 9, 15, 16, 122, 123, 124, 125, 126, 127, 128, 129, 130, 131, 132, 133, 134] (by decide +kernel) (by decide +kernel)
set_option maxRecDepth 20000 in
theorem gX0_freeWhite_X6_ownerFrom : GoodIn wsX0_freeWhite (wsV RX0 126 RX6 yX6_ownerFrom wsX6_ownerFrom) := goodIn_app (goodIn_of _ (by decide +kernel)) ggX0_freeWhite_X6_ownerFrom
set_option maxRecDepth 20000 in
theorem ggX0_freeWhite_X5_isGreen : GoodIn wsX0_freeWhite wsX5_isGreen := goodIn_r _ [21, 22, 122, 123, 124, 125, 126, 127, 128, 129, 130, 131, 132] (by decide +kernel) (by decide +kernel)
set_option maxRecDepth 20000 in
theorem gX0_freeWhite_X5_isGreen : GoodIn wsX0_freeWhite (wsV RX0 94 RX5 yX5_isGreen wsX5_isGreen) := goodIn_app (goodIn_of _ (by decide +kernel)) ggX0_freeWhite_X5_isGreen
set_option maxRecDepth 20000 in
theorem ggX0_freeWhite_X1_less : GoodIn wsX0_freeWhite wsX1_less := goodIn_r _ [27, 28, 29, 30, 31, 32, 33, 26, 34, 35, 36, 37, 38, 39, 40, 41, 42, 43, 44, 18, 19, 20, 21, 22, 45, 46, 47, 48, 49, 50, 51, 52, 53, 54, 55, 56, 57, 58, 59, 60, 61, 62, 63, 64, 65, 66, 67, 68, 69, 70, 71, 72, 73, 74, 75, 76, 77, 78, 79, 80, 81, 82, 83, 84, 85, 86, 87, 88, 89, 90, 91, 92, 93, 94, 95, 96, 97, 98, 99, 9, 100, 11, 101, 102, 16, 103, 104, 105, 106, 107, 135, 136, 137, 138, 116, 117, 118, 119, 120, 121, 122, 123, 124, 125, 126, 127, 128, 129, 130, 131, 132, 139, 140, 141, 142, 143, 144, 133, 134] (by decide +kernel) (by decide +kernel)
set_option maxRecDepth 20000 in
theorem gX0_freeWhite_X1_less : GoodIn wsX0_freeWhite (wsV RX0 137 RX1 yX1_less wsX1_less) := goodIn_app (goodIn_of _ (by decide +kernel)) ggX0_freeWhite_X1_less
set_option maxRecDepth 20000 in
theorem ggX0_freeWhite_X4_free : GoodIn wsX0_freeWhite wsX4_free := goodIn_r _ [89, 90, 91, 92, 93, 94, 95, 96, 97, 98, 99, 9, 100, 11, 101, 102, 16, 103, 104, 105, 106, 107, 122, 123, 124, 125, 126, 127, 128, 129, 130, 131, 132, 116, 117, 118, 119, 120, 121, 141, 142, 143, 144, 133, 134] (by decide +kernel) (by decide +kernel)
set_option maxRecDepth 20000 in
theorem gX0_freeWhite_X4_free : GoodIn wsX0_freeWhite (wsV RX0 74 RX4 yX4_free wsX4_free) := goodIn_app (goodIn_of _ (by decide +kernel)) ggX0_freeWhite_X4_free
theorem dX0_freeWhite_0 : decode cX0_freeWhite 0 = .ok (.iconst 0, 1) := by decide +kernel
theorem dX0_freeWhite_1 : decode cX0_freeWhite 1 = .ok (.istore_n 1, 1) := by decide +kernel
theorem dX0_freeWhite_2 : decode cX0_freeWhite 2 = .ok (.iload_n 1, 1) := by decide +kernel
theorem dX0_freeWhite_3 : decode cX0_freeWhite 3 = .ok (.sipush 400, 3) := by decide +kernel
theorem dX0_freeWhite_6 : decode cX0_freeWhite 6 = .ok (.if_icmp .ge 98, 3) := by decide +kernel
theorem dX0_freeWhite_9 : decode cX0_freeWhite 9 = .ok (.aload_n 0, 1) := by decide +kernel
theorem dX0_freeWhite_10 : decode cX0_freeWhite 10 = .ok (.getfield 21, 3) := by decide +kernel
theorem dX0_freeWhite_13 : decode cX0_freeWhite 13 = .ok (.getfield 122, 3) := by decide +kernel
theorem dX0_freeWhite_16 : decode cX0_freeWhite 16 = .ok (.iload_n 1, 1) := by decide +kernel
theorem dX0_freeWhite_17 : decode cX0_freeWhite 17 = .ok (.invokevirtual 126, 3) := by decide +kernel
theorem dX0_freeWhite_20 : decode cX0_freeWhite 20 = .ok (.astore_n 2, 1) := by decide +kernel
theorem dX0_freeWhite_21 : decode cX0_freeWhite 21 = .ok (.aload_n 2, 1) := by decide +kernel
theorem dX0_freeWhite_22 : decode cX0_freeWhite 22 = .ok (.ifnull 76, 3) := by decide +kernel
theorem dX0_freeWhite_25 : decode cX0_freeWhite 25 = .ok (.aload_n 2, 1) := by decide +kernel
theorem dX0_freeWhite_26 : decode cX0_freeWhite 26 = .ok (.getfield 78, 3) := by decide +kernel
theorem dX0_freeWhite_29 : decode cX0_freeWhite 29 = .ok (.iconst 2, 1) := by decide +kernel
theorem dX0_freeWhite_30 : decode cX0_freeWhite 30 = .ok (.if_icmp .eq 6, 3) := by decide +kernel
theorem dX0_freeWhite_33 : decode cX0_freeWhite 33 = .ok (.goto 65, 3) := by decide +kernel
theorem dX0_freeWhite_36 : decode cX0_freeWhite 36 = .ok (.aload_n 2, 1) := by decide +kernel
theorem dX0_freeWhite_37 : decode cX0_freeWhite 37 = .ok (.getfield 90, 3) := by decide +kernel
theorem dX0_freeWhite_40 : decode cX0_freeWhite 40 = .ok (.astore_n 3, 1) := by decide +kernel
theorem dX0_freeWhite_41 : decode cX0_freeWhite 41 = .ok (.aload_n 3, 1) := by decide +kernel
theorem dX0_freeWhite_42 : decode cX0_freeWhite 42 = .ok (.arraylength, 1) := by decide +kernel
theorem dX0_freeWhite_43 : decode cX0_freeWhite 43 = .ok (.istore 4, 2) := by decide +kernel
theorem dX0_freeWhite_45 : decode cX0_freeWhite 45 = .ok (.iconst 0, 1) := by decide +kernel
theorem dX0_freeWhite_46 : decode cX0_freeWhite 46 = .ok (.istore 5, 2) := by decide +kernel
theorem dX0_freeWhite_48 : decode cX0_freeWhite 48 = .ok (.iload 5, 2) := by decide +kernel
theorem dX0_freeWhite_50 : decode cX0_freeWhite 50 = .ok (.iload 4, 2) := by decide +kernel
theorem dX0_freeWhite_52 : decode cX0_freeWhite 52 = .ok (.if_icmp .ge 38, 3) := by decide +kernel
theorem dX0_freeWhite_55 : decode cX0_freeWhite 55 = .ok (.aload_n 3, 1) := by decide +kernel
theorem dX0_freeWhite_56 : decode cX0_freeWhite 56 = .ok (.iload 5, 2) := by decide +kernel
theorem dX0_freeWhite_58 : decode cX0_freeWhite 58 = .ok (.aaload, 1) := by decide +kernel
theorem dX0_freeWhite_59 : decode cX0_freeWhite 59 = .ok (.astore 6, 2) := by decide +kernel
theorem dX0_freeWhite_61 : decode cX0_freeWhite 61 = .ok (.aload 6, 2) := by decide +kernel
theorem dX0_freeWhite_63 : decode cX0_freeWhite 63 = .ok (.ifnull 21, 3) := by decide +kernel
theorem dX0_freeWhite_66 : decode cX0_freeWhite 66 = .ok (.aload 6, 2) := by decide +kernel
theorem dX0_freeWhite_68 : decode cX0_freeWhite 68 = .ok (.invokevirtual 94, 3) := by decide +kernel
theorem dX0_freeWhite_71 : decode cX0_freeWhite 71 = .ok (.ifCond .eq 13, 3) := by decide +kernel
theorem dX0_freeWhite_74 : decode cX0_freeWhite 74 = .ok (.aload_n 0, 1) := by decide +kernel
theorem dX0_freeWhite_75 : decode cX0_freeWhite 75 = .ok (.getfield 25, 3) := by decide +kernel
theorem dX0_freeWhite_78 : decode cX0_freeWhite 78 = .ok (.aload 6, 2) := by decide +kernel
theorem dX0_freeWhite_80 : decode cX0_freeWhite 80 = .ok (.invokevirtual 137, 3) := by decide +kernel
theorem dX0_freeWhite_83 : decode cX0_freeWhite 83 = .ok (.pop, 1) := by decide +kernel
theorem dX0_freeWhite_84 : decode cX0_freeWhite 84 = .ok (.iinc 5 1, 3) := by decide +kernel
theorem dX0_freeWhite_87 : decode cX0_freeWhite 87 = .ok (.goto (-39), 3) := by decide +kernel
theorem dX0_freeWhite_90 : decode cX0_freeWhite 90 = .ok (.aload_n 0, 1) := by decide +kernel
theorem dX0_freeWhite_91 : decode cX0_freeWhite 91 = .ok (.getfield 21, 3) := by decide +kernel
theorem dX0_freeWhite_94 : decode cX0_freeWhite 94 = .ok (.aload_n 2, 1) := by decide +kernel
theorem dX0_freeWhite_95 : decode cX0_freeWhite 95 = .ok (.invokevirtual 74, 3) := by decide +kernel
theorem dX0_freeWhite_98 : decode cX0_freeWhite 98 = .ok (.iinc 1 1, 3) := by decide +kernel
theorem dX0_freeWhite_101 : decode cX0_freeWhite 101 = .ok (.goto (-99), 3) := by decide +kernel
theorem dX0_freeWhite_104 : decode cX0_freeWhite 104 = .ok (.return_, 1) := by decide +kernel
