set_option maxRecDepth 20000 in
theorem ggX9_init_X4_init : GoodIn wsX9_init wsX4_init := goodIn_r _ [34, 35, 2, 3, 36, 37, 38, 39, 40, 41, 42, 43, 44, 45, 46, 47, 48, 49, 50, 51, 52, 53, 54, 55, 197, 198, 199, 200, 201, 202, 153, 154, 203, 204, 205] rfl (by decide +kernel)
set_option maxRecDepth 20000 in
theorem gX9_init_X4_init_n11 : GoodIn wsX9_init (wsX4_init) := ggX9_init_X4_init
set_option maxRecDepth 20000 in
theorem ggX9_init_X0_init : GoodIn wsX9_init wsX0_init := goodIn_r _ [58, 59, 2, 3, 60, 61, 5, 6, 33, 34, 35, 36, 37, 38, 39, 40, 41, 42, 43, 44, 45, 46, 47, 48, 49, 50, 51, 52, 53, 54, 55, 170, 171, 172, 153, 154, 197, 198, 199, 200, 201, 202, 203, 204, 205] rfl (by decide +kernel)
set_option maxRecDepth 20000 in
theorem gX9_init_X0_init : GoodIn wsX9_init (wsX0_init) := ggX9_init_X0_init
set_option maxRecDepth 20000 in
theorem ggX9_init_X7_init : GoodIn wsX9_init wsX7_init := goodIn_r _ [63, 64, 2, 3, 47, 65, 66, 173, 174, 175] rfl (by decide +kernel)
set_option maxRecDepth 20000 in
theorem gX9_init_X7_init_n25 : GoodIn wsX9_init (wsX7_init) := ggX9_init_X7_init
set_option maxRecDepth 20000 in
theorem ggX9_init_X3_init : GoodIn wsX9_init wsX3_init := goodIn_r _ [68, 69, 2, 3, 47, 70, 71, 72, 176, 177, 178, 179] rfl (by decide +kernel)
set_option maxRecDepth 20000 in
theorem gX9_init_X3_init_n32 : GoodIn wsX9_init (wsX3_init) := ggX9_init_X3_init
set_option maxRecDepth 20000 in
theorem ggX9_init_X6_init : GoodIn wsX9_init wsX6_init := goodIn_r _ [74, 75, 2, 3, 47, 76, 77, 78, 79, 80, 81, 180, 181, 182, 183, 184, 185, 186, 187] rfl (by decide +kernel)
set_option maxRecDepth 20000 in
theorem gX9_init_X6_init_n39 : GoodIn wsX9_init (wsX6_init) := ggX9_init_X6_init
set_option maxRecDepth 20000 in
theorem ggX9_init_X5_init : GoodIn wsX9_init wsX5_init := goodIn_r _ [83, 84, 2, 3, 85, 86, 188, 189] rfl (by decide +kernel)
set_option maxRecDepth 20000 in
theorem gX9_init_X5_init_n49 : GoodIn wsX9_init (wsX5_init) := ggX9_init_X5_init
set_option maxRecDepth 20000 in
theorem ggX9_init_X2_init : GoodIn wsX9_init wsX2_init := goodIn_r _ [88, 89, 2, 3, 90, 37, 38, 91, 44, 45, 46, 47, 48, 49, 50, 51, 197, 198, 199, 200, 201, 202, 190, 191, 192, 193, 194, 195, 196] rfl (by decide +kernel)
set_option maxRecDepth 20000 in
theorem gX9_init_X2_init_n56 : GoodIn wsX9_init (wsX2_init) := ggX9_init_X2_init
set_option maxRecDepth 20000 in
theorem ggX9_init_X9_beginAnew : GoodIn wsX9_init wsX9_beginAnew := goodIn_r _ [96, 7, 97, 15, 98, 99, 100, 95, 101, 102, 103, 104, 105, 106, 107, 108, 14, 109, 110, 111, 112, 113, 65, 114, 115, 116, 117, 118, 119, 120, 121, 122, 123, 38, 124, 51, 125, 126, 127, 128, 129, 49, 50, 130, 131, 132, 133, 66, 134, 135, 136, 137, 138, 139, 140, 141, 142, 143, 144, 145, 146, 147, 148, 149, 42, 150, 151, 152, 155, 156, 157, 158, 159, 160, 161, 162, 163, 164, 165, 166, 167, 168, 169, 153, 154, 173, 174, 175, 197, 198, 199, 200, 201, 202, 203, 204, 205] rfl (by decide +kernel)
set_option maxRecDepth 20000 in
theorem gX9_init_X9_beginAnew : GoodIn wsX9_init (wsV RX9 61 RX9 yX9_beginAnew wsX9_beginAnew) := goodIn_app (goodIn_r _ [92, 93, 94, 95] rfl (by decide +kernel)) ggX9_init_X9_beginAnew
theorem dX9_init_0 : decode cX9_init 0 = .ok (.aload_n 0, 1) := by decide +kernel
theorem dX9_init_1 : decode cX9_init 1 = .ok (.invokespecial 3, 3) := by decide +kernel
theorem dX9_init_4 : decode cX9_init 4 = .ok (.aload_n 0, 1) := by decide +kernel
theorem dX9_init_5 : decode cX9_init 5 = .ok (.new 9, 3) := by decide +kernel
theorem dX9_init_8 : decode cX9_init 8 = .ok (.dup, 1) := by decide +kernel
theorem dX9_init_9 : decode cX9_init 9 = .ok (.invokespecial 11, 3) := by decide +kernel
theorem dX9_init_12 : decode cX9_init 12 = .ok (.putfield 12, 3) := by decide +kernel
theorem dX9_init_15 : decode cX9_init 15 = .ok (.aload_n 0, 1) := by decide +kernel
theorem dX9_init_16 : decode cX9_init 16 = .ok (.new 16, 3) := by decide +kernel
theorem dX9_init_19 : decode cX9_init 19 = .ok (.dup, 1) := by decide +kernel
theorem dX9_init_20 : decode cX9_init 20 = .ok (.invokespecial 18, 3) := by decide +kernel
theorem dX9_init_23 : decode cX9_init 23 = .ok (.putfield 19, 3) := by decide +kernel
theorem dX9_init_26 : decode cX9_init 26 = .ok (.aload_n 0, 1) := by decide +kernel
theorem dX9_init_27 : decode cX9_init 27 = .ok (.new 23, 3) := by decide +kernel
theorem dX9_init_30 : decode cX9_init 30 = .ok (.dup, 1) := by decide +kernel
theorem dX9_init_31 : decode cX9_init 31 = .ok (.invokespecial 25, 3) := by decide +kernel
theorem dX9_init_34 : decode cX9_init 34 = .ok (.putfield 26, 3) := by decide +kernel
theorem dX9_init_37 : decode cX9_init 37 = .ok (.aload_n 0, 1) := by decide +kernel
theorem dX9_init_38 : decode cX9_init 38 = .ok (.new 30, 3) := by decide +kernel
theorem dX9_init_41 : decode cX9_init 41 = .ok (.dup, 1) := by decide +kernel
theorem dX9_init_42 : decode cX9_init 42 = .ok (.invokespecial 32, 3) := by decide +kernel
theorem dX9_init_45 : decode cX9_init 45 = .ok (.putfield 33, 3) := by decide +kernel
theorem dX9_init_48 : decode cX9_init 48 = .ok (.aload_n 0, 1) := by decide +kernel
theorem dX9_init_49 : decode cX9_init 49 = .ok (.new 37, 3) := by decide +kernel
theorem dX9_init_52 : decode cX9_init 52 = .ok (.dup, 1) := by decide +kernel
theorem dX9_init_53 : decode cX9_init 53 = .ok (.invokespecial 39, 3) := by decide +kernel
theorem dX9_init_56 : decode cX9_init 56 = .ok (.putfield 40, 3) := by decide +kernel
theorem dX9_init_59 : decode cX9_init 59 = .ok (.aload_n 0, 1) := by decide +kernel
theorem dX9_init_60 : decode cX9_init 60 = .ok (.new 37, 3) := by decide +kernel
theorem dX9_init_63 : decode cX9_init 63 = .ok (.dup, 1) := by decide +kernel
theorem dX9_init_64 : decode cX9_init 64 = .ok (.invokespecial 39, 3) := by decide +kernel
theorem dX9_init_67 : decode cX9_init 67 = .ok (.putfield 44, 3) := by decide +kernel
theorem dX9_init_70 : decode cX9_init 70 = .ok (.aload_n 0, 1) := by decide +kernel
theorem dX9_init_71 : decode cX9_init 71 = .ok (.new 47, 3) := by decide +kernel
theorem dX9_init_74 : decode cX9_init 74 = .ok (.dup, 1) := by decide +kernel
theorem dX9_init_75 : decode cX9_init 75 = .ok (.invokespecial 49, 3) := by decide +kernel
theorem dX9_init_78 : decode cX9_init 78 = .ok (.putfield 50, 3) := by decide +kernel
theorem dX9_init_81 : decode cX9_init 81 = .ok (.aload_n 0, 1) := by decide +kernel
theorem dX9_init_82 : decode cX9_init 82 = .ok (.new 54, 3) := by decide +kernel
theorem dX9_init_85 : decode cX9_init 85 = .ok (.dup, 1) := by decide +kernel
theorem dX9_init_86 : decode cX9_init 86 = .ok (.invokespecial 56, 3) := by decide +kernel
theorem dX9_init_89 : decode cX9_init 89 = .ok (.putfield 57, 3) := by decide +kernel
theorem dX9_init_92 : decode cX9_init 92 = .ok (.aload_n 0, 1) := by decide +kernel
theorem dX9_init_93 : decode cX9_init 93 = .ok (.invokevirtual 61, 3) := by decide +kernel
theorem dX9_init_96 : decode cX9_init 96 = .ok (.return_, 1) := by decide +kernel
set_option maxRecDepth 20000 in
theorem ggX9_way_X9_isPlace : GoodIn wsX9_way wsX9_isPlace := goodIn_r _ [8, 9, 10, 7, 11] rfl (by decide +kernel)
set_option maxRecDepth 20000 in
theorem gX9_way_X9_isPlace : GoodIn wsX9_way (va_wsS RX9 64 yX9_isPlace wsX9_isPlace) := goodIn_app (goodIn_of _ (by decide +kernel)) ggX9_way_X9_isPlace
set_option maxRecDepth 20000 in
theorem ggX9_way_X9_isDeed : GoodIn wsX9_way wsX9_isDeed := goodIn_r _ [14, 9, 10, 7, 11] rfl (by decide +kernel)
set_option maxRecDepth 20000 in
theorem gX9_way_X9_isDeed : GoodIn wsX9_way (va_wsS RX9 68 yX9_isDeed wsX9_isDeed) := goodIn_app (goodIn_of _ (by decide +kernel)) ggX9_way_X9_isDeed
set_option maxRecDepth 20000 in
theorem ggX9_way_X9_refuse : GoodIn wsX9_way wsX9_refuse := goodIn_r _ [18, 19, 20, 21, 138, 139, 140, 141, 142, 143, 144, 145, 146, 147, 148, 149, 150, 151, 152] rfl (by decide +kernel)
set_option maxRecDepth 20000 in
theorem gX9_way_X9_refuse : GoodIn wsX9_way (wsV RX9 71 RX9 yX9_refuse wsX9_refuse) := goodIn_app (goodIn_r _ [15, 16, 17, 7] rfl (by decide +kernel)) ggX9_way_X9_refuse
set_option maxRecDepth 20000 in
theorem ggX9_way_X1_has : GoodIn wsX9_way wsX1_has := goodIn_r _ [26, 27, 28, 29, 30, 155, 156, 157, 158, 159, 160] rfl (by decide +kernel)
set_option maxRecDepth 20000 in
theorem gX9_way_X1_has : GoodIn wsX9_way (wsV RX9 79 RX1 yX1_has wsX1_has) := goodIn_app (goodIn_r _ [22, 23, 24, 25] rfl (by decide +kernel)) ggX9_way_X1_has
set_option maxRecDepth 20000 in
theorem ggX9_way_X1_isFull : GoodIn wsX9_way wsX1_isFull := goodIn_r _ [34, 27, 155, 156, 157, 158, 159, 160] rfl (by decide +kernel)
set_option maxRecDepth 20000 in
theorem gX9_way_X1_isFull : GoodIn wsX9_way (wsV RX9 85 RX1 yX1_isFull wsX1_isFull) := goodIn_app (goodIn_r _ [31, 32, 33, 25] rfl (by decide +kernel)) ggX9_way_X1_isFull
set_option maxRecDepth 20000 in
theorem ggX9_way_X0_keep : GoodIn wsX9_way wsX0_keep := goodIn_r _ [39, 40, 41, 42, 43, 44, 45, 46, 47, 48, 49, 50, 51, 52, 53, 54, 55, 56, 25, 57, 28, 58, 59, 60, 61, 29, 30, 27, 62, 63, 64, 65, 66, 67, 68, 69, 70, 71, 72, 161, 162, 163, 153, 154, 155, 156, 157, 158, 159, 160, 164, 165, 166] rfl (by decide +kernel)
set_option maxRecDepth 20000 in
theorem gX9_way_X0_keep : GoodIn wsX9_way (wsV RX9 89 RX0 yX0_keep wsX0_keep) := goodIn_app (goodIn_r _ [35, 36, 37, 38] rfl (by decide +kernel)) ggX9_way_X0_keep
set_option maxRecDepth 20000 in
theorem ggX9_way_X1_add : GoodIn wsX9_way wsX1_add := goodIn_r _ [76, 28, 27, 29, 30, 77, 32, 33, 25, 34, 155, 156, 157, 158, 159, 160] rfl (by decide +kernel)
set_option maxRecDepth 20000 in
theorem gX9_way_X1_add : GoodIn wsX9_way (wsV RX9 93 RX1 yX1_add wsX1_add) := goodIn_app (goodIn_r _ [73, 74, 75, 25] rfl (by decide +kernel)) ggX9_way_X1_add
set_option maxRecDepth 20000 in
theorem ggX9_way_X9_beginAnew : GoodIn wsX9_way wsX9_beginAnew := goodIn_r _ [81, 1, 82, 83, 84, 85, 86, 7, 87, 2, 88, 89, 90, 91, 92, 93, 94, 95, 96, 97, 98, 99, 100, 101, 102, 103, 104, 105, 106, 107, 108, 109, 110, 25, 111, 62, 112, 113, 114, 115, 63, 29, 30, 116, 117, 118, 119, 120, 121, 122, 123, 124, 125, 126, 127, 128, 129, 130, 131, 132, 133, 134, 135, 136, 67, 137, 71, 72, 138, 139, 140, 141, 142, 143, 144, 145, 146, 147, 148, 149, 150, 151, 152, 153, 154, 167, 168, 169, 155, 156, 157, 158, 159, 160, 164, 165, 166] rfl (by decide +kernel)
set_option maxRecDepth 20000 in
theorem gX9_way_X9_beginAnew : GoodIn wsX9_way (wsV RX9 61 RX9 yX9_beginAnew wsX9_beginAnew) := goodIn_app (goodIn_r _ [78, 79, 80, 7] rfl (by decide +kernel)) ggX9_way_X9_beginAnew
theorem dX9_way_0 : decode cX9_way 0 = .ok (.iload_n 1, 1) := by decide +kernel
theorem dX9_way_1 : decode cX9_way 1 = .ok (.invokestatic 64, 3) := by decide +kernel
theorem dX9_way_4 : decode cX9_way 4 = .ok (.ifCond .eq 17, 3) := by decide +kernel
theorem dX9_way_7 : decode cX9_way 7 = .ok (.iload_n 2, 1) := by decide +kernel
theorem dX9_way_8 : decode cX9_way 8 = .ok (.invokestatic 68, 3) := by decide +kernel
theorem dX9_way_11 : decode cX9_way 11 = .ok (.ifCond .eq 10, 3) := by decide +kernel
theorem dX9_way_14 : decode cX9_way 14 = .ok (.iload_n 3, 1) := by decide +kernel
theorem dX9_way_15 : decode cX9_way 15 = .ok (.invokestatic 64, 3) := by decide +kernel
theorem dX9_way_18 : decode cX9_way 18 = .ok (.ifCond .ne 10, 3) := by decide +kernel
theorem dX9_way_21 : decode cX9_way 21 = .ok (.aload_n 0, 1) := by decide +kernel
theorem dX9_way_22 : decode cX9_way 22 = .ok (.bipush (-2), 2) := by decide +kernel
theorem dX9_way_24 : decode cX9_way 24 = .ok (.invokevirtual 71, 3) := by decide +kernel
theorem dX9_way_27 : decode cX9_way 27 = .ok (.ireturn, 1) := by decide +kernel
theorem dX9_way_28 : decode cX9_way 28 = .ok (.aload_n 0, 1) := by decide +kernel
theorem dX9_way_29 : decode cX9_way 29 = .ok (.getfield 12, 3) := by decide +kernel
theorem dX9_way_32 : decode cX9_way 32 = .ok (.getfield 75, 3) := by decide +kernel
theorem dX9_way_35 : decode cX9_way 35 = .ok (.iload_n 1, 1) := by decide +kernel
theorem dX9_way_36 : decode cX9_way 36 = .ok (.iload_n 2, 1) := by decide +kernel
theorem dX9_way_37 : decode cX9_way 37 = .ok (.iload_n 3, 1) := by decide +kernel
theorem dX9_way_38 : decode cX9_way 38 = .ok (.invokevirtual 79, 3) := by decide +kernel
theorem dX9_way_41 : decode cX9_way 41 = .ok (.ifCond .eq 10, 3) := by decide +kernel
theorem dX9_way_44 : decode cX9_way 44 = .ok (.aload_n 0, 1) := by decide +kernel
theorem dX9_way_45 : decode cX9_way 45 = .ok (.bipush (-3), 2) := by decide +kernel
theorem dX9_way_47 : decode cX9_way 47 = .ok (.invokevirtual 71, 3) := by decide +kernel
theorem dX9_way_50 : decode cX9_way 50 = .ok (.ireturn, 1) := by decide +kernel
theorem dX9_way_51 : decode cX9_way 51 = .ok (.aload_n 0, 1) := by decide +kernel
theorem dX9_way_52 : decode cX9_way 52 = .ok (.getfield 12, 3) := by decide +kernel
theorem dX9_way_55 : decode cX9_way 55 = .ok (.getfield 75, 3) := by decide +kernel
theorem dX9_way_58 : decode cX9_way 58 = .ok (.invokevirtual 85, 3) := by decide +kernel
theorem dX9_way_61 : decode cX9_way 61 = .ok (.ifCond .eq 10, 3) := by decide +kernel
theorem dX9_way_64 : decode cX9_way 64 = .ok (.aload_n 0, 1) := by decide +kernel
theorem dX9_way_65 : decode cX9_way 65 = .ok (.bipush (-4), 2) := by decide +kernel
theorem dX9_way_67 : decode cX9_way 67 = .ok (.invokevirtual 71, 3) := by decide +kernel
theorem dX9_way_70 : decode cX9_way 70 = .ok (.ireturn, 1) := by decide +kernel
theorem dX9_way_71 : decode cX9_way 71 = .ok (.aload_n 0, 1) := by decide +kernel
theorem dX9_way_72 : decode cX9_way 72 = .ok (.getfield 19, 3) := by decide +kernel
theorem dX9_way_75 : decode cX9_way 75 = .ok (.aload_n 0, 1) := by decide +kernel
theorem dX9_way_76 : decode cX9_way 76 = .ok (.getfield 12, 3) := by decide +kernel
theorem dX9_way_79 : decode cX9_way 79 = .ok (.invokevirtual 89, 3) := by decide +kernel
theorem dX9_way_82 : decode cX9_way 82 = .ok (.aload_n 0, 1) := by decide +kernel
theorem dX9_way_83 : decode cX9_way 83 = .ok (.getfield 12, 3) := by decide +kernel
theorem dX9_way_86 : decode cX9_way 86 = .ok (.getfield 75, 3) := by decide +kernel
theorem dX9_way_89 : decode cX9_way 89 = .ok (.iload_n 1, 1) := by decide +kernel
theorem dX9_way_90 : decode cX9_way 90 = .ok (.iload_n 2, 1) := by decide +kernel
theorem dX9_way_91 : decode cX9_way 91 = .ok (.iload_n 3, 1) := by decide +kernel
theorem dX9_way_92 : decode cX9_way 92 = .ok (.invokevirtual 93, 3) := by decide +kernel
theorem dX9_way_95 : decode cX9_way 95 = .ok (.aload_n 0, 1) := by decide +kernel
theorem dX9_way_96 : decode cX9_way 96 = .ok (.invokevirtual 61, 3) := by decide +kernel
theorem dX9_way_99 : decode cX9_way 99 = .ok (.aload_n 0, 1) := by decide +kernel
theorem dX9_way_100 : decode cX9_way 100 = .ok (.getfield 12, 3) := by decide +kernel
theorem dX9_way_103 : decode cX9_way 103 = .ok (.getfield 75, 3) := by decide +kernel
theorem dX9_way_106 : decode cX9_way 106 = .ok (.getfield 97, 3) := by decide +kernel
theorem dX9_way_109 : decode cX9_way 109 = .ok (.iconst 1, 1) := by decide +kernel
theorem dX9_way_110 : decode cX9_way 110 = .ok (.isub, 1) := by decide +kernel
theorem dX9_way_111 : decode cX9_way 111 = .ok (.ireturn, 1) := by decide +kernel
set_option maxRecDepth 20000 in
theorem ggX9_drop_X9_isWay : GoodIn wsX9_drop wsX9_isWay := goodIn_r _ [9, 2, 3, 4, 124, 125, 126, 127, 128, 129, 130, 131, 132, 133, 134, 135, 136, 137, 138, 139, 140, 141, 142, 143, 144, 145, 146] rfl (by decide +kernel)
set_option maxRecDepth 20000 in
theorem gX9_drop_X9_isWay : GoodIn wsX9_drop (wsV RX9 101 RX9 yX9_isWay wsX9_isWay) := goodIn_app (goodIn_r _ [5, 6, 7, 8] rfl (by decide +kernel)) ggX9_drop_X9_isWay
set_option maxRecDepth 20000 in
theorem ggX9_drop_X9_refuse : GoodIn wsX9_drop wsX9_refuse := goodIn_r _ [13, 14, 15, 16, 124, 125, 126, 127, 128, 129, 130, 131, 132, 133, 134, 135, 136, 137, 138] rfl (by decide +kernel)
set_option maxRecDepth 20000 in
theorem gX9_drop_X9_refuse : GoodIn wsX9_drop (wsV RX9 71 RX9 yX9_refuse wsX9_refuse) := goodIn_app (goodIn_r _ [10, 11, 12, 8] rfl (by decide +kernel)) ggX9_drop_X9_refuse
set_option maxRecDepth 20000 in
theorem ggX9_drop_X0_keep : GoodIn wsX9_drop wsX0_keep := goodIn_r _ [21, 22, 23, 24, 25, 26, 27, 28, 29, 30, 31, 32, 33, 34, 35, 36, 37, 38, 39, 40, 41, 42, 43, 44, 45, 46, 47, 48, 49, 50, 51, 52, 53, 54, 55, 56, 57, 58, 59, 147, 148, 149, 139, 140, 141, 142, 143, 144, 145, 146, 150, 151, 152] rfl (by decide +kernel)
set_option maxRecDepth 20000 in
theorem gX9_drop_X0_keep : GoodIn wsX9_drop (wsV RX9 89 RX0 yX0_keep wsX0_keep) := goodIn_app (goodIn_r _ [17, 18, 19, 20] rfl (by decide +kernel)) ggX9_drop_X0_keep
set_option maxRecDepth 20000 in
theorem ggX9_drop_X1_remove : GoodIn wsX9_drop wsX1_remove := goodIn_r _ [63, 48, 41, 46, 47, 141, 142, 143, 144, 145, 146] rfl (by decide +kernel)
set_option maxRecDepth 20000 in
theorem gX9_drop_X1_remove : GoodIn wsX9_drop (wsV RX9 104 RX1 yX1_remove wsX1_remove) := goodIn_app (goodIn_r _ [60, 61, 62, 39] rfl (by decide +kernel)) ggX9_drop_X1_remove
set_option maxRecDepth 20000 in
theorem ggX9_drop_X9_beginAnew : GoodIn wsX9_drop wsX9_beginAnew := goodIn_r _ [67, 2, 68, 69, 70, 71, 72, 8, 73, 3, 74, 75, 76, 77, 78, 79, 80, 81, 82, 83, 84, 85, 86, 87, 88, 89, 90, 91, 92, 93, 94, 95, 96, 39, 97, 49, 98, 99, 100, 101, 50, 46, 47, 102, 103, 104, 105, 106, 107, 108, 109, 110, 111, 112, 113, 114, 115, 116, 117, 118, 119, 120, 121, 122, 54, 123, 58, 59, 124, 125, 126, 127, 128, 129, 130, 131, 132, 133, 134, 135, 136, 137, 138, 139, 140, 153, 154, 155, 141, 142, 143, 144, 145, 146, 150, 151, 152] rfl (by decide +kernel)
set_option maxRecDepth 20000 in
theorem gX9_drop_X9_beginAnew : GoodIn wsX9_drop (wsV RX9 61 RX9 yX9_beginAnew wsX9_beginAnew) := goodIn_app (goodIn_r _ [64, 65, 66, 8] rfl (by decide +kernel)) ggX9_drop_X9_beginAnew
theorem dX9_drop_0 : decode cX9_drop 0 = .ok (.aload_n 0, 1) := by decide +kernel
theorem dX9_drop_1 : decode cX9_drop 1 = .ok (.iload_n 1, 1) := by decide +kernel
theorem dX9_drop_2 : decode cX9_drop 2 = .ok (.invokevirtual 101, 3) := by decide +kernel
theorem dX9_drop_5 : decode cX9_drop 5 = .ok (.ifCond .ne 10, 3) := by decide +kernel
theorem dX9_drop_8 : decode cX9_drop 8 = .ok (.aload_n 0, 1) := by decide +kernel
theorem dX9_drop_9 : decode cX9_drop 9 = .ok (.bipush (-2), 2) := by decide +kernel
theorem dX9_drop_11 : decode cX9_drop 11 = .ok (.invokevirtual 71, 3) := by decide +kernel
theorem dX9_drop_14 : decode cX9_drop 14 = .ok (.ireturn, 1) := by decide +kernel
theorem dX9_drop_15 : decode cX9_drop 15 = .ok (.aload_n 0, 1) := by decide +kernel
theorem dX9_drop_16 : decode cX9_drop 16 = .ok (.getfield 19, 3) := by decide +kernel
theorem dX9_drop_19 : decode cX9_drop 19 = .ok (.aload_n 0, 1) := by decide +kernel
theorem dX9_drop_20 : decode cX9_drop 20 = .ok (.getfield 12, 3) := by decide +kernel
theorem dX9_drop_23 : decode cX9_drop 23 = .ok (.invokevirtual 89, 3) := by decide +kernel
theorem dX9_drop_26 : decode cX9_drop 26 = .ok (.aload_n 0, 1) := by decide +kernel
theorem dX9_drop_27 : decode cX9_drop 27 = .ok (.getfield 12, 3) := by decide +kernel
theorem dX9_drop_30 : decode cX9_drop 30 = .ok (.getfield 75, 3) := by decide +kernel
theorem dX9_drop_33 : decode cX9_drop 33 = .ok (.iload_n 1, 1) := by decide +kernel
theorem dX9_drop_34 : decode cX9_drop 34 = .ok (.invokevirtual 104, 3) := by decide +kernel
theorem dX9_drop_37 : decode cX9_drop 37 = .ok (.aload_n 0, 1) := by decide +kernel
theorem dX9_drop_38 : decode cX9_drop 38 = .ok (.invokevirtual 61, 3) := by decide +kernel
theorem dX9_drop_41 : decode cX9_drop 41 = .ok (.aload_n 0, 1) := by decide +kernel
theorem dX9_drop_42 : decode cX9_drop 42 = .ok (.getfield 12, 3) := by decide +kernel
theorem dX9_drop_45 : decode cX9_drop 45 = .ok (.getfield 75, 3) := by decide +kernel
theorem dX9_drop_48 : decode cX9_drop 48 = .ok (.getfield 97, 3) := by decide +kernel
theorem dX9_drop_51 : decode cX9_drop 51 = .ok (.ireturn, 1) := by decide +kernel
set_option maxRecDepth 20000 in
theorem ggX9_deed_X9_isDeed : GoodIn wsX9_deed wsX9_isDeed := goodIn_r _ [9, 10, 11, 8, 12] rfl (by decide +kernel)
set_option maxRecDepth 20000 in
theorem gX9_deed_X9_isDeed : GoodIn wsX9_deed (va_wsS RX9 68 yX9_isDeed wsX9_isDeed) := goodIn_app (goodIn_of _ (by decide +kernel)) ggX9_deed_X9_isDeed
set_option maxRecDepth 20000 in
theorem ggX9_deed_X9_isWithin : GoodIn wsX9_deed wsX9_isWithin := goodIn_r _ [12] rfl (by decide +kernel)
set_option maxRecDepth 20000 in
theorem gX9_deed_X9_isWithin : GoodIn wsX9_deed (va_wsS RX9 108 yX9_isWithin wsX9_isWithin) := goodIn_app (goodIn_of _ (by decide +kernel)) ggX9_deed_X9_isWithin
set_option maxRecDepth 20000 in
theorem ggX9_deed_X9_refuse : GoodIn wsX9_deed wsX9_refuse := goodIn_r _ [16, 17, 18, 19, 123, 124, 125, 126, 127, 128, 129, 130, 131, 132, 133, 134, 135, 136, 137] rfl (by decide +kernel)
set_option maxRecDepth 20000 in
theorem gX9_deed_X9_refuse : GoodIn wsX9_deed (wsV RX9 71 RX9 yX9_refuse wsX9_refuse) := goodIn_app (goodIn_r _ [13, 14, 15, 8] rfl (by decide +kernel)) ggX9_deed_X9_refuse
set_option maxRecDepth 20000 in
theorem ggX9_deed_X0_keep : GoodIn wsX9_deed wsX0_keep := goodIn_r _ [24, 25, 26, 27, 28, 29, 30, 31, 32, 33, 34, 35, 36, 37, 38, 39, 40, 41, 42, 43, 44, 45, 46, 47, 48, 49, 50, 51, 52, 53, 54, 55, 56, 57, 58, 59, 60, 61, 62, 146, 147, 148, 138, 139, 140, 141, 142, 143, 144, 145, 149, 150, 151] rfl (by decide +kernel)
set_option maxRecDepth 20000 in
theorem gX9_deed_X0_keep : GoodIn wsX9_deed (wsV RX9 89 RX0 yX0_keep wsX0_keep) := goodIn_app (goodIn_r _ [20, 21, 22, 23] rfl (by decide +kernel)) ggX9_deed_X0_keep
set_option maxRecDepth 20000 in
theorem ggX9_deed_X9_beginAnew : GoodIn wsX9_deed wsX9_beginAnew := goodIn_r _ [66, 2, 67, 68, 69, 70, 71, 8, 72, 3, 73, 74, 75, 76, 77, 78, 79, 80, 81, 82, 83, 84, 85, 86, 87, 88, 89, 90, 91, 92, 93, 94, 95, 42, 96, 52, 97, 98, 99, 100, 53, 49, 50, 101, 102, 103, 104, 105, 106, 107, 108, 109, 110, 111, 112, 113, 114, 115, 116, 117, 118, 119, 120, 121, 57, 122, 61, 62, 123, 124, 125, 126, 127, 128, 129, 130, 131, 132, 133, 134, 135, 136, 137, 138, 139, 152, 153, 154, 140, 141, 142, 143, 144, 145, 149, 150, 151] rfl (by decide +kernel)
set_option maxRecDepth 20000 in
theorem gX9_deed_X9_beginAnew : GoodIn wsX9_deed (wsV RX9 61 RX9 yX9_beginAnew wsX9_beginAnew) := goodIn_app (goodIn_r _ [63, 64, 65, 8] rfl (by decide +kernel)) ggX9_deed_X9_beginAnew
theorem dX9_deed_0 : decode cX9_deed 0 = .ok (.iload_n 1, 1) := by decide +kernel
theorem dX9_deed_1 : decode cX9_deed 1 = .ok (.invokestatic 68, 3) := by decide +kernel
theorem dX9_deed_4 : decode cX9_deed 4 = .ok (.ifCond .eq 19, 3) := by decide +kernel
theorem dX9_deed_7 : decode cX9_deed 7 = .ok (.iload_n 2, 1) := by decide +kernel
theorem dX9_deed_8 : decode cX9_deed 8 = .ok (.iconst 1, 1) := by decide +kernel
theorem dX9_deed_9 : decode cX9_deed 9 = .ok (.invokestatic 108, 3) := by decide +kernel
theorem dX9_deed_12 : decode cX9_deed 12 = .ok (.ifCond .eq 11, 3) := by decide +kernel
theorem dX9_deed_15 : decode cX9_deed 15 = .ok (.iload_n 3, 1) := by decide +kernel
theorem dX9_deed_16 : decode cX9_deed 16 = .ok (.iconst 1, 1) := by decide +kernel
theorem dX9_deed_17 : decode cX9_deed 17 = .ok (.invokestatic 108, 3) := by decide +kernel
theorem dX9_deed_20 : decode cX9_deed 20 = .ok (.ifCond .ne 10, 3) := by decide +kernel
theorem dX9_deed_23 : decode cX9_deed 23 = .ok (.aload_n 0, 1) := by decide +kernel
theorem dX9_deed_24 : decode cX9_deed 24 = .ok (.bipush (-2), 2) := by decide +kernel
theorem dX9_deed_26 : decode cX9_deed 26 = .ok (.invokevirtual 71, 3) := by decide +kernel
theorem dX9_deed_29 : decode cX9_deed 29 = .ok (.ireturn, 1) := by decide +kernel
theorem dX9_deed_30 : decode cX9_deed 30 = .ok (.aload_n 0, 1) := by decide +kernel
theorem dX9_deed_31 : decode cX9_deed 31 = .ok (.getfield 19, 3) := by decide +kernel
theorem dX9_deed_34 : decode cX9_deed 34 = .ok (.aload_n 0, 1) := by decide +kernel
theorem dX9_deed_35 : decode cX9_deed 35 = .ok (.getfield 12, 3) := by decide +kernel
theorem dX9_deed_38 : decode cX9_deed 38 = .ok (.invokevirtual 89, 3) := by decide +kernel
theorem dX9_deed_41 : decode cX9_deed 41 = .ok (.aload_n 0, 1) := by decide +kernel
theorem dX9_deed_42 : decode cX9_deed 42 = .ok (.getfield 12, 3) := by decide +kernel
theorem dX9_deed_45 : decode cX9_deed 45 = .ok (.getfield 75, 3) := by decide +kernel
theorem dX9_deed_48 : decode cX9_deed 48 = .ok (.astore 4, 2) := by decide +kernel
theorem dX9_deed_50 : decode cX9_deed 50 = .ok (.iload_n 2, 1) := by decide +kernel
theorem dX9_deed_51 : decode cX9_deed 51 = .ok (.ifCond .ne 11, 3) := by decide +kernel
theorem dX9_deed_54 : decode cX9_deed 54 = .ok (.aload 4, 2) := by decide +kernel
theorem dX9_deed_56 : decode cX9_deed 56 = .ok (.getfield 112, 3) := by decide +kernel
theorem dX9_deed_59 : decode cX9_deed 59 = .ok (.goto 8, 3) := by decide +kernel
theorem dX9_deed_62 : decode cX9_deed 62 = .ok (.aload 4, 2) := by decide +kernel
theorem dX9_deed_64 : decode cX9_deed 64 = .ok (.getfield 115, 3) := by decide +kernel
theorem dX9_deed_67 : decode cX9_deed 67 = .ok (.istore 5, 2) := by decide +kernel
theorem dX9_deed_69 : decode cX9_deed 69 = .ok (.iload 5, 2) := by decide +kernel
theorem dX9_deed_71 : decode cX9_deed 71 = .ok (.iconst 1, 1) := by decide +kernel
theorem dX9_deed_72 : decode cX9_deed 72 = .ok (.iload_n 1, 1) := by decide +kernel
theorem dX9_deed_73 : decode cX9_deed 73 = .ok (.ishl, 1) := by decide +kernel
theorem dX9_deed_74 : decode cX9_deed 74 = .ok (.iconst (-1), 1) := by decide +kernel
theorem dX9_deed_75 : decode cX9_deed 75 = .ok (.ixor, 1) := by decide +kernel
theorem dX9_deed_76 : decode cX9_deed 76 = .ok (.iand, 1) := by decide +kernel
theorem dX9_deed_77 : decode cX9_deed 77 = .ok (.iload_n 3, 1) := by decide +kernel
theorem dX9_deed_78 : decode cX9_deed 78 = .ok (.iload_n 1, 1) := by decide +kernel
theorem dX9_deed_79 : decode cX9_deed 79 = .ok (.ishl, 1) := by decide +kernel
theorem dX9_deed_80 : decode cX9_deed 80 = .ok (.ior, 1) := by decide +kernel
theorem dX9_deed_81 : decode cX9_deed 81 = .ok (.istore 6, 2) := by decide +kernel
theorem dX9_deed_83 : decode cX9_deed 83 = .ok (.iload_n 2, 1) := by decide +kernel
theorem dX9_deed_84 : decode cX9_deed 84 = .ok (.ifCond .ne 13, 3) := by decide +kernel
theorem dX9_deed_87 : decode cX9_deed 87 = .ok (.aload 4, 2) := by decide +kernel
theorem dX9_deed_89 : decode cX9_deed 89 = .ok (.iload 6, 2) := by decide +kernel
theorem dX9_deed_91 : decode cX9_deed 91 = .ok (.putfield 112, 3) := by decide +kernel
theorem dX9_deed_94 : decode cX9_deed 94 = .ok (.goto 10, 3) := by decide +kernel
theorem dX9_deed_97 : decode cX9_deed 97 = .ok (.aload 4, 2) := by decide +kernel
theorem dX9_deed_99 : decode cX9_deed 99 = .ok (.iload 6, 2) := by decide +kernel
theorem dX9_deed_101 : decode cX9_deed 101 = .ok (.putfield 115, 3) := by decide +kernel
theorem dX9_deed_104 : decode cX9_deed 104 = .ok (.aload_n 0, 1) := by decide +kernel
theorem dX9_deed_105 : decode cX9_deed 105 = .ok (.invokevirtual 61, 3) := by decide +kernel
theorem dX9_deed_108 : decode cX9_deed 108 = .ok (.iload 5, 2) := by decide +kernel
theorem dX9_deed_110 : decode cX9_deed 110 = .ok (.iload_n 1, 1) := by decide +kernel
theorem dX9_deed_111 : decode cX9_deed 111 = .ok (.ishr, 1) := by decide +kernel
theorem dX9_deed_112 : decode cX9_deed 112 = .ok (.iconst 1, 1) := by decide +kernel
theorem dX9_deed_113 : decode cX9_deed 113 = .ok (.iand, 1) := by decide +kernel
theorem dX9_deed_114 : decode cX9_deed 114 = .ok (.ireturn, 1) := by decide +kernel
set_option maxRecDepth 20000 in
theorem ggX9_draw_X9_isWithin : GoodIn wsX9_draw wsX9_isWithin := goodIn_r _ [9] rfl (by decide +kernel)
set_option maxRecDepth 20000 in
theorem gX9_draw_X9_isWithin : GoodIn wsX9_draw (va_wsS RX9 108 yX9_isWithin wsX9_isWithin) := goodIn_app (goodIn_of _ (by decide +kernel)) ggX9_draw_X9_isWithin
set_option maxRecDepth 20000 in
theorem ggX9_draw_X9_refuse : GoodIn wsX9_draw wsX9_refuse := goodIn_r _ [13, 14, 15, 16, 144, 145, 146, 147, 148, 149, 150, 151, 152, 153, 154, 155, 156, 157, 158] rfl (by decide +kernel)
set_option maxRecDepth 20000 in
theorem gX9_draw_X9_refuse : GoodIn wsX9_draw (wsV RX9 71 RX9 yX9_refuse wsX9_refuse) := goodIn_app (goodIn_r _ [10, 11, 12, 8] rfl (by decide +kernel)) ggX9_draw_X9_refuse
set_option maxRecDepth 20000 in
theorem ggX9_draw_X0_keep : GoodIn wsX9_draw wsX0_keep := goodIn_r _ [21, 22, 23, 24, 25, 26, 27, 28, 29, 30, 31, 32, 33, 34, 35, 36, 37, 38, 39, 40, 41, 42, 43, 44, 45, 46, 47, 48, 49, 50, 51, 52, 53, 54, 55, 56, 57, 58, 59, 167, 168, 169, 159, 160, 161, 162, 163, 164, 165, 166, 170, 171, 172] rfl (by decide +kernel)
set_option maxRecDepth 20000 in
theorem gX9_draw_X0_keep : GoodIn wsX9_draw (wsV RX9 89 RX0 yX0_keep wsX0_keep) := goodIn_app (goodIn_r _ [17, 18, 19, 20] rfl (by decide +kernel)) ggX9_draw_X0_keep
set_option maxRecDepth 20000 in
theorem ggX9_draw_X1_drawWays : GoodIn wsX9_draw wsX1_drawWays := goodIn_r _ [63, 48, 64, 65, 66, 67, 68, 69, 70, 71, 72, 73, 74, 39, 75, 41, 46, 47, 76, 77, 78, 79, 80, 81, 82, 83, 161, 162, 163, 164, 165, 166] rfl (by decide +kernel)
set_option maxRecDepth 20000 in
theorem gX9_draw_X1_drawWays : GoodIn wsX9_draw (wsV RX9 119 RX1 yX1_drawWays wsX1_drawWays) := goodIn_app (goodIn_r _ [60, 61, 62, 39] rfl (by decide +kernel)) ggX9_draw_X1_drawWays
set_option maxRecDepth 20000 in
theorem ggX9_draw_X9_beginAnew : GoodIn wsX9_draw wsX9_beginAnew := goodIn_r _ [87, 3, 88, 89, 90, 91, 92, 8, 93, 4, 94, 95, 96, 97, 98, 99, 100, 101, 102, 103, 104, 105, 106, 107, 108, 109, 110, 111, 112, 113, 114, 115, 116, 39, 117, 49, 118, 119, 120, 121, 50, 46, 47, 122, 123, 124, 125, 126, 127, 128, 129, 130, 131, 132, 133, 134, 135, 136, 137, 138, 139, 140, 141, 142, 54, 143, 58, 59, 144, 145, 146, 147, 148, 149, 150, 151, 152, 153, 154, 155, 156, 157, 158, 159, 160, 173, 174, 175, 161, 162, 163, 164, 165, 166, 170, 171, 172] rfl (by decide +kernel)
set_option maxRecDepth 20000 in
theorem gX9_draw_X9_beginAnew : GoodIn wsX9_draw (wsV RX9 61 RX9 yX9_beginAnew wsX9_beginAnew) := goodIn_app (goodIn_r _ [84, 85, 86, 8] rfl (by decide +kernel)) ggX9_draw_X9_beginAnew
theorem dX9_draw_0 : decode cX9_draw 0 = .ok (.iload_n 1, 1) := by decide +kernel
theorem dX9_draw_1 : decode cX9_draw 1 = .ok (.ldc 118, 2) := by decide +kernel
theorem dX9_draw_3 : decode cX9_draw 3 = .ok (.invokestatic 108, 3) := by decide +kernel
theorem dX9_draw_6 : decode cX9_draw 6 = .ok (.ifCond .eq 14, 3) := by decide +kernel
theorem dX9_draw_9 : decode cX9_draw 9 = .ok (.iload_n 2, 1) := by decide +kernel
theorem dX9_draw_10 : decode cX9_draw 10 = .ok (.iconst 1, 1) := by decide +kernel
theorem dX9_draw_11 : decode cX9_draw 11 = .ok (.if_icmp .lt 9, 3) := by decide +kernel
theorem dX9_draw_14 : decode cX9_draw 14 = .ok (.iload_n 2, 1) := by decide +kernel
theorem dX9_draw_15 : decode cX9_draw 15 = .ok (.bipush 24, 2) := by decide +kernel
theorem dX9_draw_17 : decode cX9_draw 17 = .ok (.if_icmp .le 10, 3) := by decide +kernel
theorem dX9_draw_20 : decode cX9_draw 20 = .ok (.aload_n 0, 1) := by decide +kernel
theorem dX9_draw_21 : decode cX9_draw 21 = .ok (.bipush (-2), 2) := by decide +kernel
theorem dX9_draw_23 : decode cX9_draw 23 = .ok (.invokevirtual 71, 3) := by decide +kernel
theorem dX9_draw_26 : decode cX9_draw 26 = .ok (.ireturn, 1) := by decide +kernel
theorem dX9_draw_27 : decode cX9_draw 27 = .ok (.aload_n 0, 1) := by decide +kernel
theorem dX9_draw_28 : decode cX9_draw 28 = .ok (.getfield 19, 3) := by decide +kernel
theorem dX9_draw_31 : decode cX9_draw 31 = .ok (.aload_n 0, 1) := by decide +kernel
theorem dX9_draw_32 : decode cX9_draw 32 = .ok (.getfield 12, 3) := by decide +kernel
theorem dX9_draw_35 : decode cX9_draw 35 = .ok (.invokevirtual 89, 3) := by decide +kernel
theorem dX9_draw_38 : decode cX9_draw 38 = .ok (.aload_n 0, 1) := by decide +kernel
theorem dX9_draw_39 : decode cX9_draw 39 = .ok (.getfield 12, 3) := by decide +kernel
theorem dX9_draw_42 : decode cX9_draw 42 = .ok (.getfield 75, 3) := by decide +kernel
theorem dX9_draw_45 : decode cX9_draw 45 = .ok (.iload_n 1, 1) := by decide +kernel
theorem dX9_draw_46 : decode cX9_draw 46 = .ok (.iload_n 2, 1) := by decide +kernel
theorem dX9_draw_47 : decode cX9_draw 47 = .ok (.invokevirtual 119, 3) := by decide +kernel
theorem dX9_draw_50 : decode cX9_draw 50 = .ok (.aload_n 0, 1) := by decide +kernel
theorem dX9_draw_51 : decode cX9_draw 51 = .ok (.invokevirtual 61, 3) := by decide +kernel
theorem dX9_draw_54 : decode cX9_draw 54 = .ok (.aload_n 0, 1) := by decide +kernel
theorem dX9_draw_55 : decode cX9_draw 55 = .ok (.getfield 12, 3) := by decide +kernel
theorem dX9_draw_58 : decode cX9_draw 58 = .ok (.getfield 75, 3) := by decide +kernel
theorem dX9_draw_61 : decode cX9_draw 61 = .ok (.getfield 97, 3) := by decide +kernel
theorem dX9_draw_64 : decode cX9_draw 64 = .ok (.ireturn, 1) := by decide +kernel
set_option maxRecDepth 20000 in
theorem ggX9_anew_X0_keep : GoodIn wsX9_anew wsX0_keep := goodIn_r _ [11, 12, 13, 14, 15, 16, 17, 18, 19, 20, 21, 22, 23, 24, 25, 26, 27, 28, 29, 30, 31, 32, 33, 34, 35, 36, 37, 38, 39, 40, 41, 42, 43, 44, 45, 46, 47, 48, 49, 134, 135, 136, 126, 127, 128, 129, 130, 131, 132, 133, 137, 138, 139] rfl (by decide +kernel)
set_option maxRecDepth 20000 in
theorem gX9_anew_X0_keep : GoodIn wsX9_anew (wsV RX9 89 RX0 yX0_keep wsX0_keep) := goodIn_app (goodIn_r _ [7, 8, 9, 10] rfl (by decide +kernel)) ggX9_anew_X0_keep
set_option maxRecDepth 20000 in
theorem ggX9_anew_X9_beginAnew : GoodIn wsX9_anew wsX9_beginAnew := goodIn_r _ [54, 2, 55, 56, 57, 58, 59, 53, 60, 3, 61, 62, 63, 64, 65, 66, 67, 68, 69, 70, 71, 72, 73, 74, 75, 76, 77, 78, 79, 80, 81, 82, 83, 29, 84, 39, 85, 86, 87, 88, 40, 36, 37, 89, 90, 91, 92, 93, 94, 95, 96, 97, 98, 99, 100, 101, 102, 103, 104, 105, 106, 107, 108, 109, 44, 110, 48, 49, 111, 112, 113, 114, 115, 116, 117, 118, 119, 120, 121, 122, 123, 124, 125, 126, 127, 140, 141, 142, 128, 129, 130, 131, 132, 133, 137, 138, 139] rfl (by decide +kernel)
set_option maxRecDepth 20000 in
theorem gX9_anew_X9_beginAnew : GoodIn wsX9_anew (wsV RX9 61 RX9 yX9_beginAnew wsX9_beginAnew) := goodIn_app (goodIn_r _ [50, 51, 52, 53] rfl (by decide +kernel)) ggX9_anew_X9_beginAnew
theorem dX9_anew_0 : decode cX9_anew 0 = .ok (.aload_n 0, 1) := by decide +kernel
theorem dX9_anew_1 : decode cX9_anew 1 = .ok (.getfield 19, 3) := by decide +kernel
theorem dX9_anew_4 : decode cX9_anew 4 = .ok (.aload_n 0, 1) := by decide +kernel
theorem dX9_anew_5 : decode cX9_anew 5 = .ok (.getfield 12, 3) := by decide +kernel
theorem dX9_anew_8 : decode cX9_anew 8 = .ok (.invokevirtual 89, 3) := by decide +kernel
theorem dX9_anew_11 : decode cX9_anew 11 = .ok (.aload_n 0, 1) := by decide +kernel
theorem dX9_anew_12 : decode cX9_anew 12 = .ok (.getfield 12, 3) := by decide +kernel
theorem dX9_anew_15 : decode cX9_anew 15 = .ok (.getfield 75, 3) := by decide +kernel
theorem dX9_anew_18 : decode cX9_anew 18 = .ok (.getfield 97, 3) := by decide +kernel
theorem dX9_anew_21 : decode cX9_anew 21 = .ok (.istore_n 1, 1) := by decide +kernel
theorem dX9_anew_22 : decode cX9_anew 22 = .ok (.aload_n 0, 1) := by decide +kernel
theorem dX9_anew_23 : decode cX9_anew 23 = .ok (.getfield 12, 3) := by decide +kernel
theorem dX9_anew_26 : decode cX9_anew 26 = .ok (.getfield 75, 3) := by decide +kernel
theorem dX9_anew_29 : decode cX9_anew 29 = .ok (.iconst 0, 1) := by decide +kernel
theorem dX9_anew_30 : decode cX9_anew 30 = .ok (.putfield 97, 3) := by decide +kernel
theorem dX9_anew_33 : decode cX9_anew 33 = .ok (.aload_n 0, 1) := by decide +kernel
theorem dX9_anew_34 : decode cX9_anew 34 = .ok (.getfield 12, 3) := by decide +kernel
theorem dX9_anew_37 : decode cX9_anew 37 = .ok (.getfield 75, 3) := by decide +kernel
theorem dX9_anew_40 : decode cX9_anew 40 = .ok (.sipush 255, 3) := by decide +kernel
theorem dX9_anew_43 : decode cX9_anew 43 = .ok (.putfield 112, 3) := by decide +kernel
theorem dX9_anew_46 : decode cX9_anew 46 = .ok (.aload_n 0, 1) := by decide +kernel
theorem dX9_anew_47 : decode cX9_anew 47 = .ok (.getfield 12, 3) := by decide +kernel
theorem dX9_anew_50 : decode cX9_anew 50 = .ok (.getfield 75, 3) := by decide +kernel
theorem dX9_anew_53 : decode cX9_anew 53 = .ok (.iconst 0, 1) := by decide +kernel
theorem dX9_anew_54 : decode cX9_anew 54 = .ok (.putfield 115, 3) := by decide +kernel
theorem dX9_anew_57 : decode cX9_anew 57 = .ok (.aload_n 0, 1) := by decide +kernel
theorem dX9_anew_58 : decode cX9_anew 58 = .ok (.invokevirtual 61, 3) := by decide +kernel
theorem dX9_anew_61 : decode cX9_anew 61 = .ok (.iload_n 1, 1) := by decide +kernel
theorem dX9_anew_62 : decode cX9_anew 62 = .ok (.ireturn, 1) := by decide +kernel
set_option maxRecDepth 20000 in
theorem ggX9_of_X9_isWay : GoodIn wsX9_of wsX9_isWay := goodIn_r _ [12, 1, 2, 13, 30, 31, 32, 33, 34, 35, 36, 37, 38, 39, 40, 41, 42, 43, 44, 45, 46, 47, 48, 49, 50, 51, 52] rfl (by decide +kernel)
set_option maxRecDepth 20000 in
theorem gX9_of_X9_isWay : GoodIn wsX9_of (wsV RX9 101 RX9 yX9_isWay wsX9_isWay) := goodIn_app (goodIn_r _ [8, 9, 10, 11] rfl (by decide +kernel)) ggX9_of_X9_isWay
set_option maxRecDepth 20000 in
theorem ggX9_of_X9_isWithin : GoodIn wsX9_of wsX9_isWithin := goodIn_r _ [16] rfl (by decide +kernel)
set_option maxRecDepth 20000 in
theorem gX9_of_X9_isWithin : GoodIn wsX9_of (va_wsS RX9 108 yX9_isWithin wsX9_isWithin) := goodIn_app (goodIn_of _ (by decide +kernel)) ggX9_of_X9_isWithin
set_option maxRecDepth 20000 in
theorem ggX9_of_X9_refuse : GoodIn wsX9_of wsX9_refuse := goodIn_r _ [20, 21, 22, 23, 30, 31, 32, 33, 34, 35, 36, 37, 38, 39, 40, 41, 42, 43, 44] rfl (by decide +kernel)
set_option maxRecDepth 20000 in
theorem gX9_of_X9_refuse : GoodIn wsX9_of (wsV RX9 71 RX9 yX9_refuse wsX9_refuse) := goodIn_app (goodIn_r _ [17, 18, 19, 11] rfl (by decide +kernel)) ggX9_of_X9_refuse
set_option maxRecDepth 20000 in
theorem ggX9_of_X9_hasPlace : GoodIn wsX9_of wsX9_hasPlace := goodIn_r _ [26] rfl (by decide +kernel)
set_option maxRecDepth 20000 in
theorem gX9_of_X9_hasPlace : GoodIn wsX9_of (va_wsS RX9 136 yX9_hasPlace wsX9_hasPlace) := goodIn_app (goodIn_of _ (by decide +kernel)) ggX9_of_X9_hasPlace
set_option maxRecDepth 20000 in
theorem ggX9_of_X9_isOne : GoodIn wsX9_of wsX9_isOne := goodIn_r _ [29] rfl (by decide +kernel)
set_option maxRecDepth 20000 in
theorem gX9_of_X9_isOne : GoodIn wsX9_of (va_wsS RX9 139 yX9_isOne wsX9_isOne) := goodIn_app (goodIn_of _ (by decide +kernel)) ggX9_of_X9_isOne
theorem dX9_of_0 : decode cX9_of 0 = .ok (.aload_n 0, 1) := by decide +kernel
theorem dX9_of_1 : decode cX9_of 1 = .ok (.iload_n 1, 1) := by decide +kernel
theorem dX9_of_2 : decode cX9_of 2 = .ok (.invokevirtual 101, 3) := by decide +kernel
theorem dX9_of_5 : decode cX9_of 5 = .ok (.ifCond .eq 11, 3) := by decide +kernel
theorem dX9_of_8 : decode cX9_of 8 = .ok (.iload_n 2, 1) := by decide +kernel
theorem dX9_of_9 : decode cX9_of 9 = .ok (.iconst 3, 1) := by decide +kernel
theorem dX9_of_10 : decode cX9_of 10 = .ok (.invokestatic 108, 3) := by decide +kernel
theorem dX9_of_13 : decode cX9_of 13 = .ok (.ifCond .ne 10, 3) := by decide +kernel
theorem dX9_of_16 : decode cX9_of 16 = .ok (.aload_n 0, 1) := by decide +kernel
theorem dX9_of_17 : decode cX9_of 17 = .ok (.bipush (-2), 2) := by decide +kernel
theorem dX9_of_19 : decode cX9_of 19 = .ok (.invokevirtual 71, 3) := by decide +kernel
theorem dX9_of_22 : decode cX9_of 22 = .ok (.ireturn, 1) := by decide +kernel
theorem dX9_of_23 : decode cX9_of 23 = .ok (.aload_n 0, 1) := by decide +kernel
theorem dX9_of_24 : decode cX9_of 24 = .ok (.getfield 12, 3) := by decide +kernel
theorem dX9_of_27 : decode cX9_of 27 = .ok (.getfield 75, 3) := by decide +kernel
theorem dX9_of_30 : decode cX9_of 30 = .ok (.astore_n 3, 1) := by decide +kernel
theorem dX9_of_31 : decode cX9_of 31 = .ok (.iload_n 2, 1) := by decide +kernel
theorem dX9_of_32 : decode cX9_of 32 = .ok (.tableswitch 49 0 2 #[28, 35, 42], 28) := by decide +kernel
theorem dX9_of_60 : decode cX9_of 60 = .ok (.aload_n 3, 1) := by decide +kernel
theorem dX9_of_61 : decode cX9_of 61 = .ok (.getfield 123, 3) := by decide +kernel
theorem dX9_of_64 : decode cX9_of 64 = .ok (.iload_n 1, 1) := by decide +kernel
theorem dX9_of_65 : decode cX9_of 65 = .ok (.iaload, 1) := by decide +kernel
theorem dX9_of_66 : decode cX9_of 66 = .ok (.ireturn, 1) := by decide +kernel
theorem dX9_of_67 : decode cX9_of 67 = .ok (.aload_n 3, 1) := by decide +kernel
theorem dX9_of_68 : decode cX9_of 68 = .ok (.getfield 127, 3) := by decide +kernel
theorem dX9_of_71 : decode cX9_of 71 = .ok (.iload_n 1, 1) := by decide +kernel
theorem dX9_of_72 : decode cX9_of 72 = .ok (.iaload, 1) := by decide +kernel
theorem dX9_of_73 : decode cX9_of 73 = .ok (.ireturn, 1) := by decide +kernel
theorem dX9_of_74 : decode cX9_of 74 = .ok (.aload_n 3, 1) := by decide +kernel
theorem dX9_of_75 : decode cX9_of 75 = .ok (.getfield 130, 3) := by decide +kernel
theorem dX9_of_78 : decode cX9_of 78 = .ok (.iload_n 1, 1) := by decide +kernel
theorem dX9_of_79 : decode cX9_of 79 = .ok (.iaload, 1) := by decide +kernel
theorem dX9_of_80 : decode cX9_of 80 = .ok (.ireturn, 1) := by decide +kernel
theorem dX9_of_81 : decode cX9_of 81 = .ok (.aload_n 0, 1) := by decide +kernel
theorem dX9_of_82 : decode cX9_of 82 = .ok (.getfield 26, 3) := by decide +kernel
theorem dX9_of_85 : decode cX9_of 85 = .ok (.getfield 133, 3) := by decide +kernel
theorem dX9_of_88 : decode cX9_of 88 = .ok (.aload_n 3, 1) := by decide +kernel
theorem dX9_of_89 : decode cX9_of 89 = .ok (.getfield 123, 3) := by decide +kernel
theorem dX9_of_92 : decode cX9_of 92 = .ok (.iload_n 1, 1) := by decide +kernel
theorem dX9_of_93 : decode cX9_of 93 = .ok (.iaload, 1) := by decide +kernel
theorem dX9_of_94 : decode cX9_of 94 = .ok (.invokestatic 136, 3) := by decide +kernel
theorem dX9_of_97 : decode cX9_of 97 = .ok (.invokestatic 139, 3) := by decide +kernel
theorem dX9_of_100 : decode cX9_of 100 = .ok (.ireturn, 1) := by decide +kernel
set_option maxRecDepth 20000 in
theorem ggX9_sees_X9_isDeed : GoodIn wsX9_sees wsX9_isDeed := goodIn_r _ [10, 11, 12, 9, 13] rfl (by decide +kernel)
set_option maxRecDepth 20000 in
theorem gX9_sees_X9_isDeed : GoodIn wsX9_sees (va_wsS RX9 68 yX9_isDeed wsX9_isDeed) := goodIn_app (goodIn_of _ (by decide +kernel)) ggX9_sees_X9_isDeed
set_option maxRecDepth 20000 in
theorem ggX9_sees_X9_refuse : GoodIn wsX9_sees wsX9_refuse := goodIn_r _ [17, 18, 19, 20, 82, 83, 84, 85, 86, 87, 88, 89, 90, 91, 92, 93, 94, 95, 96] rfl (by decide +kernel)
set_option maxRecDepth 20000 in
theorem gX9_sees_X9_refuse : GoodIn wsX9_sees (wsV RX9 71 RX9 yX9_refuse wsX9_refuse) := goodIn_app (goodIn_r _ [14, 15, 16, 9] rfl (by decide +kernel)) ggX9_sees_X9_refuse
set_option maxRecDepth 20000 in
theorem ggX9_sees_X1_isSeen : GoodIn wsX9_sees wsX1_isSeen := goodIn_r _ [25, 26, 102, 103, 104, 105, 106, 107] rfl (by decide +kernel)
set_option maxRecDepth 20000 in
theorem gX9_sees_X1_isSeen : GoodIn wsX9_sees (wsV RX9 143 RX1 yX1_isSeen wsX1_isSeen) := goodIn_app (goodIn_r _ [21, 22, 23, 24] rfl (by decide +kernel)) ggX9_sees_X1_isSeen
set_option maxRecDepth 20000 in
theorem ggX9_sees_X7_after : GoodIn wsX9_sees wsX7_after := goodIn_r _ [31, 32, 108, 109, 110] rfl (by decide +kernel)
set_option maxRecDepth 20000 in
theorem gX9_sees_X7_after : GoodIn wsX9_sees (wsV RX9 155 RX7 yX7_after wsX7_after) := goodIn_app (goodIn_r _ [27, 28, 29, 30] rfl (by decide +kernel)) ggX9_sees_X7_after
set_option maxRecDepth 20000 in
theorem ggX9_sees_X0_keep : GoodIn wsX9_sees wsX0_keep := goodIn_r _ [37, 38, 39, 40, 41, 42, 43, 44, 45, 46, 47, 48, 49, 50, 51, 52, 53, 54, 24, 55, 56, 57, 58, 59, 60, 61, 62, 63, 26, 64, 65, 66, 67, 68, 69, 70, 71, 72, 73, 111, 112, 113, 97, 98, 102, 103, 104, 105, 106, 107, 99, 100, 101] rfl (by decide +kernel)
set_option maxRecDepth 20000 in
theorem gX9_sees_X0_keep : GoodIn wsX9_sees (wsV RX9 89 RX0 yX0_keep wsX0_keep) := goodIn_app (goodIn_r _ [33, 34, 35, 36] rfl (by decide +kernel)) ggX9_sees_X0_keep
set_option maxRecDepth 20000 in
theorem ggX9_sees_X8_add : GoodIn wsX9_sees wsX8_add := goodIn_r _ [77, 70, 72, 78, 42, 43, 44, 73, 99, 100, 101] rfl (by decide +kernel)
set_option maxRecDepth 20000 in
theorem gX9_sees_X8_add : GoodIn wsX9_sees (wsV RX9 159 RX8 yX8_add wsX8_add) := goodIn_app (goodIn_r _ [74, 75, 76, 68] rfl (by decide +kernel)) ggX9_sees_X8_add
set_option maxRecDepth 20000 in
theorem ggX9_sees_X9_verdict : GoodIn wsX9_sees wsX9_verdict := goodIn_r _ [81] rfl (by decide +kernel)
set_option maxRecDepth 20000 in
theorem gX9_sees_X9_verdict : GoodIn wsX9_sees (va_wsS RX9 161 yX9_verdict wsX9_verdict) := goodIn_app (goodIn_of _ (by decide +kernel)) ggX9_sees_X9_verdict
theorem dX9_sees_0 : decode cX9_sees 0 = .ok (.iload_n 1, 1) := by decide +kernel
theorem dX9_sees_1 : decode cX9_sees 1 = .ok (.invokestatic 68, 3) := by decide +kernel
theorem dX9_sees_4 : decode cX9_sees 4 = .ok (.ifCond .ne 10, 3) := by decide +kernel
theorem dX9_sees_7 : decode cX9_sees 7 = .ok (.aload_n 0, 1) := by decide +kernel
theorem dX9_sees_8 : decode cX9_sees 8 = .ok (.bipush (-2), 2) := by decide +kernel
theorem dX9_sees_10 : decode cX9_sees 10 = .ok (.invokevirtual 71, 3) := by decide +kernel
theorem dX9_sees_13 : decode cX9_sees 13 = .ok (.ireturn, 1) := by decide +kernel
theorem dX9_sees_14 : decode cX9_sees 14 = .ok (.aload_n 0, 1) := by decide +kernel
theorem dX9_sees_15 : decode cX9_sees 15 = .ok (.getfield 12, 3) := by decide +kernel
theorem dX9_sees_18 : decode cX9_sees 18 = .ok (.getfield 75, 3) := by decide +kernel
theorem dX9_sees_21 : decode cX9_sees 21 = .ok (.iload_n 1, 1) := by decide +kernel
theorem dX9_sees_22 : decode cX9_sees 22 = .ok (.invokevirtual 143, 3) := by decide +kernel
theorem dX9_sees_25 : decode cX9_sees 25 = .ok (.ifCond .ne 10, 3) := by decide +kernel
theorem dX9_sees_28 : decode cX9_sees 28 = .ok (.aload_n 0, 1) := by decide +kernel
theorem dX9_sees_29 : decode cX9_sees 29 = .ok (.bipush (-3), 2) := by decide +kernel
theorem dX9_sees_31 : decode cX9_sees 31 = .ok (.invokevirtual 71, 3) := by decide +kernel
theorem dX9_sees_34 : decode cX9_sees 34 = .ok (.ireturn, 1) := by decide +kernel
theorem dX9_sees_35 : decode cX9_sees 35 = .ok (.aload_n 0, 1) := by decide +kernel
theorem dX9_sees_36 : decode cX9_sees 36 = .ok (.getfield 26, 3) := by decide +kernel
theorem dX9_sees_39 : decode cX9_sees 39 = .ok (.aload_n 0, 1) := by decide +kernel
theorem dX9_sees_40 : decode cX9_sees 40 = .ok (.getfield 12, 3) := by decide +kernel
theorem dX9_sees_43 : decode cX9_sees 43 = .ok (.getfield 146, 3) := by decide +kernel
theorem dX9_sees_46 : decode cX9_sees 46 = .ok (.getfield 150, 3) := by decide +kernel
theorem dX9_sees_49 : decode cX9_sees 49 = .ok (.iload_n 1, 1) := by decide +kernel
theorem dX9_sees_50 : decode cX9_sees 50 = .ok (.invokevirtual 155, 3) := by decide +kernel
theorem dX9_sees_53 : decode cX9_sees 53 = .ok (.istore_n 2, 1) := by decide +kernel
theorem dX9_sees_54 : decode cX9_sees 54 = .ok (.iload_n 2, 1) := by decide +kernel
theorem dX9_sees_55 : decode cX9_sees 55 = .ok (.ifCond .ne 10, 3) := by decide +kernel
theorem dX9_sees_58 : decode cX9_sees 58 = .ok (.aload_n 0, 1) := by decide +kernel
theorem dX9_sees_59 : decode cX9_sees 59 = .ok (.bipush (-3), 2) := by decide +kernel
theorem dX9_sees_61 : decode cX9_sees 61 = .ok (.invokevirtual 71, 3) := by decide +kernel
theorem dX9_sees_64 : decode cX9_sees 64 = .ok (.ireturn, 1) := by decide +kernel
theorem dX9_sees_65 : decode cX9_sees 65 = .ok (.aload_n 0, 1) := by decide +kernel
theorem dX9_sees_66 : decode cX9_sees 66 = .ok (.getfield 19, 3) := by decide +kernel
theorem dX9_sees_69 : decode cX9_sees 69 = .ok (.aload_n 0, 1) := by decide +kernel
theorem dX9_sees_70 : decode cX9_sees 70 = .ok (.getfield 12, 3) := by decide +kernel
theorem dX9_sees_73 : decode cX9_sees 73 = .ok (.invokevirtual 89, 3) := by decide +kernel
theorem dX9_sees_76 : decode cX9_sees 76 = .ok (.aload_n 0, 1) := by decide +kernel
theorem dX9_sees_77 : decode cX9_sees 77 = .ok (.getfield 12, 3) := by decide +kernel
theorem dX9_sees_80 : decode cX9_sees 80 = .ok (.getfield 146, 3) := by decide +kernel
theorem dX9_sees_83 : decode cX9_sees 83 = .ok (.iload_n 1, 1) := by decide +kernel
theorem dX9_sees_84 : decode cX9_sees 84 = .ok (.iload_n 2, 1) := by decide +kernel
theorem dX9_sees_85 : decode cX9_sees 85 = .ok (.invokevirtual 159, 3) := by decide +kernel
theorem dX9_sees_88 : decode cX9_sees 88 = .ok (.iload_n 2, 1) := by decide +kernel
theorem dX9_sees_89 : decode cX9_sees 89 = .ok (.invokestatic 161, 3) := by decide +kernel
theorem dX9_sees_92 : decode cX9_sees 92 = .ok (.ireturn, 1) := by decide +kernel
set_option maxRecDepth 20000 in
theorem ggX9_restarts_X0_keep : GoodIn wsX9_restarts wsX0_keep := goodIn_r _ [10, 11, 12, 13, 14, 15, 16, 17, 18, 19, 20, 21, 22, 23, 24, 25, 26, 27, 28, 29, 30, 31, 32, 33, 34, 35, 36, 37, 38, 39, 40, 41, 42, 43, 44, 45, 46, 47, 48, 83, 84, 85, 78, 79, 86, 87, 88, 89, 90, 91, 80, 81, 82] rfl (by decide +kernel)
set_option maxRecDepth 20000 in
theorem gX9_restarts_X0_keep : GoodIn wsX9_restarts (wsV RX9 89 RX0 yX0_keep wsX0_keep) := goodIn_app (goodIn_r _ [6, 7, 8, 9] rfl (by decide +kernel)) ggX9_restarts_X0_keep
set_option maxRecDepth 20000 in
theorem ggX9_restarts_X7_first : GoodIn wsX9_restarts wsX7_first := goodIn_r _ [53, 54, 92, 93, 94] rfl (by decide +kernel)
set_option maxRecDepth 20000 in
theorem gX9_restarts_X7_first : GoodIn wsX9_restarts (wsV RX9 164 RX7 yX7_first wsX7_first) := goodIn_app (goodIn_r _ [49, 50, 51, 52] rfl (by decide +kernel)) ggX9_restarts_X7_first
set_option maxRecDepth 20000 in
theorem ggX9_restarts_X8_begin : GoodIn wsX9_restarts wsX8_begin := goodIn_r _ [58, 47, 48, 80, 81, 82] rfl (by decide +kernel)
set_option maxRecDepth 20000 in
theorem gX9_restarts_X8_begin : GoodIn wsX9_restarts (wsV RX9 168 RX8 yX8_begin wsX8_begin) := goodIn_app (goodIn_r _ [55, 56, 57, 43] rfl (by decide +kernel)) ggX9_restarts_X8_begin
set_option maxRecDepth 20000 in
theorem ggX9_restarts_X9_verdict : GoodIn wsX9_restarts wsX9_verdict := goodIn_r _ [62] rfl (by decide +kernel)
set_option maxRecDepth 20000 in
theorem gX9_restarts_X9_verdict : GoodIn wsX9_restarts (va_wsS RX9 161 yX9_verdict wsX9_verdict) := goodIn_app (goodIn_of _ (by decide +kernel)) ggX9_restarts_X9_verdict
theorem dX9_restarts_0 : decode cX9_restarts 0 = .ok (.aload_n 0, 1) := by decide +kernel
theorem dX9_restarts_1 : decode cX9_restarts 1 = .ok (.getfield 19, 3) := by decide +kernel
theorem dX9_restarts_4 : decode cX9_restarts 4 = .ok (.aload_n 0, 1) := by decide +kernel
theorem dX9_restarts_5 : decode cX9_restarts 5 = .ok (.getfield 12, 3) := by decide +kernel
theorem dX9_restarts_8 : decode cX9_restarts 8 = .ok (.invokevirtual 89, 3) := by decide +kernel
theorem dX9_restarts_11 : decode cX9_restarts 11 = .ok (.aload_n 0, 1) := by decide +kernel
theorem dX9_restarts_12 : decode cX9_restarts 12 = .ok (.getfield 12, 3) := by decide +kernel
theorem dX9_restarts_15 : decode cX9_restarts 15 = .ok (.getfield 146, 3) := by decide +kernel
theorem dX9_restarts_18 : decode cX9_restarts 18 = .ok (.aload_n 0, 1) := by decide +kernel
theorem dX9_restarts_19 : decode cX9_restarts 19 = .ok (.getfield 26, 3) := by decide +kernel
theorem dX9_restarts_22 : decode cX9_restarts 22 = .ok (.invokevirtual 164, 3) := by decide +kernel
theorem dX9_restarts_25 : decode cX9_restarts 25 = .ok (.invokevirtual 168, 3) := by decide +kernel
theorem dX9_restarts_28 : decode cX9_restarts 28 = .ok (.aload_n 0, 1) := by decide +kernel
theorem dX9_restarts_29 : decode cX9_restarts 29 = .ok (.getfield 12, 3) := by decide +kernel
theorem dX9_restarts_32 : decode cX9_restarts 32 = .ok (.getfield 146, 3) := by decide +kernel
theorem dX9_restarts_35 : decode cX9_restarts 35 = .ok (.getfield 150, 3) := by decide +kernel
theorem dX9_restarts_38 : decode cX9_restarts 38 = .ok (.invokestatic 161, 3) := by decide +kernel
theorem dX9_restarts_41 : decode cX9_restarts 41 = .ok (.ireturn, 1) := by decide +kernel
set_option maxRecDepth 20000 in
theorem ggX9_known_X9_isWithin : GoodIn wsX9_known wsX9_isWithin := goodIn_r _ [8] rfl (by decide +kernel)
set_option maxRecDepth 20000 in
theorem gX9_known_X9_isWithin : GoodIn wsX9_known (va_wsS RX9 108 yX9_isWithin wsX9_isWithin) := goodIn_app (goodIn_of _ (by decide +kernel)) ggX9_known_X9_isWithin
set_option maxRecDepth 20000 in
theorem ggX9_known_X9_refuse : GoodIn wsX9_known wsX9_refuse := goodIn_r _ [12, 13, 14, 15, 56, 57, 58, 59, 60, 61, 62, 63, 64, 65, 66, 67, 68, 69, 70] rfl (by decide +kernel)
set_option maxRecDepth 20000 in
theorem gX9_known_X9_refuse : GoodIn wsX9_known (wsV RX9 71 RX9 yX9_refuse wsX9_refuse) := goodIn_app (goodIn_r _ [9, 10, 11, 7] rfl (by decide +kernel)) ggX9_known_X9_refuse
set_option maxRecDepth 20000 in
theorem ggX9_known_X9_verdict : GoodIn wsX9_known wsX9_verdict := goodIn_r _ [18] rfl (by decide +kernel)
set_option maxRecDepth 20000 in
theorem gX9_known_X9_verdict : GoodIn wsX9_known (va_wsS RX9 161 yX9_verdict wsX9_verdict) := goodIn_app (goodIn_of _ (by decide +kernel)) ggX9_known_X9_verdict
set_option maxRecDepth 20000 in
theorem ggX9_known_J6_bitCount_0f7a4 : GoodIn wsX9_known wsJ6_bitCount_0f7a4 := goodIn_r _ [22, 23, 24, 25] rfl (by decide +kernel)
set_option maxRecDepth 20000 in
theorem gX9_known_J6_bitCount_0f7a4 : GoodIn wsX9_known (va_wsS RX9 171 yJ6_bitCount_0f7a4 wsJ6_bitCount_0f7a4) := goodIn_app (goodIn_of _ (by decide +kernel)) ggX9_known_J6_bitCount_0f7a4
set_option maxRecDepth 20000 in
theorem ggX9_known_X7_nextSights : GoodIn wsX9_known wsX7_nextSights := goodIn_r _ [30, 31, 32, 33, 29, 34, 35, 76, 77, 78] rfl (by decide +kernel)
set_option maxRecDepth 20000 in
theorem gX9_known_X7_nextSights : GoodIn wsX9_known (wsV RX9 176 RX7 yX7_nextSights wsX7_nextSights) := goodIn_app (goodIn_r _ [26, 27, 28, 29] rfl (by decide +kernel)) ggX9_known_X7_nextSights
set_option maxRecDepth 20000 in
theorem ggX9_known_X9_canGoUnseen : GoodIn wsX9_known wsX9_canGoUnseen := goodIn_r _ [39, 1, 40, 41, 42, 43, 44, 45, 46, 47, 48, 49, 50, 51, 7, 52, 56, 57, 58, 59, 60, 61, 62, 63, 64, 65, 66, 67, 68, 69, 70, 71, 72, 79, 80, 81, 82, 83, 84] rfl (by decide +kernel)
set_option maxRecDepth 20000 in
theorem gX9_known_X9_canGoUnseen : GoodIn wsX9_known (wsV RX9 179 RX9 yX9_canGoUnseen wsX9_canGoUnseen) := goodIn_app (goodIn_r _ [36, 37, 38, 7] rfl (by decide +kernel)) ggX9_known_X9_canGoUnseen
set_option maxRecDepth 20000 in
theorem ggX9_known_X9_isOne : GoodIn wsX9_known wsX9_isOne := goodIn_r _ [55] rfl (by decide +kernel)
set_option maxRecDepth 20000 in
theorem gX9_known_X9_isOne : GoodIn wsX9_known (va_wsS RX9 139 yX9_isOne wsX9_isOne) := goodIn_app (goodIn_of _ (by decide +kernel)) ggX9_known_X9_isOne
theorem dX9_known_0 : decode cX9_known 0 = .ok (.iload_n 1, 1) := by decide +kernel
theorem dX9_known_1 : decode cX9_known 1 = .ok (.iconst 4, 1) := by decide +kernel
theorem dX9_known_2 : decode cX9_known 2 = .ok (.invokestatic 108, 3) := by decide +kernel
theorem dX9_known_5 : decode cX9_known 5 = .ok (.ifCond .ne 10, 3) := by decide +kernel
theorem dX9_known_8 : decode cX9_known 8 = .ok (.aload_n 0, 1) := by decide +kernel
theorem dX9_known_9 : decode cX9_known 9 = .ok (.bipush (-2), 2) := by decide +kernel
theorem dX9_known_11 : decode cX9_known 11 = .ok (.invokevirtual 71, 3) := by decide +kernel
theorem dX9_known_14 : decode cX9_known 14 = .ok (.ireturn, 1) := by decide +kernel
theorem dX9_known_15 : decode cX9_known 15 = .ok (.aload_n 0, 1) := by decide +kernel
theorem dX9_known_16 : decode cX9_known 16 = .ok (.getfield 12, 3) := by decide +kernel
theorem dX9_known_19 : decode cX9_known 19 = .ok (.getfield 146, 3) := by decide +kernel
theorem dX9_known_22 : decode cX9_known 22 = .ok (.getfield 150, 3) := by decide +kernel
theorem dX9_known_25 : decode cX9_known 25 = .ok (.istore_n 2, 1) := by decide +kernel
theorem dX9_known_26 : decode cX9_known 26 = .ok (.iload_n 1, 1) := by decide +kernel
theorem dX9_known_27 : decode cX9_known 27 = .ok (.tableswitch 50 0 3 #[29, 31, 36, 41], 29) := by decide +kernel
theorem dX9_known_56 : decode cX9_known 56 = .ok (.iload_n 2, 1) := by decide +kernel
theorem dX9_known_57 : decode cX9_known 57 = .ok (.ireturn, 1) := by decide +kernel
theorem dX9_known_58 : decode cX9_known 58 = .ok (.iload_n 2, 1) := by decide +kernel
theorem dX9_known_59 : decode cX9_known 59 = .ok (.invokestatic 161, 3) := by decide +kernel
theorem dX9_known_62 : decode cX9_known 62 = .ok (.ireturn, 1) := by decide +kernel
theorem dX9_known_63 : decode cX9_known 63 = .ok (.iload_n 2, 1) := by decide +kernel
theorem dX9_known_64 : decode cX9_known 64 = .ok (.invokestatic 171, 3) := by decide +kernel
theorem dX9_known_67 : decode cX9_known 67 = .ok (.ireturn, 1) := by decide +kernel
theorem dX9_known_68 : decode cX9_known 68 = .ok (.aload_n 0, 1) := by decide +kernel
theorem dX9_known_69 : decode cX9_known 69 = .ok (.getfield 26, 3) := by decide +kernel
theorem dX9_known_72 : decode cX9_known 72 = .ok (.iload_n 2, 1) := by decide +kernel
theorem dX9_known_73 : decode cX9_known 73 = .ok (.invokevirtual 176, 3) := by decide +kernel
theorem dX9_known_76 : decode cX9_known 76 = .ok (.ireturn, 1) := by decide +kernel
theorem dX9_known_77 : decode cX9_known 77 = .ok (.aload_n 0, 1) := by decide +kernel
theorem dX9_known_78 : decode cX9_known 78 = .ok (.iload_n 2, 1) := by decide +kernel
theorem dX9_known_79 : decode cX9_known 79 = .ok (.invokevirtual 179, 3) := by decide +kernel
theorem dX9_known_82 : decode cX9_known 82 = .ok (.invokestatic 139, 3) := by decide +kernel
theorem dX9_known_85 : decode cX9_known 85 = .ok (.ireturn, 1) := by decide +kernel
set_option maxRecDepth 20000 in
theorem ggX9_would_X9_isDeed : GoodIn wsX9_would wsX9_isDeed := goodIn_r _ [9, 10, 11, 8, 12] rfl (by decide +kernel)
set_option maxRecDepth 20000 in
theorem gX9_would_X9_isDeed : GoodIn wsX9_would (va_wsS RX9 68 yX9_isDeed wsX9_isDeed) := goodIn_app (goodIn_of _ (by decide +kernel)) ggX9_would_X9_isDeed
set_option maxRecDepth 20000 in
theorem ggX9_would_X9_refuse : GoodIn wsX9_would wsX9_refuse := goodIn_r _ [16, 17, 18, 19, 35, 36, 37, 38, 39, 40, 41, 42, 43, 44, 45, 46, 47, 48, 49] rfl (by decide +kernel)
set_option maxRecDepth 20000 in
theorem gX9_would_X9_refuse : GoodIn wsX9_would (wsV RX9 71 RX9 yX9_refuse wsX9_refuse) := goodIn_app (goodIn_r _ [13, 14, 15, 8] rfl (by decide +kernel)) ggX9_would_X9_refuse
set_option maxRecDepth 20000 in
theorem ggX9_would_X1_isSeen : GoodIn wsX9_would wsX1_isSeen := goodIn_r _ [24, 25, 55, 56, 57, 58, 59, 60] rfl (by decide +kernel)
set_option maxRecDepth 20000 in
theorem gX9_would_X1_isSeen : GoodIn wsX9_would (wsV RX9 143 RX1 yX1_isSeen wsX1_isSeen) := goodIn_app (goodIn_r _ [20, 21, 22, 23] rfl (by decide +kernel)) ggX9_would_X1_isSeen
set_option maxRecDepth 20000 in
theorem ggX9_would_X7_after : GoodIn wsX9_would wsX7_after := goodIn_r _ [30, 31, 61, 62, 63] rfl (by decide +kernel)
set_option maxRecDepth 20000 in
theorem gX9_would_X7_after : GoodIn wsX9_would (wsV RX9 155 RX7 yX7_after wsX7_after) := goodIn_app (goodIn_r _ [26, 27, 28, 29] rfl (by decide +kernel)) ggX9_would_X7_after
set_option maxRecDepth 20000 in
theorem ggX9_would_X9_verdict : GoodIn wsX9_would wsX9_verdict := goodIn_r _ [34] rfl (by decide +kernel)
set_option maxRecDepth 20000 in
theorem gX9_would_X9_verdict : GoodIn wsX9_would (va_wsS RX9 161 yX9_verdict wsX9_verdict) := goodIn_app (goodIn_of _ (by decide +kernel)) ggX9_would_X9_verdict
theorem dX9_would_0 : decode cX9_would 0 = .ok (.iload_n 1, 1) := by decide +kernel
theorem dX9_would_1 : decode cX9_would 1 = .ok (.invokestatic 68, 3) := by decide +kernel
theorem dX9_would_4 : decode cX9_would 4 = .ok (.ifCond .ne 10, 3) := by decide +kernel
theorem dX9_would_7 : decode cX9_would 7 = .ok (.aload_n 0, 1) := by decide +kernel
theorem dX9_would_8 : decode cX9_would 8 = .ok (.bipush (-2), 2) := by decide +kernel
theorem dX9_would_10 : decode cX9_would 10 = .ok (.invokevirtual 71, 3) := by decide +kernel
theorem dX9_would_13 : decode cX9_would 13 = .ok (.ireturn, 1) := by decide +kernel
theorem dX9_would_14 : decode cX9_would 14 = .ok (.aload_n 0, 1) := by decide +kernel
theorem dX9_would_15 : decode cX9_would 15 = .ok (.getfield 12, 3) := by decide +kernel
theorem dX9_would_18 : decode cX9_would 18 = .ok (.getfield 75, 3) := by decide +kernel
theorem dX9_would_21 : decode cX9_would 21 = .ok (.iload_n 1, 1) := by decide +kernel
theorem dX9_would_22 : decode cX9_would 22 = .ok (.invokevirtual 143, 3) := by decide +kernel
theorem dX9_would_25 : decode cX9_would 25 = .ok (.ifCond .ne 10, 3) := by decide +kernel
theorem dX9_would_28 : decode cX9_would 28 = .ok (.aload_n 0, 1) := by decide +kernel
theorem dX9_would_29 : decode cX9_would 29 = .ok (.bipush (-3), 2) := by decide +kernel
theorem dX9_would_31 : decode cX9_would 31 = .ok (.invokevirtual 71, 3) := by decide +kernel
theorem dX9_would_34 : decode cX9_would 34 = .ok (.ireturn, 1) := by decide +kernel
theorem dX9_would_35 : decode cX9_would 35 = .ok (.aload_n 0, 1) := by decide +kernel
theorem dX9_would_36 : decode cX9_would 36 = .ok (.getfield 26, 3) := by decide +kernel
theorem dX9_would_39 : decode cX9_would 39 = .ok (.aload_n 0, 1) := by decide +kernel
theorem dX9_would_40 : decode cX9_would 40 = .ok (.getfield 12, 3) := by decide +kernel
theorem dX9_would_43 : decode cX9_would 43 = .ok (.getfield 146, 3) := by decide +kernel
theorem dX9_would_46 : decode cX9_would 46 = .ok (.getfield 150, 3) := by decide +kernel
theorem dX9_would_49 : decode cX9_would 49 = .ok (.iload_n 1, 1) := by decide +kernel
theorem dX9_would_50 : decode cX9_would 50 = .ok (.invokevirtual 155, 3) := by decide +kernel
theorem dX9_would_53 : decode cX9_would 53 = .ok (.istore_n 2, 1) := by decide +kernel
theorem dX9_would_54 : decode cX9_would 54 = .ok (.iload_n 2, 1) := by decide +kernel
theorem dX9_would_55 : decode cX9_would 55 = .ok (.ifCond .ne 7, 3) := by decide +kernel
theorem dX9_would_58 : decode cX9_would 58 = .ok (.iconst (-1), 1) := by decide +kernel
theorem dX9_would_59 : decode cX9_would 59 = .ok (.goto 7, 3) := by decide +kernel
theorem dX9_would_62 : decode cX9_would 62 = .ok (.iload_n 2, 1) := by decide +kernel
theorem dX9_would_63 : decode cX9_would 63 = .ok (.invokestatic 161, 3) := by decide +kernel
theorem dX9_would_66 : decode cX9_would 66 = .ok (.ireturn, 1) := by decide +kernel
set_option maxRecDepth 20000 in
theorem ggX9_sight_X9_refuse : GoodIn wsX9_sight wsX9_refuse := goodIn_r _ [9, 10, 11, 12, 13, 14, 15, 16, 17, 18, 19, 20, 21, 22, 23, 24, 25, 26, 27] rfl (by decide +kernel)
set_option maxRecDepth 20000 in
theorem gX9_sight_X9_refuse : GoodIn wsX9_sight (wsV RX9 71 RX9 yX9_refuse wsX9_refuse) := goodIn_app (goodIn_r _ [5, 6, 7, 8] rfl (by decide +kernel)) ggX9_sight_X9_refuse
theorem dX9_sight_0 : decode cX9_sight 0 = .ok (.iload_n 1, 1) := by decide +kernel
theorem dX9_sight_1 : decode cX9_sight 1 = .ok (.ifCond .ge 10, 3) := by decide +kernel
theorem dX9_sight_4 : decode cX9_sight 4 = .ok (.aload_n 0, 1) := by decide +kernel
theorem dX9_sight_5 : decode cX9_sight 5 = .ok (.bipush (-2), 2) := by decide +kernel
theorem dX9_sight_7 : decode cX9_sight 7 = .ok (.invokevirtual 71, 3) := by decide +kernel
theorem dX9_sight_10 : decode cX9_sight 10 = .ok (.ireturn, 1) := by decide +kernel
theorem dX9_sight_11 : decode cX9_sight 11 = .ok (.iload_n 1, 1) := by decide +kernel
theorem dX9_sight_12 : decode cX9_sight 12 = .ok (.aload_n 0, 1) := by decide +kernel
theorem dX9_sight_13 : decode cX9_sight 13 = .ok (.getfield 12, 3) := by decide +kernel
theorem dX9_sight_16 : decode cX9_sight 16 = .ok (.getfield 146, 3) := by decide +kernel
theorem dX9_sight_19 : decode cX9_sight 19 = .ok (.getfield 182, 3) := by decide +kernel
theorem dX9_sight_22 : decode cX9_sight 22 = .ok (.if_icmp .ge 18, 3) := by decide +kernel
theorem dX9_sight_25 : decode cX9_sight 25 = .ok (.aload_n 0, 1) := by decide +kernel
theorem dX9_sight_26 : decode cX9_sight 26 = .ok (.getfield 12, 3) := by decide +kernel
theorem dX9_sight_29 : decode cX9_sight 29 = .ok (.getfield 146, 3) := by decide +kernel
theorem dX9_sight_32 : decode cX9_sight 32 = .ok (.getfield 185, 3) := by decide +kernel
theorem dX9_sight_35 : decode cX9_sight 35 = .ok (.iload_n 1, 1) := by decide +kernel
theorem dX9_sight_36 : decode cX9_sight 36 = .ok (.iaload, 1) := by decide +kernel
theorem dX9_sight_37 : decode cX9_sight 37 = .ok (.goto 4, 3) := by decide +kernel
theorem dX9_sight_40 : decode cX9_sight 40 = .ok (.iconst (-1), 1) := by decide +kernel
theorem dX9_sight_41 : decode cX9_sight 41 = .ok (.ireturn, 1) := by decide +kernel
set_option maxRecDepth 20000 in
theorem ggX9_all_X9_isWithin : GoodIn wsX9_all wsX9_isWithin := goodIn_r _ [7] rfl (by decide +kernel)
set_option maxRecDepth 20000 in
theorem gX9_all_X9_isWithin : GoodIn wsX9_all (va_wsS RX9 108 yX9_isWithin wsX9_isWithin) := goodIn_app (goodIn_of _ (by decide +kernel)) ggX9_all_X9_isWithin
set_option maxRecDepth 20000 in
theorem ggX9_all_X9_refuse : GoodIn wsX9_all wsX9_refuse := goodIn_r _ [11, 12, 13, 14, 148, 149, 150, 151, 152, 153, 154, 155, 156, 157, 158, 159, 160, 161, 162] rfl (by decide +kernel)
set_option maxRecDepth 20000 in
theorem gX9_all_X9_refuse : GoodIn wsX9_all (wsV RX9 71 RX9 yX9_refuse wsX9_refuse) := goodIn_app (goodIn_r _ [8, 9, 10, 6] rfl (by decide +kernel)) ggX9_all_X9_refuse
set_option maxRecDepth 20000 in
theorem ggX9_all_X9_foundSets : GoodIn wsX9_all wsX9_foundSets := goodIn_r _ [18, 19, 20, 1, 21, 22, 23, 24, 25, 26, 27, 28, 29, 30, 31, 32, 33, 34, 35, 36, 37, 38, 39, 40, 41, 42, 43, 44, 45, 46, 47, 48, 49, 148, 149, 150, 151, 152, 153, 154, 155, 156, 157, 158, 159, 160, 161, 162, 166, 167, 168, 169, 163, 164, 165] rfl (by decide +kernel)
set_option maxRecDepth 20000 in
theorem gX9_all_X9_foundSets : GoodIn wsX9_all (wsV RX9 188 RX9 yX9_foundSets wsX9_foundSets) := goodIn_app (goodIn_r _ [15, 16, 17, 6] rfl (by decide +kernel)) ggX9_all_X9_foundSets
set_option maxRecDepth 20000 in
theorem ggX9_all_X3_countOf : GoodIn wsX9_all wsX3_countOf := goodIn_r _ [53, 27, 28, 54, 6, 55, 166, 167, 168, 169] rfl (by decide +kernel)
set_option maxRecDepth 20000 in
theorem gX9_all_X3_countOf : GoodIn wsX9_all (wsV RX9 193 RX3 yX3_countOf wsX3_countOf) := goodIn_app (goodIn_r _ [50, 51, 52, 24] rfl (by decide +kernel)) ggX9_all_X3_countOf
set_option maxRecDepth 20000 in
theorem ggX9_all_X9_foundTwins : GoodIn wsX9_all wsX9_foundTwins := goodIn_r _ [59, 60, 61, 62, 63, 64, 65, 66, 67, 68, 69, 70, 71, 72, 73, 74, 75, 76, 77, 78, 79, 80, 81, 82, 83, 84, 85, 86, 87, 88, 89, 90, 91, 92, 93, 94, 95, 96, 97, 98, 99, 100, 31, 32, 33, 101, 102, 103, 104, 105, 106, 107, 108, 109, 110, 111, 112, 113, 114, 115, 116, 117, 118, 119, 120, 121, 122, 123, 124, 125, 126, 127, 128, 129, 130, 131, 132, 133, 134, 135, 136, 137, 138, 139, 140, 141, 142, 143, 148, 149, 150, 151, 152, 153, 154, 155, 156, 157, 158, 159, 160, 161, 162, 170, 171, 172, 173, 174, 175, 176, 177, 178, 179, 180, 181, 182, 183, 184, 185] rfl (by decide +kernel)
set_option maxRecDepth 20000 in
theorem gX9_all_X9_foundTwins : GoodIn wsX9_all (wsV RX9 196 RX9 yX9_foundTwins wsX9_foundTwins) := goodIn_app (goodIn_r _ [56, 57, 58, 6] rfl (by decide +kernel)) ggX9_all_X9_foundTwins
set_option maxRecDepth 20000 in
theorem ggX9_all_X6_countFrom : GoodIn wsX9_all wsX6_countFrom := goodIn_r _ [147, 105, 130, 131, 68, 132, 133, 134, 135, 136, 137, 138, 139, 178, 179, 180, 181, 182, 183, 184, 185] rfl (by decide +kernel)
set_option maxRecDepth 20000 in
theorem gX9_all_X6_countFrom : GoodIn wsX9_all (wsV RX9 200 RX6 yX6_countFrom wsX6_countFrom) := goodIn_app (goodIn_r _ [144, 145, 146, 68] rfl (by decide +kernel)) ggX9_all_X6_countFrom
theorem dX9_all_0 : decode cX9_all 0 = .ok (.iload_n 1, 1) := by decide +kernel
theorem dX9_all_1 : decode cX9_all 1 = .ok (.iconst 5, 1) := by decide +kernel
theorem dX9_all_2 : decode cX9_all 2 = .ok (.invokestatic 108, 3) := by decide +kernel
theorem dX9_all_5 : decode cX9_all 5 = .ok (.ifCond .ne 10, 3) := by decide +kernel
theorem dX9_all_8 : decode cX9_all 8 = .ok (.aload_n 0, 1) := by decide +kernel
theorem dX9_all_9 : decode cX9_all 9 = .ok (.bipush (-2), 2) := by decide +kernel
theorem dX9_all_11 : decode cX9_all 11 = .ok (.invokevirtual 71, 3) := by decide +kernel
theorem dX9_all_14 : decode cX9_all 14 = .ok (.ireturn, 1) := by decide +kernel
theorem dX9_all_15 : decode cX9_all 15 = .ok (.iload_n 1, 1) := by decide +kernel
theorem dX9_all_16 : decode cX9_all 16 = .ok (.tableswitch 79 0 4 #[36, 44, 52, 61, 70], 36) := by decide +kernel
theorem dX9_all_52 : decode cX9_all 52 = .ok (.aload_n 0, 1) := by decide +kernel
theorem dX9_all_53 : decode cX9_all 53 = .ok (.getfield 26, 3) := by decide +kernel
theorem dX9_all_56 : decode cX9_all 56 = .ok (.getfield 133, 3) := by decide +kernel
theorem dX9_all_59 : decode cX9_all 59 = .ok (.ireturn, 1) := by decide +kernel
theorem dX9_all_60 : decode cX9_all 60 = .ok (.aload_n 0, 1) := by decide +kernel
theorem dX9_all_61 : decode cX9_all 61 = .ok (.invokevirtual 188, 3) := by decide +kernel
theorem dX9_all_64 : decode cX9_all 64 = .ok (.getfield 192, 3) := by decide +kernel
theorem dX9_all_67 : decode cX9_all 67 = .ok (.ireturn, 1) := by decide +kernel
theorem dX9_all_68 : decode cX9_all 68 = .ok (.aload_n 0, 1) := by decide +kernel
theorem dX9_all_69 : decode cX9_all 69 = .ok (.invokevirtual 188, 3) := by decide +kernel
theorem dX9_all_72 : decode cX9_all 72 = .ok (.iconst 2, 1) := by decide +kernel
theorem dX9_all_73 : decode cX9_all 73 = .ok (.invokevirtual 193, 3) := by decide +kernel
theorem dX9_all_76 : decode cX9_all 76 = .ok (.ireturn, 1) := by decide +kernel
theorem dX9_all_77 : decode cX9_all 77 = .ok (.aload_n 0, 1) := by decide +kernel
theorem dX9_all_78 : decode cX9_all 78 = .ok (.invokevirtual 188, 3) := by decide +kernel
theorem dX9_all_81 : decode cX9_all 81 = .ok (.iconst 1, 1) := by decide +kernel
theorem dX9_all_82 : decode cX9_all 82 = .ok (.invokevirtual 193, 3) := by decide +kernel
theorem dX9_all_85 : decode cX9_all 85 = .ok (.ireturn, 1) := by decide +kernel
theorem dX9_all_86 : decode cX9_all 86 = .ok (.aload_n 0, 1) := by decide +kernel
theorem dX9_all_87 : decode cX9_all 87 = .ok (.invokevirtual 196, 3) := by decide +kernel
theorem dX9_all_90 : decode cX9_all 90 = .ok (.iconst 0, 1) := by decide +kernel
theorem dX9_all_91 : decode cX9_all 91 = .ok (.invokevirtual 200, 3) := by decide +kernel
theorem dX9_all_94 : decode cX9_all 94 = .ok (.ireturn, 1) := by decide +kernel
theorem dX9_all_95 : decode cX9_all 95 = .ok (.aload_n 0, 1) := by decide +kernel
theorem dX9_all_96 : decode cX9_all 96 = .ok (.invokevirtual 196, 3) := by decide +kernel
theorem dX9_all_99 : decode cX9_all 99 = .ok (.bipush 10, 2) := by decide +kernel
theorem dX9_all_101 : decode cX9_all 101 = .ok (.invokevirtual 200, 3) := by decide +kernel
theorem dX9_all_104 : decode cX9_all 104 = .ok (.ireturn, 1) := by decide +kernel
set_option maxRecDepth 20000 in
theorem ggX9_apart_X9_isWithin : GoodIn wsX9_apart wsX9_isWithin := goodIn_r _ [5] rfl (by decide +kernel)
set_option maxRecDepth 20000 in
theorem gX9_apart_X9_isWithin : GoodIn wsX9_apart (va_wsS RX9 108 yX9_isWithin wsX9_isWithin) := goodIn_app (goodIn_of _ (by decide +kernel)) ggX9_apart_X9_isWithin
set_option maxRecDepth 20000 in
theorem ggX9_apart_X9_refuse : GoodIn wsX9_apart wsX9_refuse := goodIn_r _ [9, 10, 11, 12, 115, 116, 117, 118, 119, 120, 121, 122, 123, 124, 125, 126, 127, 128, 129] rfl (by decide +kernel)
set_option maxRecDepth 20000 in
theorem gX9_apart_X9_refuse : GoodIn wsX9_apart (wsV RX9 71 RX9 yX9_refuse wsX9_refuse) := goodIn_app (goodIn_r _ [6, 7, 8, 4] rfl (by decide +kernel)) ggX9_apart_X9_refuse
set_option maxRecDepth 20000 in
theorem ggX9_apart_X9_foundTwins : GoodIn wsX9_apart wsX9_foundTwins := goodIn_r _ [16, 17, 18, 19, 20, 21, 22, 23, 24, 25, 26, 27, 28, 29, 30, 31, 32, 33, 34, 35, 36, 37, 38, 39, 40, 41, 42, 43, 44, 45, 46, 47, 48, 49, 50, 51, 52, 53, 54, 55, 56, 57, 58, 59, 60, 61, 62, 63, 64, 65, 66, 67, 68, 69, 70, 71, 72, 73, 74, 75, 76, 77, 78, 79, 80, 81, 82, 83, 84, 85, 86, 87, 88, 89, 90, 91, 92, 93, 94, 95, 96, 97, 98, 99, 100, 101, 102, 103, 115, 116, 117, 118, 119, 120, 121, 122, 123, 124, 125, 126, 127, 128, 129, 130, 131, 132, 133, 134, 135, 136, 137, 107, 108, 109, 110, 111, 112, 113, 114] rfl (by decide +kernel)
set_option maxRecDepth 20000 in
theorem gX9_apart_X9_foundTwins : GoodIn wsX9_apart (wsV RX9 196 RX9 yX9_foundTwins wsX9_foundTwins) := goodIn_app (goodIn_r _ [13, 14, 15, 4] rfl (by decide +kernel)) ggX9_apart_X9_foundTwins
set_option maxRecDepth 20000 in
theorem ggX9_apart_X9_isOne : GoodIn wsX9_apart wsX9_isOne := goodIn_r _ [106] rfl (by decide +kernel)
set_option maxRecDepth 20000 in
theorem gX9_apart_X9_isOne : GoodIn wsX9_apart (va_wsS RX9 139 yX9_isOne wsX9_isOne) := goodIn_app (goodIn_of _ (by decide +kernel)) ggX9_apart_X9_isOne
theorem dX9_apart_0 : decode cX9_apart 0 = .ok (.iload_n 1, 1) := by decide +kernel
theorem dX9_apart_1 : decode cX9_apart 1 = .ok (.iconst 1, 1) := by decide +kernel
theorem dX9_apart_2 : decode cX9_apart 2 = .ok (.invokestatic 108, 3) := by decide +kernel
theorem dX9_apart_5 : decode cX9_apart 5 = .ok (.ifCond .ne 10, 3) := by decide +kernel
theorem dX9_apart_8 : decode cX9_apart 8 = .ok (.aload_n 0, 1) := by decide +kernel
theorem dX9_apart_9 : decode cX9_apart 9 = .ok (.bipush (-2), 2) := by decide +kernel
theorem dX9_apart_11 : decode cX9_apart 11 = .ok (.invokevirtual 71, 3) := by decide +kernel
theorem dX9_apart_14 : decode cX9_apart 14 = .ok (.ireturn, 1) := by decide +kernel
theorem dX9_apart_15 : decode cX9_apart 15 = .ok (.aload_n 0, 1) := by decide +kernel
theorem dX9_apart_16 : decode cX9_apart 16 = .ok (.invokevirtual 196, 3) := by decide +kernel
theorem dX9_apart_19 : decode cX9_apart 19 = .ok (.getfield 203, 3) := by decide +kernel
theorem dX9_apart_22 : decode cX9_apart 22 = .ok (.istore_n 2, 1) := by decide +kernel
theorem dX9_apart_23 : decode cX9_apart 23 = .ok (.iload_n 1, 1) := by decide +kernel
theorem dX9_apart_24 : decode cX9_apart 24 = .ok (.ifCond .ne 19, 3) := by decide +kernel
theorem dX9_apart_27 : decode cX9_apart 27 = .ok (.iload_n 2, 1) := by decide +kernel
theorem dX9_apart_28 : decode cX9_apart 28 = .ok (.iconst (-1), 1) := by decide +kernel
theorem dX9_apart_29 : decode cX9_apart 29 = .ok (.if_icmp .eq 7, 3) := by decide +kernel
theorem dX9_apart_32 : decode cX9_apart 32 = .ok (.iconst 1, 1) := by decide +kernel
theorem dX9_apart_33 : decode cX9_apart 33 = .ok (.goto 4, 3) := by decide +kernel
theorem dX9_apart_36 : decode cX9_apart 36 = .ok (.iconst 0, 1) := by decide +kernel
theorem dX9_apart_37 : decode cX9_apart 37 = .ok (.invokestatic 139, 3) := by decide +kernel
theorem dX9_apart_40 : decode cX9_apart 40 = .ok (.goto 4, 3) := by decide +kernel
theorem dX9_apart_43 : decode cX9_apart 43 = .ok (.iload_n 2, 1) := by decide +kernel
theorem dX9_apart_44 : decode cX9_apart 44 = .ok (.ireturn, 1) := by decide +kernel
set_option maxRecDepth 20000 in
theorem ggX9_soonest_X9_isWithin : GoodIn wsX9_soonest wsX9_isWithin := goodIn_r _ [4] rfl (by decide +kernel)
set_option maxRecDepth 20000 in
theorem gX9_soonest_X9_isWithin : GoodIn wsX9_soonest (va_wsS RX9 108 yX9_isWithin wsX9_isWithin) := goodIn_app (goodIn_of _ (by decide +kernel)) ggX9_soonest_X9_isWithin
set_option maxRecDepth 20000 in
theorem ggX9_soonest_X9_refuse : GoodIn wsX9_soonest wsX9_refuse := goodIn_r _ [8, 9, 10, 11, 54, 55, 56, 57, 58, 59, 60, 61, 62, 63, 64, 65, 66, 67, 68] rfl (by decide +kernel)
set_option maxRecDepth 20000 in
theorem gX9_soonest_X9_refuse : GoodIn wsX9_soonest (wsV RX9 71 RX9 yX9_refuse wsX9_refuse) := goodIn_app (goodIn_r _ [5, 6, 7, 3] rfl (by decide +kernel)) ggX9_soonest_X9_refuse
set_option maxRecDepth 20000 in
theorem ggX9_soonest_X9_foundSets : GoodIn wsX9_soonest wsX9_foundSets := goodIn_r _ [15, 16, 17, 18, 19, 20, 21, 22, 23, 24, 25, 26, 27, 28, 29, 30, 31, 32, 33, 34, 35, 36, 37, 38, 39, 40, 41, 42, 43, 44, 45, 46, 47, 54, 55, 56, 57, 58, 59, 60, 61, 62, 63, 64, 65, 66, 67, 68, 69, 70, 71, 72, 73, 74, 75] rfl (by decide +kernel)
set_option maxRecDepth 20000 in
theorem gX9_soonest_X9_foundSets : GoodIn wsX9_soonest (wsV RX9 188 RX9 yX9_foundSets wsX9_foundSets) := goodIn_app (goodIn_r _ [12, 13, 14, 3] rfl (by decide +kernel)) ggX9_soonest_X9_foundSets
set_option maxRecDepth 20000 in
theorem ggX9_soonest_X3_fewestSights : GoodIn wsX9_soonest wsX3_fewestSights := goodIn_r _ [51, 25, 26, 27, 52, 3, 53, 69, 70, 71, 72] rfl (by decide +kernel)
set_option maxRecDepth 20000 in
theorem gX9_soonest_X3_fewestSights : GoodIn wsX9_soonest (wsV RX9 206 RX3 yX3_fewestSights wsX3_fewestSights) := goodIn_app (goodIn_r _ [48, 49, 50, 22] rfl (by decide +kernel)) ggX9_soonest_X3_fewestSights
theorem dX9_soonest_0 : decode cX9_soonest 0 = .ok (.iload_n 1, 1) := by decide +kernel
theorem dX9_soonest_1 : decode cX9_soonest 1 = .ok (.iconst 1, 1) := by decide +kernel
theorem dX9_soonest_2 : decode cX9_soonest 2 = .ok (.invokestatic 108, 3) := by decide +kernel
theorem dX9_soonest_5 : decode cX9_soonest 5 = .ok (.ifCond .ne 10, 3) := by decide +kernel
theorem dX9_soonest_8 : decode cX9_soonest 8 = .ok (.aload_n 0, 1) := by decide +kernel
theorem dX9_soonest_9 : decode cX9_soonest 9 = .ok (.bipush (-2), 2) := by decide +kernel
theorem dX9_soonest_11 : decode cX9_soonest 11 = .ok (.invokevirtual 71, 3) := by decide +kernel
theorem dX9_soonest_14 : decode cX9_soonest 14 = .ok (.ireturn, 1) := by decide +kernel
theorem dX9_soonest_15 : decode cX9_soonest 15 = .ok (.aload_n 0, 1) := by decide +kernel
theorem dX9_soonest_16 : decode cX9_soonest 16 = .ok (.invokevirtual 188, 3) := by decide +kernel
theorem dX9_soonest_19 : decode cX9_soonest 19 = .ok (.iload_n 1, 1) := by decide +kernel
theorem dX9_soonest_20 : decode cX9_soonest 20 = .ok (.ifCond .ne 7, 3) := by decide +kernel
theorem dX9_soonest_23 : decode cX9_soonest 23 = .ok (.iconst 1, 1) := by decide +kernel
theorem dX9_soonest_24 : decode cX9_soonest 24 = .ok (.goto 4, 3) := by decide +kernel
theorem dX9_soonest_27 : decode cX9_soonest 27 = .ok (.iconst 2, 1) := by decide +kernel
theorem dX9_soonest_28 : decode cX9_soonest 28 = .ok (.invokevirtual 206, 3) := by decide +kernel
theorem dX9_soonest_31 : decode cX9_soonest 31 = .ok (.ireturn, 1) := by decide +kernel
set_option maxRecDepth 20000 in
theorem ggX9_enough_X1_eyesFree : GoodIn wsX9_enough wsX1_eyesFree := goodIn_r _ [7, 8, 9, 125, 126, 127, 128, 129, 130] rfl (by decide +kernel)
set_option maxRecDepth 20000 in
theorem gX9_enough_X1_eyesFree : GoodIn wsX9_enough (wsV RX9 209 RX1 yX1_eyesFree wsX1_eyesFree) := goodIn_app (goodIn_r _ [3, 4, 5, 6] rfl (by decide +kernel)) ggX9_enough_X1_eyesFree
set_option maxRecDepth 20000 in
theorem ggX9_enough_X9_refuse : GoodIn wsX9_enough wsX9_refuse := goodIn_r _ [14, 15, 16, 17, 108, 109, 110, 111, 112, 113, 114, 115, 116, 117, 118, 119, 120, 121, 122] rfl (by decide +kernel)
set_option maxRecDepth 20000 in
theorem gX9_enough_X9_refuse : GoodIn wsX9_enough (wsV RX9 71 RX9 yX9_refuse wsX9_refuse) := goodIn_app (goodIn_r _ [10, 11, 12, 13] rfl (by decide +kernel)) ggX9_enough_X9_refuse
set_option maxRecDepth 20000 in
theorem ggX9_enough_X9_areEnough : GoodIn wsX9_enough wsX9_areEnough := goodIn_r _ [21, 22, 1, 2, 23, 24, 25, 26, 27, 28, 29, 30, 31, 32, 33, 34, 35, 36, 37, 38, 39, 40, 41, 42, 43, 44, 45, 46, 47, 48, 49, 50, 51, 6, 52, 9, 53, 54, 55, 56, 57, 58, 59, 60, 61, 62, 63, 64, 65, 66, 67, 68, 69, 70, 71, 72, 73, 74, 75, 76, 77, 78, 79, 80, 81, 82, 83, 84, 85, 86, 87, 88, 89, 90, 91, 92, 93, 94, 95, 96, 97, 98, 99, 100, 101, 102, 103, 104, 108, 109, 110, 111, 112, 113, 114, 115, 116, 117, 118, 119, 120, 121, 122, 123, 124, 125, 126, 127, 128, 129, 130, 131, 132, 133, 134, 135, 136, 137, 138] rfl (by decide +kernel)
set_option maxRecDepth 20000 in
theorem gX9_enough_X9_areEnough : GoodIn wsX9_enough (wsV RX9 212 RX9 yX9_areEnough wsX9_areEnough) := goodIn_app (goodIn_r _ [18, 19, 20, 13] rfl (by decide +kernel)) ggX9_enough_X9_areEnough
set_option maxRecDepth 20000 in
theorem ggX9_enough_X9_isOne : GoodIn wsX9_enough wsX9_isOne := goodIn_r _ [107] rfl (by decide +kernel)
set_option maxRecDepth 20000 in
theorem gX9_enough_X9_isOne : GoodIn wsX9_enough (va_wsS RX9 139 yX9_isOne wsX9_isOne) := goodIn_app (goodIn_of _ (by decide +kernel)) ggX9_enough_X9_isOne
theorem dX9_enough_0 : decode cX9_enough 0 = .ok (.iload_n 1, 1) := by decide +kernel
theorem dX9_enough_1 : decode cX9_enough 1 = .ok (.aload_n 0, 1) := by decide +kernel
theorem dX9_enough_2 : decode cX9_enough 2 = .ok (.getfield 12, 3) := by decide +kernel
theorem dX9_enough_5 : decode cX9_enough 5 = .ok (.getfield 75, 3) := by decide +kernel
theorem dX9_enough_8 : decode cX9_enough 8 = .ok (.invokevirtual 209, 3) := by decide +kernel
theorem dX9_enough_11 : decode cX9_enough 11 = .ok (.iconst (-1), 1) := by decide +kernel
theorem dX9_enough_12 : decode cX9_enough 12 = .ok (.ixor, 1) := by decide +kernel
theorem dX9_enough_13 : decode cX9_enough 13 = .ok (.iand, 1) := by decide +kernel
theorem dX9_enough_14 : decode cX9_enough 14 = .ok (.ifCond .eq 10, 3) := by decide +kernel
theorem dX9_enough_17 : decode cX9_enough 17 = .ok (.aload_n 0, 1) := by decide +kernel
theorem dX9_enough_18 : decode cX9_enough 18 = .ok (.bipush (-2), 2) := by decide +kernel
theorem dX9_enough_20 : decode cX9_enough 20 = .ok (.invokevirtual 71, 3) := by decide +kernel
theorem dX9_enough_23 : decode cX9_enough 23 = .ok (.ireturn, 1) := by decide +kernel
theorem dX9_enough_24 : decode cX9_enough 24 = .ok (.aload_n 0, 1) := by decide +kernel
theorem dX9_enough_25 : decode cX9_enough 25 = .ok (.iload_n 1, 1) := by decide +kernel
theorem dX9_enough_26 : decode cX9_enough 26 = .ok (.invokevirtual 212, 3) := by decide +kernel
theorem dX9_enough_29 : decode cX9_enough 29 = .ok (.invokestatic 139, 3) := by decide +kernel
theorem dX9_enough_32 : decode cX9_enough 32 = .ok (.ireturn, 1) := by decide +kernel
set_option maxRecDepth 20000 in
theorem ggX9_fewest_X9_isWithin : GoodIn wsX9_fewest wsX9_isWithin := goodIn_r _ [6] rfl (by decide +kernel)
set_option maxRecDepth 20000 in
theorem gX9_fewest_X9_isWithin : GoodIn wsX9_fewest (va_wsS RX9 108 yX9_isWithin wsX9_isWithin) := goodIn_app (goodIn_of _ (by decide +kernel)) ggX9_fewest_X9_isWithin
set_option maxRecDepth 20000 in
theorem ggX9_fewest_X9_refuse : GoodIn wsX9_fewest wsX9_refuse := goodIn_r _ [10, 11, 12, 13, 115, 116, 117, 118, 119, 120, 121, 122, 123, 124, 125, 126, 127, 128, 129] rfl (by decide +kernel)
set_option maxRecDepth 20000 in
theorem gX9_fewest_X9_refuse : GoodIn wsX9_fewest (wsV RX9 71 RX9 yX9_refuse wsX9_refuse) := goodIn_app (goodIn_r _ [7, 8, 9, 5] rfl (by decide +kernel)) ggX9_fewest_X9_refuse
set_option maxRecDepth 20000 in
theorem ggX9_fewest_X9_findFewest : GoodIn wsX9_fewest wsX9_findFewest := goodIn_r _ [17, 18, 19, 20, 21, 22, 23, 24, 25, 26, 27, 28, 29, 5, 30, 31, 32, 33, 34, 35, 36, 37, 38, 39, 40, 41, 42, 43, 44, 45, 46, 47, 48, 49, 50, 51, 52, 53, 54, 55, 56, 57, 58, 59, 60, 61, 62, 63, 64, 65, 66, 67, 68, 69, 70, 71, 72, 73, 74, 75, 76, 77, 78, 79, 80, 81, 82, 83, 84, 85, 86, 87, 88, 89, 90, 91, 92, 93, 94, 95, 96, 97, 98, 99, 100, 101, 102, 103, 104, 105, 106, 107, 108, 109, 110, 111, 112, 113, 114, 115, 116, 117, 118, 119, 120, 121, 122, 123, 124, 125, 126, 127, 128, 129, 130, 131, 132, 133, 134, 135, 136, 137, 138, 139, 140, 141, 142, 143, 144, 145] rfl (by decide +kernel)
set_option maxRecDepth 20000 in
theorem gX9_fewest_X9_findFewest : GoodIn wsX9_fewest (wsV RX9 219 RX9 yX9_findFewest wsX9_findFewest) := goodIn_app (goodIn_r _ [14, 15, 16, 5] rfl (by decide +kernel)) ggX9_fewest_X9_findFewest
set_option maxRecDepth 20000 in
theorem ggX9_fewest_J6_bitCount_0f7a4 : GoodIn wsX9_fewest wsJ6_bitCount_0f7a4 := goodIn_r _ [106, 107, 108, 109] rfl (by decide +kernel)
set_option maxRecDepth 20000 in
theorem gX9_fewest_J6_bitCount_0f7a4 : GoodIn wsX9_fewest (va_wsS RX9 171 yJ6_bitCount_0f7a4 wsJ6_bitCount_0f7a4) := goodIn_app (goodIn_of _ (by decide +kernel)) ggX9_fewest_J6_bitCount_0f7a4
theorem dX9_fewest_0 : decode cX9_fewest 0 = .ok (.iload_n 1, 1) := by decide +kernel
theorem dX9_fewest_1 : decode cX9_fewest 1 = .ok (.iconst 1, 1) := by decide +kernel
theorem dX9_fewest_2 : decode cX9_fewest 2 = .ok (.invokestatic 108, 3) := by decide +kernel
theorem dX9_fewest_5 : decode cX9_fewest 5 = .ok (.ifCond .ne 10, 3) := by decide +kernel
theorem dX9_fewest_8 : decode cX9_fewest 8 = .ok (.aload_n 0, 1) := by decide +kernel
theorem dX9_fewest_9 : decode cX9_fewest 9 = .ok (.bipush (-2), 2) := by decide +kernel
theorem dX9_fewest_11 : decode cX9_fewest 11 = .ok (.invokevirtual 71, 3) := by decide +kernel
theorem dX9_fewest_14 : decode cX9_fewest 14 = .ok (.ireturn, 1) := by decide +kernel
theorem dX9_fewest_15 : decode cX9_fewest 15 = .ok (.aload_n 0, 1) := by decide +kernel
theorem dX9_fewest_16 : decode cX9_fewest 16 = .ok (.getfield 215, 3) := by decide +kernel
theorem dX9_fewest_19 : decode cX9_fewest 19 = .ok (.ifCond .ne 16, 3) := by decide +kernel
theorem dX9_fewest_22 : decode cX9_fewest 22 = .ok (.aload_n 0, 1) := by decide +kernel
theorem dX9_fewest_23 : decode cX9_fewest 23 = .ok (.aload_n 0, 1) := by decide +kernel
theorem dX9_fewest_24 : decode cX9_fewest 24 = .ok (.invokevirtual 219, 3) := by decide +kernel
theorem dX9_fewest_27 : decode cX9_fewest 27 = .ok (.putfield 222, 3) := by decide +kernel
theorem dX9_fewest_30 : decode cX9_fewest 30 = .ok (.aload_n 0, 1) := by decide +kernel
theorem dX9_fewest_31 : decode cX9_fewest 31 = .ok (.iconst 1, 1) := by decide +kernel
theorem dX9_fewest_32 : decode cX9_fewest 32 = .ok (.putfield 215, 3) := by decide +kernel
theorem dX9_fewest_35 : decode cX9_fewest 35 = .ok (.iload_n 1, 1) := by decide +kernel
theorem dX9_fewest_36 : decode cX9_fewest 36 = .ok (.ifCond .eq 11, 3) := by decide +kernel
theorem dX9_fewest_39 : decode cX9_fewest 39 = .ok (.aload_n 0, 1) := by decide +kernel
theorem dX9_fewest_40 : decode cX9_fewest 40 = .ok (.getfield 222, 3) := by decide +kernel
theorem dX9_fewest_43 : decode cX9_fewest 43 = .ok (.iconst (-1), 1) := by decide +kernel
theorem dX9_fewest_44 : decode cX9_fewest 44 = .ok (.if_icmp .ne 10, 3) := by decide +kernel
theorem dX9_fewest_47 : decode cX9_fewest 47 = .ok (.aload_n 0, 1) := by decide +kernel
theorem dX9_fewest_48 : decode cX9_fewest 48 = .ok (.getfield 222, 3) := by decide +kernel
theorem dX9_fewest_51 : decode cX9_fewest 51 = .ok (.goto 10, 3) := by decide +kernel
theorem dX9_fewest_54 : decode cX9_fewest 54 = .ok (.aload_n 0, 1) := by decide +kernel
theorem dX9_fewest_55 : decode cX9_fewest 55 = .ok (.getfield 222, 3) := by decide +kernel
theorem dX9_fewest_58 : decode cX9_fewest 58 = .ok (.invokestatic 171, 3) := by decide +kernel
theorem dX9_fewest_61 : decode cX9_fewest 61 = .ok (.ireturn, 1) := by decide +kernel
set_option maxRecDepth 20000 in
theorem ggX9_pair_X9_isWithin : GoodIn wsX9_pair wsX9_isWithin := goodIn_r _ [7] rfl (by decide +kernel)
set_option maxRecDepth 20000 in
theorem gX9_pair_X9_isWithin : GoodIn wsX9_pair (va_wsS RX9 108 yX9_isWithin wsX9_isWithin) := goodIn_app (goodIn_of _ (by decide +kernel)) ggX9_pair_X9_isWithin
set_option maxRecDepth 20000 in
theorem ggX9_pair_X9_isPlace : GoodIn wsX9_pair wsX9_isPlace := goodIn_r _ [10, 4, 5, 6, 7] rfl (by decide +kernel)
set_option maxRecDepth 20000 in
theorem gX9_pair_X9_isPlace : GoodIn wsX9_pair (va_wsS RX9 64 yX9_isPlace wsX9_isPlace) := goodIn_app (goodIn_of _ (by decide +kernel)) ggX9_pair_X9_isPlace
set_option maxRecDepth 20000 in
theorem ggX9_pair_X9_refuse : GoodIn wsX9_pair wsX9_refuse := goodIn_r _ [14, 15, 16, 17, 124, 125, 126, 127, 128, 129, 130, 131, 132, 133, 134, 135, 136, 137, 138] rfl (by decide +kernel)
set_option maxRecDepth 20000 in
theorem gX9_pair_X9_refuse : GoodIn wsX9_pair (wsV RX9 71 RX9 yX9_refuse wsX9_refuse) := goodIn_app (goodIn_r _ [11, 12, 13, 6] rfl (by decide +kernel)) ggX9_pair_X9_refuse
set_option maxRecDepth 20000 in
theorem ggX9_pair_X9_foundTwins : GoodIn wsX9_pair wsX9_foundTwins := goodIn_r _ [21, 22, 23, 2, 3, 24, 25, 26, 27, 28, 29, 30, 31, 32, 33, 34, 35, 36, 37, 38, 39, 40, 41, 42, 43, 44, 45, 46, 47, 48, 49, 50, 51, 52, 53, 54, 55, 56, 57, 58, 59, 60, 61, 62, 63, 64, 65, 66, 67, 68, 69, 70, 71, 72, 73, 74, 75, 76, 77, 78, 79, 80, 81, 82, 83, 84, 85, 86, 87, 88, 89, 90, 91, 92, 93, 94, 95, 96, 97, 98, 99, 100, 101, 102, 103, 104, 105, 106, 124, 125, 126, 127, 128, 129, 130, 131, 132, 133, 134, 135, 136, 137, 138, 139, 140, 141, 142, 143, 144, 145, 146, 116, 117, 118, 119, 120, 121, 122, 123] rfl (by decide +kernel)
set_option maxRecDepth 20000 in
theorem gX9_pair_X9_foundTwins : GoodIn wsX9_pair (wsV RX9 196 RX9 yX9_foundTwins wsX9_foundTwins) := goodIn_app (goodIn_r _ [18, 19, 20, 6] rfl (by decide +kernel)) ggX9_pair_X9_foundTwins
set_option maxRecDepth 20000 in
theorem ggX9_pair_X6_isOfRing : GoodIn wsX9_pair wsX6_isOfRing := goodIn_r _ [110, 87, 36, 111, 92, 60, 61, 62, 63, 103, 104, 105, 28, 106, 41, 44, 42, 43, 79, 80, 81, 82, 30, 59, 112, 113, 114, 115, 116, 117, 118, 119, 120, 121, 122, 123, 141, 142, 143, 144, 145, 146] rfl (by decide +kernel)
set_option maxRecDepth 20000 in
theorem gX9_pair_X6_isOfRing : GoodIn wsX9_pair (wsV RX9 228 RX6 yX6_isOfRing wsX6_isOfRing) := goodIn_app (goodIn_r _ [107, 108, 109, 28] rfl (by decide +kernel)) ggX9_pair_X6_isOfRing
theorem dX9_pair_0 : decode cX9_pair 0 = .ok (.iload_n 1, 1) := by decide +kernel
theorem dX9_pair_1 : decode cX9_pair 1 = .ok (.bipush 19, 2) := by decide +kernel
theorem dX9_pair_3 : decode cX9_pair 3 = .ok (.invokestatic 108, 3) := by decide +kernel
theorem dX9_pair_6 : decode cX9_pair 6 = .ok (.ifCond .eq 10, 3) := by decide +kernel
theorem dX9_pair_9 : decode cX9_pair 9 = .ok (.iload_n 2, 1) := by decide +kernel
theorem dX9_pair_10 : decode cX9_pair 10 = .ok (.invokestatic 64, 3) := by decide +kernel
theorem dX9_pair_13 : decode cX9_pair 13 = .ok (.ifCond .ne 10, 3) := by decide +kernel
theorem dX9_pair_16 : decode cX9_pair 16 = .ok (.aload_n 0, 1) := by decide +kernel
theorem dX9_pair_17 : decode cX9_pair 17 = .ok (.bipush (-2), 2) := by decide +kernel
theorem dX9_pair_19 : decode cX9_pair 19 = .ok (.invokevirtual 71, 3) := by decide +kernel
theorem dX9_pair_22 : decode cX9_pair 22 = .ok (.ireturn, 1) := by decide +kernel
theorem dX9_pair_23 : decode cX9_pair 23 = .ok (.aload_n 0, 1) := by decide +kernel
theorem dX9_pair_24 : decode cX9_pair 24 = .ok (.invokevirtual 196, 3) := by decide +kernel
theorem dX9_pair_27 : decode cX9_pair 27 = .ok (.astore_n 3, 1) := by decide +kernel
theorem dX9_pair_28 : decode cX9_pair 28 = .ok (.aload_n 3, 1) := by decide +kernel
theorem dX9_pair_29 : decode cX9_pair 29 = .ok (.getfield 225, 3) := by decide +kernel
theorem dX9_pair_32 : decode cX9_pair 32 = .ok (.iload_n 1, 1) := by decide +kernel
theorem dX9_pair_33 : decode cX9_pair 33 = .ok (.iaload, 1) := by decide +kernel
theorem dX9_pair_34 : decode cX9_pair 34 = .ok (.iload_n 2, 1) := by decide +kernel
theorem dX9_pair_35 : decode cX9_pair 35 = .ok (.ishr, 1) := by decide +kernel
theorem dX9_pair_36 : decode cX9_pair 36 = .ok (.iconst 1, 1) := by decide +kernel
theorem dX9_pair_37 : decode cX9_pair 37 = .ok (.iand, 1) := by decide +kernel
theorem dX9_pair_38 : decode cX9_pair 38 = .ok (.ifCond .ne 5, 3) := by decide +kernel
theorem dX9_pair_41 : decode cX9_pair 41 = .ok (.iconst 0, 1) := by decide +kernel
theorem dX9_pair_42 : decode cX9_pair 42 = .ok (.ireturn, 1) := by decide +kernel
theorem dX9_pair_43 : decode cX9_pair 43 = .ok (.iload_n 1, 1) := by decide +kernel
theorem dX9_pair_44 : decode cX9_pair 44 = .ok (.bipush 10, 2) := by decide +kernel
theorem dX9_pair_46 : decode cX9_pair 46 = .ok (.if_icmp .lt 26, 3) := by decide +kernel
theorem dX9_pair_49 : decode cX9_pair 49 = .ok (.aload_n 3, 1) := by decide +kernel
theorem dX9_pair_50 : decode cX9_pair 50 = .ok (.aload_n 0, 1) := by decide +kernel
theorem dX9_pair_51 : decode cX9_pair 51 = .ok (.getfield 12, 3) := by decide +kernel
theorem dX9_pair_54 : decode cX9_pair 54 = .ok (.getfield 75, 3) := by decide +kernel
theorem dX9_pair_57 : decode cX9_pair 57 = .ok (.iload_n 1, 1) := by decide +kernel
theorem dX9_pair_58 : decode cX9_pair 58 = .ok (.bipush 10, 2) := by decide +kernel
theorem dX9_pair_60 : decode cX9_pair 60 = .ok (.isub, 1) := by decide +kernel
theorem dX9_pair_61 : decode cX9_pair 61 = .ok (.iload_n 2, 1) := by decide +kernel
theorem dX9_pair_62 : decode cX9_pair 62 = .ok (.invokevirtual 228, 3) := by decide +kernel
theorem dX9_pair_65 : decode cX9_pair 65 = .ok (.ifCond .eq 7, 3) := by decide +kernel
theorem dX9_pair_68 : decode cX9_pair 68 = .ok (.iconst 2, 1) := by decide +kernel
theorem dX9_pair_69 : decode cX9_pair 69 = .ok (.goto 4, 3) := by decide +kernel
theorem dX9_pair_72 : decode cX9_pair 72 = .ok (.iconst 1, 1) := by decide +kernel
theorem dX9_pair_73 : decode cX9_pair 73 = .ok (.ireturn, 1) := by decide +kernel
set_option maxRecDepth 20000 in
theorem ggX9_type_X9_isWithin : GoodIn wsX9_type wsX9_isWithin := goodIn_r _ [7] rfl (by decide +kernel)
set_option maxRecDepth 20000 in
theorem gX9_type_X9_isWithin : GoodIn wsX9_type (va_wsS RX9 108 yX9_isWithin wsX9_isWithin) := goodIn_app (goodIn_of _ (by decide +kernel)) ggX9_type_X9_isWithin
set_option maxRecDepth 20000 in
theorem ggX9_type_X9_refuse : GoodIn wsX9_type wsX9_refuse := goodIn_r _ [11, 12, 13, 14, 15, 16, 17, 18, 19, 20, 21, 22, 23, 24, 25, 26, 27, 28, 29] rfl (by decide +kernel)
set_option maxRecDepth 20000 in
theorem gX9_type_X9_refuse : GoodIn wsX9_type (wsV RX9 71 RX9 yX9_refuse wsX9_refuse) := goodIn_app (goodIn_r _ [8, 9, 10, 6] rfl (by decide +kernel)) ggX9_type_X9_refuse
theorem dX9_type_0 : decode cX9_type 0 = .ok (.iload_n 1, 1) := by decide +kernel
theorem dX9_type_1 : decode cX9_type 1 = .ok (.bipush 127, 2) := by decide +kernel
theorem dX9_type_3 : decode cX9_type 3 = .ok (.invokestatic 108, 3) := by decide +kernel
theorem dX9_type_6 : decode cX9_type 6 = .ok (.ifCond .ne 10, 3) := by decide +kernel
theorem dX9_type_9 : decode cX9_type 9 = .ok (.aload_n 0, 1) := by decide +kernel
theorem dX9_type_10 : decode cX9_type 10 = .ok (.bipush (-2), 2) := by decide +kernel
theorem dX9_type_12 : decode cX9_type 12 = .ok (.invokevirtual 71, 3) := by decide +kernel
theorem dX9_type_15 : decode cX9_type 15 = .ok (.ireturn, 1) := by decide +kernel
theorem dX9_type_16 : decode cX9_type 16 = .ok (.aload_n 0, 1) := by decide +kernel
theorem dX9_type_17 : decode cX9_type 17 = .ok (.getfield 50, 3) := by decide +kernel
theorem dX9_type_20 : decode cX9_type 20 = .ok (.getfield 232, 3) := by decide +kernel
theorem dX9_type_23 : decode cX9_type 23 = .ok (.bipush 120, 2) := by decide +kernel
theorem dX9_type_25 : decode cX9_type 25 = .ok (.if_icmp .lt 10, 3) := by decide +kernel
theorem dX9_type_28 : decode cX9_type 28 = .ok (.aload_n 0, 1) := by decide +kernel
theorem dX9_type_29 : decode cX9_type 29 = .ok (.bipush (-4), 2) := by decide +kernel
theorem dX9_type_31 : decode cX9_type 31 = .ok (.invokevirtual 71, 3) := by decide +kernel
theorem dX9_type_34 : decode cX9_type 34 = .ok (.ireturn, 1) := by decide +kernel
theorem dX9_type_35 : decode cX9_type 35 = .ok (.aload_n 0, 1) := by decide +kernel
theorem dX9_type_36 : decode cX9_type 36 = .ok (.getfield 50, 3) := by decide +kernel
theorem dX9_type_39 : decode cX9_type 39 = .ok (.getfield 235, 3) := by decide +kernel
theorem dX9_type_42 : decode cX9_type 42 = .ok (.aload_n 0, 1) := by decide +kernel
theorem dX9_type_43 : decode cX9_type 43 = .ok (.getfield 50, 3) := by decide +kernel
theorem dX9_type_46 : decode cX9_type 46 = .ok (.getfield 232, 3) := by decide +kernel
theorem dX9_type_49 : decode cX9_type 49 = .ok (.iload_n 1, 1) := by decide +kernel
theorem dX9_type_50 : decode cX9_type 50 = .ok (.i2b, 1) := by decide +kernel
theorem dX9_type_51 : decode cX9_type 51 = .ok (.bastore, 1) := by decide +kernel
theorem dX9_type_52 : decode cX9_type 52 = .ok (.aload_n 0, 1) := by decide +kernel
theorem dX9_type_53 : decode cX9_type 53 = .ok (.getfield 50, 3) := by decide +kernel
theorem dX9_type_56 : decode cX9_type 56 = .ok (.dup, 1) := by decide +kernel
theorem dX9_type_57 : decode cX9_type 57 = .ok (.getfield 232, 3) := by decide +kernel
theorem dX9_type_60 : decode cX9_type 60 = .ok (.iconst 1, 1) := by decide +kernel
theorem dX9_type_61 : decode cX9_type 61 = .ok (.iadd, 1) := by decide +kernel
theorem dX9_type_62 : decode cX9_type 62 = .ok (.putfield 232, 3) := by decide +kernel
theorem dX9_type_65 : decode cX9_type 65 = .ok (.aload_n 0, 1) := by decide +kernel
theorem dX9_type_66 : decode cX9_type 66 = .ok (.getfield 50, 3) := by decide +kernel
theorem dX9_type_69 : decode cX9_type 69 = .ok (.getfield 232, 3) := by decide +kernel
theorem dX9_type_72 : decode cX9_type 72 = .ok (.ireturn, 1) := by decide +kernel
theorem dX9_clear_0 : decode cX9_clear 0 = .ok (.aload_n 0, 1) := by decide +kernel
theorem dX9_clear_1 : decode cX9_clear 1 = .ok (.getfield 50, 3) := by decide +kernel
theorem dX9_clear_4 : decode cX9_clear 4 = .ok (.getfield 232, 3) := by decide +kernel
theorem dX9_clear_7 : decode cX9_clear 7 = .ok (.istore_n 1, 1) := by decide +kernel
theorem dX9_clear_8 : decode cX9_clear 8 = .ok (.aload_n 0, 1) := by decide +kernel
theorem dX9_clear_9 : decode cX9_clear 9 = .ok (.getfield 50, 3) := by decide +kernel
theorem dX9_clear_12 : decode cX9_clear 12 = .ok (.iconst 0, 1) := by decide +kernel
theorem dX9_clear_13 : decode cX9_clear 13 = .ok (.putfield 232, 3) := by decide +kernel
theorem dX9_clear_16 : decode cX9_clear 16 = .ok (.iload_n 1, 1) := by decide +kernel
theorem dX9_clear_17 : decode cX9_clear 17 = .ok (.ireturn, 1) := by decide +kernel
set_option maxRecDepth 20000 in
theorem ggX9_reads_X2_follow : GoodIn wsX9_reads wsX2_follow := goodIn_r _ [11, 12, 13, 14, 15, 16, 17, 18, 19, 20, 21, 22, 23, 24, 25, 26, 27, 28, 29, 30, 31, 32, 33, 34, 10, 35, 36, 37, 38, 39, 40, 41, 42, 43, 44, 45, 46, 47, 48, 49, 50, 51, 52, 53, 54, 55, 56, 57, 58, 59, 60, 61, 62, 63, 64, 65, 66, 67, 68, 69, 70, 71, 72, 73, 74, 75, 76, 77, 78, 79, 80, 189, 190, 191, 192, 193, 194, 195, 196, 197, 198, 199, 200, 201, 202, 203] rfl (by decide +kernel)
set_option maxRecDepth 20000 in
theorem gX9_reads_X2_follow : GoodIn wsX9_reads (wsV RX9 239 RX2 yX2_follow wsX2_follow) := goodIn_app (goodIn_r _ [7, 8, 9, 10] rfl (by decide +kernel)) ggX9_reads_X2_follow
set_option maxRecDepth 20000 in
theorem ggX9_reads_X0_keep : GoodIn wsX9_reads wsX0_keep := goodIn_r _ [85, 86, 87, 88, 89, 90, 91, 92, 93, 94, 95, 96, 97, 98, 99, 100, 18, 19, 20, 21, 22, 23, 24, 25, 26, 27, 28, 29, 30, 31, 101, 102, 103, 104, 105, 106, 107, 108, 109, 204, 205, 206, 187, 188, 198, 199, 200, 201, 202, 203, 207, 208, 209] rfl (by decide +kernel)
set_option maxRecDepth 20000 in
theorem gX9_reads_X0_keep : GoodIn wsX9_reads (wsV RX9 89 RX0 yX0_keep wsX0_keep) := goodIn_app (goodIn_r _ [81, 82, 83, 84] rfl (by decide +kernel)) ggX9_reads_X0_keep
set_option maxRecDepth 20000 in
theorem ggX9_reads_X1_take : GoodIn wsX9_reads wsX1_take := goodIn_r _ [21, 22, 23, 24, 25, 26, 27, 28, 29, 30, 31, 198, 199, 200, 201, 202, 203] rfl (by decide +kernel)
set_option maxRecDepth 20000 in
theorem gX9_reads_X1_take : GoodIn wsX9_reads (wsV RX9 246 RX1 yX1_take wsX1_take) := goodIn_app (goodIn_r _ [110, 18, 19, 20] rfl (by decide +kernel)) ggX9_reads_X1_take
set_option maxRecDepth 20000 in
theorem ggX9_reads_X9_beginAnew : GoodIn wsX9_reads wsX9_beginAnew := goodIn_r _ [115, 3, 116, 117, 118, 119, 120, 114, 121, 4, 122, 123, 124, 125, 126, 127, 128, 129, 130, 131, 132, 133, 134, 135, 136, 137, 138, 139, 140, 141, 142, 143, 144, 20, 145, 30, 146, 147, 148, 149, 31, 27, 28, 150, 151, 152, 153, 154, 155, 156, 157, 158, 159, 160, 161, 162, 163, 164, 165, 166, 167, 168, 169, 170, 104, 171, 108, 109, 172, 173, 174, 175, 176, 177, 178, 179, 180, 181, 182, 183, 184, 185, 186, 187, 188, 210, 211, 212, 198, 199, 200, 201, 202, 203, 207, 208, 209] rfl (by decide +kernel)
set_option maxRecDepth 20000 in
theorem gX9_reads_X9_beginAnew : GoodIn wsX9_reads (wsV RX9 61 RX9 yX9_beginAnew wsX9_beginAnew) := goodIn_app (goodIn_r _ [111, 112, 113, 114] rfl (by decide +kernel)) ggX9_reads_X9_beginAnew
theorem dX9_reads_0 : decode cX9_reads 0 = .ok (.aload_n 0, 1) := by decide +kernel
theorem dX9_reads_1 : decode cX9_reads 1 = .ok (.getfield 57, 3) := by decide +kernel
theorem dX9_reads_4 : decode cX9_reads 4 = .ok (.aload_n 0, 1) := by decide +kernel
theorem dX9_reads_5 : decode cX9_reads 5 = .ok (.getfield 50, 3) := by decide +kernel
theorem dX9_reads_8 : decode cX9_reads 8 = .ok (.aload_n 0, 1) := by decide +kernel
theorem dX9_reads_9 : decode cX9_reads 9 = .ok (.getfield 12, 3) := by decide +kernel
theorem dX9_reads_12 : decode cX9_reads 12 = .ok (.getfield 75, 3) := by decide +kernel
theorem dX9_reads_15 : decode cX9_reads 15 = .ok (.invokevirtual 239, 3) := by decide +kernel
theorem dX9_reads_18 : decode cX9_reads 18 = .ok (.istore_n 1, 1) := by decide +kernel
theorem dX9_reads_19 : decode cX9_reads 19 = .ok (.iload_n 1, 1) := by decide +kernel
theorem dX9_reads_20 : decode cX9_reads 20 = .ok (.ifCond .ge 5, 3) := by decide +kernel
theorem dX9_reads_23 : decode cX9_reads 23 = .ok (.iload_n 1, 1) := by decide +kernel
theorem dX9_reads_24 : decode cX9_reads 24 = .ok (.ireturn, 1) := by decide +kernel
theorem dX9_reads_25 : decode cX9_reads 25 = .ok (.aload_n 0, 1) := by decide +kernel
theorem dX9_reads_26 : decode cX9_reads 26 = .ok (.getfield 19, 3) := by decide +kernel
theorem dX9_reads_29 : decode cX9_reads 29 = .ok (.aload_n 0, 1) := by decide +kernel
theorem dX9_reads_30 : decode cX9_reads 30 = .ok (.getfield 12, 3) := by decide +kernel
theorem dX9_reads_33 : decode cX9_reads 33 = .ok (.invokevirtual 89, 3) := by decide +kernel
theorem dX9_reads_36 : decode cX9_reads 36 = .ok (.aload_n 0, 1) := by decide +kernel
theorem dX9_reads_37 : decode cX9_reads 37 = .ok (.getfield 12, 3) := by decide +kernel
theorem dX9_reads_40 : decode cX9_reads 40 = .ok (.getfield 75, 3) := by decide +kernel
theorem dX9_reads_43 : decode cX9_reads 43 = .ok (.aload_n 0, 1) := by decide +kernel
theorem dX9_reads_44 : decode cX9_reads 44 = .ok (.getfield 57, 3) := by decide +kernel
theorem dX9_reads_47 : decode cX9_reads 47 = .ok (.getfield 243, 3) := by decide +kernel
theorem dX9_reads_50 : decode cX9_reads 50 = .ok (.invokevirtual 246, 3) := by decide +kernel
theorem dX9_reads_53 : decode cX9_reads 53 = .ok (.aload_n 0, 1) := by decide +kernel
theorem dX9_reads_54 : decode cX9_reads 54 = .ok (.invokevirtual 61, 3) := by decide +kernel
theorem dX9_reads_57 : decode cX9_reads 57 = .ok (.iload_n 1, 1) := by decide +kernel
theorem dX9_reads_58 : decode cX9_reads 58 = .ok (.ireturn, 1) := by decide +kernel
set_option maxRecDepth 20000 in
theorem ggX9_back_X9_refuse : GoodIn wsX9_back wsX9_refuse := goodIn_r _ [8, 9, 10, 11, 99, 100, 101, 102, 103, 104, 105, 106, 107, 108, 109, 110, 111, 112, 113] rfl (by decide +kernel)
set_option maxRecDepth 20000 in
theorem gX9_back_X9_refuse : GoodIn wsX9_back (wsV RX9 71 RX9 yX9_refuse wsX9_refuse) := goodIn_app (goodIn_r _ [4, 5, 6, 7] rfl (by decide +kernel)) ggX9_back_X9_refuse
set_option maxRecDepth 20000 in
theorem ggX9_back_X0_giveBack : GoodIn wsX9_back wsX0_giveBack := goodIn_r _ [16, 17, 18, 19, 20, 21, 22, 23, 24, 25, 26, 27, 28, 29, 30, 31, 32, 33, 34, 35, 36, 37, 38, 39, 40, 41, 42, 43, 44, 45, 46, 47, 48, 49, 50, 114, 115, 116, 117, 118, 119, 120, 121, 122, 123, 124, 125, 126, 127] rfl (by decide +kernel)
set_option maxRecDepth 20000 in
theorem gX9_back_X0_giveBack : GoodIn wsX9_back (wsV RX9 251 RX0 yX0_giveBack wsX0_giveBack) := goodIn_app (goodIn_r _ [12, 13, 14, 15] rfl (by decide +kernel)) ggX9_back_X0_giveBack
set_option maxRecDepth 20000 in
theorem ggX9_back_X9_lookAnew : GoodIn wsX9_back wsX9_lookAnew := goodIn_r _ [54, 55, 3, 56, 57, 58, 59, 60, 61, 62, 63, 64, 65, 66, 67, 68, 69, 70, 71, 72, 73, 74, 75, 76, 77, 78, 79, 30, 80, 40, 81, 82, 83, 84, 41, 37, 38, 85, 86, 87, 88, 89, 90, 91, 92, 93, 94, 95, 96, 97, 98, 99, 100, 101, 102, 103, 104, 105, 106, 107, 108, 109, 110, 111, 112, 113, 117, 118, 128, 129, 130, 119, 120, 121, 122, 123, 124] rfl (by decide +kernel)
set_option maxRecDepth 20000 in
theorem gX9_back_X9_lookAnew : GoodIn wsX9_back (wsV RX9 254 RX9 yX9_lookAnew wsX9_lookAnew) := goodIn_app (goodIn_r _ [51, 52, 53, 7] rfl (by decide +kernel)) ggX9_back_X9_lookAnew
theorem dX9_back_0 : decode cX9_back 0 = .ok (.aload_n 0, 1) := by decide +kernel
theorem dX9_back_1 : decode cX9_back 1 = .ok (.getfield 19, 3) := by decide +kernel
theorem dX9_back_4 : decode cX9_back 4 = .ok (.getfield 250, 3) := by decide +kernel
theorem dX9_back_7 : decode cX9_back 7 = .ok (.ifCond .ne 10, 3) := by decide +kernel
theorem dX9_back_10 : decode cX9_back 10 = .ok (.aload_n 0, 1) := by decide +kernel
theorem dX9_back_11 : decode cX9_back 11 = .ok (.bipush (-3), 2) := by decide +kernel
theorem dX9_back_13 : decode cX9_back 13 = .ok (.invokevirtual 71, 3) := by decide +kernel
theorem dX9_back_16 : decode cX9_back 16 = .ok (.ireturn, 1) := by decide +kernel
theorem dX9_back_17 : decode cX9_back 17 = .ok (.aload_n 0, 1) := by decide +kernel
theorem dX9_back_18 : decode cX9_back 18 = .ok (.getfield 19, 3) := by decide +kernel
theorem dX9_back_21 : decode cX9_back 21 = .ok (.aload_n 0, 1) := by decide +kernel
theorem dX9_back_22 : decode cX9_back 22 = .ok (.getfield 12, 3) := by decide +kernel
theorem dX9_back_25 : decode cX9_back 25 = .ok (.invokevirtual 251, 3) := by decide +kernel
theorem dX9_back_28 : decode cX9_back 28 = .ok (.aload_n 0, 1) := by decide +kernel
theorem dX9_back_29 : decode cX9_back 29 = .ok (.invokevirtual 254, 3) := by decide +kernel
theorem dX9_back_32 : decode cX9_back 32 = .ok (.aload_n 0, 1) := by decide +kernel
theorem dX9_back_33 : decode cX9_back 33 = .ok (.getfield 19, 3) := by decide +kernel
theorem dX9_back_36 : decode cX9_back 36 = .ok (.getfield 250, 3) := by decide +kernel
theorem dX9_back_39 : decode cX9_back 39 = .ok (.ireturn, 1) := by decide +kernel
set_option maxRecDepth 20000 in
theorem ggX9_told_X9_isWithin : GoodIn wsX9_told wsX9_isWithin := goodIn_r _ [16] rfl (by decide +kernel)
set_option maxRecDepth 20000 in
theorem gX9_told_X9_isWithin : GoodIn wsX9_told (va_wsS RX9 108 yX9_isWithin wsX9_isWithin) := goodIn_app (goodIn_of _ (by decide +kernel)) ggX9_told_X9_isWithin
set_option maxRecDepth 20000 in
theorem ggX9_told_X9_refuse : GoodIn wsX9_told wsX9_refuse := goodIn_r _ [20, 1, 2, 3, 21, 22, 23, 24, 25, 26, 27, 28, 29, 30, 31, 32, 33, 34, 35] rfl (by decide +kernel)
set_option maxRecDepth 20000 in
theorem gX9_told_X9_refuse : GoodIn wsX9_told (wsV RX9 71 RX9 yX9_refuse wsX9_refuse) := goodIn_app (goodIn_r _ [17, 18, 19, 15] rfl (by decide +kernel)) ggX9_told_X9_refuse
theorem dX9_told_0 : decode cX9_told 0 = .ok (.iload_n 1, 1) := by decide +kernel
theorem dX9_told_1 : decode cX9_told 1 = .ok (.bipush 7, 2) := by decide +kernel
theorem dX9_told_3 : decode cX9_told 3 = .ok (.invokestatic 108, 3) := by decide +kernel
theorem dX9_told_6 : decode cX9_told 6 = .ok (.ifCond .ne 10, 3) := by decide +kernel
theorem dX9_told_9 : decode cX9_told 9 = .ok (.aload_n 0, 1) := by decide +kernel
theorem dX9_told_10 : decode cX9_told 10 = .ok (.bipush (-2), 2) := by decide +kernel
theorem dX9_told_12 : decode cX9_told 12 = .ok (.invokevirtual 71, 3) := by decide +kernel
theorem dX9_told_15 : decode cX9_told 15 = .ok (.ireturn, 1) := by decide +kernel
theorem dX9_told_16 : decode cX9_told 16 = .ok (.iload_n 1, 1) := by decide +kernel
theorem dX9_told_17 : decode cX9_told 17 = .ok (.tableswitch 99 0 6 #[43, 48, 53, 58, 66, 77, 88], 43) := by decide +kernel
theorem dX9_told_60 : decode cX9_told 60 = .ok (.aload_n 0, 1) := by decide +kernel
theorem dX9_told_61 : decode cX9_told 61 = .ok (.getfield 257, 3) := by decide +kernel
theorem dX9_told_64 : decode cX9_told 64 = .ok (.ireturn, 1) := by decide +kernel
theorem dX9_told_65 : decode cX9_told 65 = .ok (.aload_n 0, 1) := by decide +kernel
theorem dX9_told_66 : decode cX9_told 66 = .ok (.getfield 260, 3) := by decide +kernel
theorem dX9_told_69 : decode cX9_told 69 = .ok (.ireturn, 1) := by decide +kernel
theorem dX9_told_70 : decode cX9_told 70 = .ok (.aload_n 0, 1) := by decide +kernel
theorem dX9_told_71 : decode cX9_told 71 = .ok (.getfield 263, 3) := by decide +kernel
theorem dX9_told_74 : decode cX9_told 74 = .ok (.ireturn, 1) := by decide +kernel
theorem dX9_told_75 : decode cX9_told 75 = .ok (.aload_n 0, 1) := by decide +kernel
theorem dX9_told_76 : decode cX9_told 76 = .ok (.getfield 50, 3) := by decide +kernel
theorem dX9_told_79 : decode cX9_told 79 = .ok (.getfield 232, 3) := by decide +kernel
theorem dX9_told_82 : decode cX9_told 82 = .ok (.ireturn, 1) := by decide +kernel
theorem dX9_told_83 : decode cX9_told 83 = .ok (.aload_n 0, 1) := by decide +kernel
theorem dX9_told_84 : decode cX9_told 84 = .ok (.getfield 12, 3) := by decide +kernel
theorem dX9_told_87 : decode cX9_told 87 = .ok (.getfield 75, 3) := by decide +kernel
theorem dX9_told_90 : decode cX9_told 90 = .ok (.getfield 97, 3) := by decide +kernel
theorem dX9_told_93 : decode cX9_told 93 = .ok (.ireturn, 1) := by decide +kernel
theorem dX9_told_94 : decode cX9_told 94 = .ok (.aload_n 0, 1) := by decide +kernel
theorem dX9_told_95 : decode cX9_told 95 = .ok (.getfield 12, 3) := by decide +kernel
theorem dX9_told_98 : decode cX9_told 98 = .ok (.getfield 75, 3) := by decide +kernel
theorem dX9_told_101 : decode cX9_told 101 = .ok (.getfield 112, 3) := by decide +kernel
theorem dX9_told_104 : decode cX9_told 104 = .ok (.ireturn, 1) := by decide +kernel
theorem dX9_told_105 : decode cX9_told 105 = .ok (.aload_n 0, 1) := by decide +kernel
theorem dX9_told_106 : decode cX9_told 106 = .ok (.getfield 12, 3) := by decide +kernel
theorem dX9_told_109 : decode cX9_told 109 = .ok (.getfield 75, 3) := by decide +kernel
theorem dX9_told_112 : decode cX9_told 112 = .ok (.getfield 115, 3) := by decide +kernel
theorem dX9_told_115 : decode cX9_told 115 = .ok (.ireturn, 1) := by decide +kernel
theorem dX9_told_116 : decode cX9_told 116 = .ok (.aload_n 0, 1) := by decide +kernel
theorem dX9_told_117 : decode cX9_told 117 = .ok (.getfield 19, 3) := by decide +kernel
theorem dX9_told_120 : decode cX9_told 120 = .ok (.getfield 250, 3) := by decide +kernel
theorem dX9_told_123 : decode cX9_told 123 = .ok (.ireturn, 1) := by decide +kernel
set_option maxRecDepth 20000 in
theorem ggX9_digest_X9_told : GoodIn wsX9_digest wsX9_told := goodIn_r _ [10, 11, 12, 13, 14, 15, 3, 4, 5, 16, 17, 18, 19, 20, 21, 9, 22, 23, 24, 25, 26, 208, 209, 210, 211, 212, 213, 214, 215, 216, 217, 218, 219, 220, 221, 222, 231, 232, 223, 224, 225, 226, 227, 228, 229, 230, 233, 234, 235] rfl (by decide +kernel)
set_option maxRecDepth 20000 in
theorem gX9_digest_X9_told : GoodIn wsX9_digest (wsV RX9 270 RX9 yX9_told wsX9_told) := goodIn_app (goodIn_r _ [6, 7, 8, 9] rfl (by decide +kernel)) ggX9_digest_X9_told
set_option maxRecDepth 20000 in
theorem ggX9_digest_X9_of : GoodIn wsX9_digest wsX9_of := goodIn_r _ [30, 3, 4, 31, 32, 33, 34, 35, 36, 37, 38, 9, 39, 5, 20, 21, 22, 23, 24, 25, 26, 11, 12, 13, 40, 41, 42, 43, 44, 45, 208, 209, 210, 211, 212, 213, 214, 215, 216, 217, 218, 219, 220, 221, 222, 223, 224, 225, 226, 227, 228, 229, 230, 236, 237, 238] rfl (by decide +kernel)
set_option maxRecDepth 20000 in
theorem gX9_digest_X9_of : GoodIn wsX9_digest (wsV RX9 273 RX9 yX9_of wsX9_of) := goodIn_app (goodIn_r _ [27, 28, 29, 9] rfl (by decide +kernel)) ggX9_digest_X9_of
set_option maxRecDepth 20000 in
theorem ggX9_digest_X9_known : GoodIn wsX9_digest wsX9_known := goodIn_r _ [49, 3, 50, 51, 34, 20, 21, 9, 22, 23, 24, 25, 26, 11, 12, 13, 52, 53, 54, 55, 56, 57, 58, 59, 60, 61, 62, 63, 64, 65, 66, 67, 68, 69, 70, 71, 72, 73, 74, 75, 4, 5, 32, 31, 76, 77, 78, 79, 80, 81, 40, 41, 42, 43, 44, 45, 208, 209, 210, 211, 212, 213, 214, 215, 216, 217, 218, 219, 220, 221, 222, 223, 224, 239, 240, 241, 236, 237, 238, 225, 226, 227, 228, 229, 230] rfl (by decide +kernel)
set_option maxRecDepth 20000 in
theorem gX9_digest_X9_known : GoodIn wsX9_digest (wsV RX9 276 RX9 yX9_known wsX9_known) := goodIn_app (goodIn_r _ [46, 47, 48, 9] rfl (by decide +kernel)) ggX9_digest_X9_known
set_option maxRecDepth 20000 in
theorem ggX9_digest_X9_all : GoodIn wsX9_digest wsX9_all := goodIn_r _ [85, 34, 35, 86, 20, 21, 9, 22, 23, 24, 25, 26, 11, 12, 13, 87, 88, 89, 90, 91, 92, 93, 94, 95, 96, 97, 98, 99, 100, 101, 102, 103, 104, 105, 106, 107, 108, 65, 109, 110, 111, 112, 113, 114, 115, 116, 68, 69, 70, 71, 117, 118, 119, 120, 53, 54, 121, 122, 123, 124, 125, 126, 3, 4, 16, 127, 128, 129, 130, 131, 132, 133, 134, 135, 136, 137, 138, 139, 140, 141, 142, 143, 144, 145, 146, 147, 148, 149, 150, 151, 152, 153, 79, 154, 155, 156, 157, 158, 159, 160, 161, 162, 163, 164, 165, 166, 167, 168, 169, 170, 171, 172, 173, 174, 175, 176, 177, 178, 179, 180, 181, 182, 183, 184, 185, 186, 187, 188, 189, 190, 191, 192, 193, 194, 56, 57, 58, 59, 60, 61, 195, 196, 197, 198, 199, 200, 201, 202, 208, 209, 210, 211, 212, 213, 214, 215, 216, 217, 218, 219, 220, 221, 222, 236, 237, 238, 242, 243, 244, 245, 223, 224, 225, 226, 227, 228, 229, 230, 246, 247, 248, 249, 250, 251, 252, 253] rfl (by decide +kernel)
set_option maxRecDepth 20000 in
theorem gX9_digest_X9_all : GoodIn wsX9_digest (wsV RX9 279 RX9 yX9_all wsX9_all) := goodIn_app (goodIn_r _ [82, 83, 84, 9] rfl (by decide +kernel)) ggX9_digest_X9_all
set_option maxRecDepth 20000 in
theorem ggX9_digest_X9_apart : GoodIn wsX9_digest wsX9_apart := goodIn_r _ [206, 207, 20, 21, 9, 22, 23, 24, 25, 26, 11, 12, 13, 121, 122, 123, 124, 125, 126, 3, 4, 16, 127, 128, 129, 130, 131, 132, 133, 134, 135, 136, 137, 138, 139, 140, 141, 142, 143, 144, 145, 146, 147, 148, 149, 150, 151, 152, 153, 79, 154, 155, 156, 157, 158, 159, 160, 161, 103, 104, 105, 162, 163, 164, 165, 166, 167, 168, 169, 170, 171, 172, 173, 174, 175, 176, 177, 178, 179, 180, 181, 182, 183, 184, 185, 186, 187, 188, 189, 190, 191, 192, 193, 194, 56, 57, 58, 59, 60, 61, 195, 196, 197, 198, 43, 44, 45, 246, 247, 248, 249, 250, 251, 252, 253, 208, 209, 210, 211, 212, 213, 214, 215, 216, 217, 218, 219, 220, 221, 222, 223, 224, 225, 226, 227, 228, 229, 230] rfl (by decide +kernel)
set_option maxRecDepth 20000 in
theorem gX9_digest_X9_apart : GoodIn wsX9_digest (wsV RX9 282 RX9 yX9_apart wsX9_apart) := goodIn_app (goodIn_r _ [203, 204, 205, 9] rfl (by decide +kernel)) ggX9_digest_X9_apart
theorem dX9_digest_0 : decode cX9_digest 0 = .ok (.ldc2_w 266, 3) := by decide +kernel
theorem dX9_digest_3 : decode cX9_digest 3 = .ok (.lstore_n 1, 1) := by decide +kernel
theorem dX9_digest_4 : decode cX9_digest 4 = .ok (.iconst 0, 1) := by decide +kernel
theorem dX9_digest_5 : decode cX9_digest 5 = .ok (.istore_n 3, 1) := by decide +kernel
theorem dX9_digest_6 : decode cX9_digest 6 = .ok (.iload_n 3, 1) := by decide +kernel
theorem dX9_digest_7 : decode cX9_digest 7 = .ok (.bipush 7, 2) := by decide +kernel
theorem dX9_digest_9 : decode cX9_digest 9 = .ok (.if_icmp .gt 22, 3) := by decide +kernel
theorem dX9_digest_12 : decode cX9_digest 12 = .ok (.ldc2_w 268, 3) := by decide +kernel
theorem dX9_digest_15 : decode cX9_digest 15 = .ok (.lload_n 1, 1) := by decide +kernel
theorem dX9_digest_16 : decode cX9_digest 16 = .ok (.lmul, 1) := by decide +kernel
theorem dX9_digest_17 : decode cX9_digest 17 = .ok (.aload_n 0, 1) := by decide +kernel
theorem dX9_digest_18 : decode cX9_digest 18 = .ok (.iload_n 3, 1) := by decide +kernel
theorem dX9_digest_19 : decode cX9_digest 19 = .ok (.invokevirtual 270, 3) := by decide +kernel
theorem dX9_digest_22 : decode cX9_digest 22 = .ok (.i2l, 1) := by decide +kernel
theorem dX9_digest_23 : decode cX9_digest 23 = .ok (.ladd, 1) := by decide +kernel
theorem dX9_digest_24 : decode cX9_digest 24 = .ok (.lstore_n 1, 1) := by decide +kernel
theorem dX9_digest_25 : decode cX9_digest 25 = .ok (.iinc 3 1, 3) := by decide +kernel
theorem dX9_digest_28 : decode cX9_digest 28 = .ok (.goto (-22), 3) := by decide +kernel
theorem dX9_digest_31 : decode cX9_digest 31 = .ok (.iconst 0, 1) := by decide +kernel
theorem dX9_digest_32 : decode cX9_digest 32 = .ok (.istore_n 3, 1) := by decide +kernel
theorem dX9_digest_33 : decode cX9_digest 33 = .ok (.iload_n 3, 1) := by decide +kernel
theorem dX9_digest_34 : decode cX9_digest 34 = .ok (.aload_n 0, 1) := by decide +kernel
theorem dX9_digest_35 : decode cX9_digest 35 = .ok (.getfield 12, 3) := by decide +kernel
theorem dX9_digest_38 : decode cX9_digest 38 = .ok (.getfield 75, 3) := by decide +kernel
theorem dX9_digest_41 : decode cX9_digest 41 = .ok (.getfield 97, 3) := by decide +kernel
theorem dX9_digest_44 : decode cX9_digest 44 = .ok (.if_icmp .ge 39, 3) := by decide +kernel
theorem dX9_digest_47 : decode cX9_digest 47 = .ok (.iconst 0, 1) := by decide +kernel
theorem dX9_digest_48 : decode cX9_digest 48 = .ok (.istore 4, 2) := by decide +kernel
theorem dX9_digest_50 : decode cX9_digest 50 = .ok (.iload 4, 2) := by decide +kernel
theorem dX9_digest_52 : decode cX9_digest 52 = .ok (.iconst 2, 1) := by decide +kernel
theorem dX9_digest_53 : decode cX9_digest 53 = .ok (.if_icmp .gt 24, 3) := by decide +kernel
theorem dX9_digest_56 : decode cX9_digest 56 = .ok (.ldc2_w 268, 3) := by decide +kernel
theorem dX9_digest_59 : decode cX9_digest 59 = .ok (.lload_n 1, 1) := by decide +kernel
theorem dX9_digest_60 : decode cX9_digest 60 = .ok (.lmul, 1) := by decide +kernel
theorem dX9_digest_61 : decode cX9_digest 61 = .ok (.aload_n 0, 1) := by decide +kernel
theorem dX9_digest_62 : decode cX9_digest 62 = .ok (.iload_n 3, 1) := by decide +kernel
theorem dX9_digest_63 : decode cX9_digest 63 = .ok (.iload 4, 2) := by decide +kernel
theorem dX9_digest_65 : decode cX9_digest 65 = .ok (.invokevirtual 273, 3) := by decide +kernel
theorem dX9_digest_68 : decode cX9_digest 68 = .ok (.i2l, 1) := by decide +kernel
theorem dX9_digest_69 : decode cX9_digest 69 = .ok (.ladd, 1) := by decide +kernel
theorem dX9_digest_70 : decode cX9_digest 70 = .ok (.lstore_n 1, 1) := by decide +kernel
theorem dX9_digest_71 : decode cX9_digest 71 = .ok (.iinc 4 1, 3) := by decide +kernel
theorem dX9_digest_74 : decode cX9_digest 74 = .ok (.goto (-24), 3) := by decide +kernel
theorem dX9_digest_77 : decode cX9_digest 77 = .ok (.iinc 3 1, 3) := by decide +kernel
theorem dX9_digest_80 : decode cX9_digest 80 = .ok (.goto (-47), 3) := by decide +kernel
theorem dX9_digest_83 : decode cX9_digest 83 = .ok (.iconst 0, 1) := by decide +kernel
theorem dX9_digest_84 : decode cX9_digest 84 = .ok (.istore_n 3, 1) := by decide +kernel
theorem dX9_digest_85 : decode cX9_digest 85 = .ok (.iload_n 3, 1) := by decide +kernel
theorem dX9_digest_86 : decode cX9_digest 86 = .ok (.iconst 3, 1) := by decide +kernel
theorem dX9_digest_87 : decode cX9_digest 87 = .ok (.if_icmp .gt 22, 3) := by decide +kernel
theorem dX9_digest_90 : decode cX9_digest 90 = .ok (.ldc2_w 268, 3) := by decide +kernel
theorem dX9_digest_93 : decode cX9_digest 93 = .ok (.lload_n 1, 1) := by decide +kernel
theorem dX9_digest_94 : decode cX9_digest 94 = .ok (.lmul, 1) := by decide +kernel
theorem dX9_digest_95 : decode cX9_digest 95 = .ok (.aload_n 0, 1) := by decide +kernel
theorem dX9_digest_96 : decode cX9_digest 96 = .ok (.iload_n 3, 1) := by decide +kernel
theorem dX9_digest_97 : decode cX9_digest 97 = .ok (.invokevirtual 276, 3) := by decide +kernel
theorem dX9_digest_100 : decode cX9_digest 100 = .ok (.i2l, 1) := by decide +kernel
theorem dX9_digest_101 : decode cX9_digest 101 = .ok (.ladd, 1) := by decide +kernel
theorem dX9_digest_102 : decode cX9_digest 102 = .ok (.lstore_n 1, 1) := by decide +kernel
theorem dX9_digest_103 : decode cX9_digest 103 = .ok (.iinc 3 1, 3) := by decide +kernel
theorem dX9_digest_106 : decode cX9_digest 106 = .ok (.goto (-21), 3) := by decide +kernel
theorem dX9_digest_109 : decode cX9_digest 109 = .ok (.ldc2_w 268, 3) := by decide +kernel
theorem dX9_digest_112 : decode cX9_digest 112 = .ok (.lload_n 1, 1) := by decide +kernel
theorem dX9_digest_113 : decode cX9_digest 113 = .ok (.lmul, 1) := by decide +kernel
theorem dX9_digest_114 : decode cX9_digest 114 = .ok (.aload_n 0, 1) := by decide +kernel
theorem dX9_digest_115 : decode cX9_digest 115 = .ok (.iconst 0, 1) := by decide +kernel
theorem dX9_digest_116 : decode cX9_digest 116 = .ok (.invokevirtual 279, 3) := by decide +kernel
theorem dX9_digest_119 : decode cX9_digest 119 = .ok (.i2l, 1) := by decide +kernel
theorem dX9_digest_120 : decode cX9_digest 120 = .ok (.ladd, 1) := by decide +kernel
theorem dX9_digest_121 : decode cX9_digest 121 = .ok (.lstore_n 1, 1) := by decide +kernel
theorem dX9_digest_122 : decode cX9_digest 122 = .ok (.ldc2_w 268, 3) := by decide +kernel
theorem dX9_digest_125 : decode cX9_digest 125 = .ok (.lload_n 1, 1) := by decide +kernel
theorem dX9_digest_126 : decode cX9_digest 126 = .ok (.lmul, 1) := by decide +kernel
theorem dX9_digest_127 : decode cX9_digest 127 = .ok (.aload_n 0, 1) := by decide +kernel
theorem dX9_digest_128 : decode cX9_digest 128 = .ok (.iconst 4, 1) := by decide +kernel
theorem dX9_digest_129 : decode cX9_digest 129 = .ok (.invokevirtual 279, 3) := by decide +kernel
theorem dX9_digest_132 : decode cX9_digest 132 = .ok (.i2l, 1) := by decide +kernel
theorem dX9_digest_133 : decode cX9_digest 133 = .ok (.ladd, 1) := by decide +kernel
theorem dX9_digest_134 : decode cX9_digest 134 = .ok (.lstore_n 1, 1) := by decide +kernel
theorem dX9_digest_135 : decode cX9_digest 135 = .ok (.ldc2_w 268, 3) := by decide +kernel
theorem dX9_digest_138 : decode cX9_digest 138 = .ok (.lload_n 1, 1) := by decide +kernel
theorem dX9_digest_139 : decode cX9_digest 139 = .ok (.lmul, 1) := by decide +kernel
theorem dX9_digest_140 : decode cX9_digest 140 = .ok (.aload_n 0, 1) := by decide +kernel
theorem dX9_digest_141 : decode cX9_digest 141 = .ok (.iconst 5, 1) := by decide +kernel
theorem dX9_digest_142 : decode cX9_digest 142 = .ok (.invokevirtual 279, 3) := by decide +kernel
theorem dX9_digest_145 : decode cX9_digest 145 = .ok (.i2l, 1) := by decide +kernel
theorem dX9_digest_146 : decode cX9_digest 146 = .ok (.ladd, 1) := by decide +kernel
theorem dX9_digest_147 : decode cX9_digest 147 = .ok (.lstore_n 1, 1) := by decide +kernel
theorem dX9_digest_148 : decode cX9_digest 148 = .ok (.ldc2_w 268, 3) := by decide +kernel
theorem dX9_digest_151 : decode cX9_digest 151 = .ok (.lload_n 1, 1) := by decide +kernel
theorem dX9_digest_152 : decode cX9_digest 152 = .ok (.lmul, 1) := by decide +kernel
theorem dX9_digest_153 : decode cX9_digest 153 = .ok (.aload_n 0, 1) := by decide +kernel
theorem dX9_digest_154 : decode cX9_digest 154 = .ok (.iconst 0, 1) := by decide +kernel
theorem dX9_digest_155 : decode cX9_digest 155 = .ok (.invokevirtual 282, 3) := by decide +kernel
theorem dX9_digest_158 : decode cX9_digest 158 = .ok (.i2l, 1) := by decide +kernel
theorem dX9_digest_159 : decode cX9_digest 159 = .ok (.ladd, 1) := by decide +kernel
theorem dX9_digest_160 : decode cX9_digest 160 = .ok (.lstore_n 1, 1) := by decide +kernel
theorem dX9_digest_161 : decode cX9_digest 161 = .ok (.ldc2_w 268, 3) := by decide +kernel
theorem dX9_digest_164 : decode cX9_digest 164 = .ok (.lload_n 1, 1) := by decide +kernel
theorem dX9_digest_165 : decode cX9_digest 165 = .ok (.lmul, 1) := by decide +kernel
theorem dX9_digest_166 : decode cX9_digest 166 = .ok (.aload_n 0, 1) := by decide +kernel
theorem dX9_digest_167 : decode cX9_digest 167 = .ok (.iconst 1, 1) := by decide +kernel
theorem dX9_digest_168 : decode cX9_digest 168 = .ok (.invokevirtual 282, 3) := by decide +kernel
theorem dX9_digest_171 : decode cX9_digest 171 = .ok (.i2l, 1) := by decide +kernel
theorem dX9_digest_172 : decode cX9_digest 172 = .ok (.ladd, 1) := by decide +kernel
theorem dX9_digest_173 : decode cX9_digest 173 = .ok (.lreturn, 1) := by decide +kernel
theorem dX9_refuse_0 : decode cX9_refuse 0 = .ok (.iload_n 1, 1) := by decide +kernel
theorem dX9_refuse_1 : decode cX9_refuse 1 = .ok (.bipush (-2), 2) := by decide +kernel
theorem dX9_refuse_3 : decode cX9_refuse 3 = .ok (.if_icmp .ne 16, 3) := by decide +kernel
theorem dX9_refuse_6 : decode cX9_refuse 6 = .ok (.aload_n 0, 1) := by decide +kernel
theorem dX9_refuse_7 : decode cX9_refuse 7 = .ok (.dup, 1) := by decide +kernel
theorem dX9_refuse_8 : decode cX9_refuse 8 = .ok (.getfield 257, 3) := by decide +kernel
theorem dX9_refuse_11 : decode cX9_refuse 11 = .ok (.iconst 1, 1) := by decide +kernel
theorem dX9_refuse_12 : decode cX9_refuse 12 = .ok (.iadd, 1) := by decide +kernel
theorem dX9_refuse_13 : decode cX9_refuse 13 = .ok (.putfield 257, 3) := by decide +kernel
theorem dX9_refuse_16 : decode cX9_refuse 16 = .ok (.goto 32, 3) := by decide +kernel
theorem dX9_refuse_19 : decode cX9_refuse 19 = .ok (.iload_n 1, 1) := by decide +kernel
theorem dX9_refuse_20 : decode cX9_refuse 20 = .ok (.bipush (-3), 2) := by decide +kernel
theorem dX9_refuse_22 : decode cX9_refuse 22 = .ok (.if_icmp .ne 16, 3) := by decide +kernel
theorem dX9_refuse_25 : decode cX9_refuse 25 = .ok (.aload_n 0, 1) := by decide +kernel
theorem dX9_refuse_26 : decode cX9_refuse 26 = .ok (.dup, 1) := by decide +kernel
theorem dX9_refuse_27 : decode cX9_refuse 27 = .ok (.getfield 260, 3) := by decide +kernel
theorem dX9_refuse_30 : decode cX9_refuse 30 = .ok (.iconst 1, 1) := by decide +kernel
theorem dX9_refuse_31 : decode cX9_refuse 31 = .ok (.iadd, 1) := by decide +kernel
theorem dX9_refuse_32 : decode cX9_refuse 32 = .ok (.putfield 260, 3) := by decide +kernel
theorem dX9_refuse_35 : decode cX9_refuse 35 = .ok (.goto 13, 3) := by decide +kernel
theorem dX9_refuse_38 : decode cX9_refuse 38 = .ok (.aload_n 0, 1) := by decide +kernel
theorem dX9_refuse_39 : decode cX9_refuse 39 = .ok (.dup, 1) := by decide +kernel
theorem dX9_refuse_40 : decode cX9_refuse 40 = .ok (.getfield 263, 3) := by decide +kernel
theorem dX9_refuse_43 : decode cX9_refuse 43 = .ok (.iconst 1, 1) := by decide +kernel
theorem dX9_refuse_44 : decode cX9_refuse 44 = .ok (.iadd, 1) := by decide +kernel
theorem dX9_refuse_45 : decode cX9_refuse 45 = .ok (.putfield 263, 3) := by decide +kernel
theorem dX9_refuse_48 : decode cX9_refuse 48 = .ok (.iload_n 1, 1) := by decide +kernel
theorem dX9_refuse_49 : decode cX9_refuse 49 = .ok (.ireturn, 1) := by decide +kernel
theorem dX9_isWay_0 : decode cX9_isWay 0 = .ok (.iload_n 1, 1) := by decide +kernel
theorem dX9_isWay_1 : decode cX9_isWay 1 = .ok (.ifCond .lt 21, 3) := by decide +kernel
theorem dX9_isWay_4 : decode cX9_isWay 4 = .ok (.iload_n 1, 1) := by decide +kernel
theorem dX9_isWay_5 : decode cX9_isWay 5 = .ok (.aload_n 0, 1) := by decide +kernel
theorem dX9_isWay_6 : decode cX9_isWay 6 = .ok (.getfield 12, 3) := by decide +kernel
theorem dX9_isWay_9 : decode cX9_isWay 9 = .ok (.getfield 75, 3) := by decide +kernel
theorem dX9_isWay_12 : decode cX9_isWay 12 = .ok (.getfield 97, 3) := by decide +kernel
theorem dX9_isWay_15 : decode cX9_isWay 15 = .ok (.if_icmp .ge 7, 3) := by decide +kernel
theorem dX9_isWay_18 : decode cX9_isWay 18 = .ok (.iconst 1, 1) := by decide +kernel
theorem dX9_isWay_19 : decode cX9_isWay 19 = .ok (.goto 4, 3) := by decide +kernel
theorem dX9_isWay_22 : decode cX9_isWay 22 = .ok (.iconst 0, 1) := by decide +kernel
theorem dX9_isWay_23 : decode cX9_isWay 23 = .ok (.ireturn, 1) := by decide +kernel
set_option maxRecDepth 20000 in
theorem ggX9_isPlace_X9_isWithin : GoodIn wsX9_isPlace wsX9_isWithin := goodIn_r _ [4] rfl (by decide +kernel)
set_option maxRecDepth 20000 in
theorem gX9_isPlace_X9_isWithin : GoodIn wsX9_isPlace (va_wsS RX9 108 yX9_isWithin wsX9_isWithin) := goodIn_app (goodIn_of _ (by decide +kernel)) ggX9_isPlace_X9_isWithin
theorem dX9_isPlace_0 : decode cX9_isPlace 0 = .ok (.iload_n 0, 1) := by decide +kernel
theorem dX9_isPlace_1 : decode cX9_isPlace 1 = .ok (.bipush 9, 2) := by decide +kernel
theorem dX9_isPlace_3 : decode cX9_isPlace 3 = .ok (.invokestatic 108, 3) := by decide +kernel
theorem dX9_isPlace_6 : decode cX9_isPlace 6 = .ok (.ireturn, 1) := by decide +kernel
set_option maxRecDepth 20000 in
theorem ggX9_isDeed_X9_isWithin : GoodIn wsX9_isDeed wsX9_isWithin := goodIn_r _ [4] rfl (by decide +kernel)
set_option maxRecDepth 20000 in
theorem gX9_isDeed_X9_isWithin : GoodIn wsX9_isDeed (va_wsS RX9 108 yX9_isWithin wsX9_isWithin) := goodIn_app (goodIn_of _ (by decide +kernel)) ggX9_isDeed_X9_isWithin
theorem dX9_isDeed_0 : decode cX9_isDeed 0 = .ok (.iload_n 0, 1) := by decide +kernel
theorem dX9_isDeed_1 : decode cX9_isDeed 1 = .ok (.bipush 7, 2) := by decide +kernel
theorem dX9_isDeed_3 : decode cX9_isDeed 3 = .ok (.invokestatic 108, 3) := by decide +kernel
theorem dX9_isDeed_6 : decode cX9_isDeed 6 = .ok (.ireturn, 1) := by decide +kernel
theorem dX9_isWithin_0 : decode cX9_isWithin 0 = .ok (.iload_n 0, 1) := by decide +kernel
theorem dX9_isWithin_1 : decode cX9_isWithin 1 = .ok (.ifCond .lt 12, 3) := by decide +kernel
theorem dX9_isWithin_4 : decode cX9_isWithin 4 = .ok (.iload_n 0, 1) := by decide +kernel
theorem dX9_isWithin_5 : decode cX9_isWithin 5 = .ok (.iload_n 1, 1) := by decide +kernel
theorem dX9_isWithin_6 : decode cX9_isWithin 6 = .ok (.if_icmp .gt 7, 3) := by decide +kernel
theorem dX9_isWithin_9 : decode cX9_isWithin 9 = .ok (.iconst 1, 1) := by decide +kernel
theorem dX9_isWithin_10 : decode cX9_isWithin 10 = .ok (.goto 4, 3) := by decide +kernel
theorem dX9_isWithin_13 : decode cX9_isWithin 13 = .ok (.iconst 0, 1) := by decide +kernel
theorem dX9_isWithin_14 : decode cX9_isWithin 14 = .ok (.ireturn, 1) := by decide +kernel
theorem dX9_isOne_0 : decode cX9_isOne 0 = .ok (.iload_n 0, 1) := by decide +kernel
theorem dX9_isOne_1 : decode cX9_isOne 1 = .ok (.ifCond .eq 7, 3) := by decide +kernel
theorem dX9_isOne_4 : decode cX9_isOne 4 = .ok (.iconst 1, 1) := by decide +kernel
theorem dX9_isOne_5 : decode cX9_isOne 5 = .ok (.goto 4, 3) := by decide +kernel
theorem dX9_isOne_8 : decode cX9_isOne 8 = .ok (.iconst 0, 1) := by decide +kernel
theorem dX9_isOne_9 : decode cX9_isOne 9 = .ok (.ireturn, 1) := by decide +kernel
theorem dX9_hasPlace_0 : decode cX9_hasPlace 0 = .ok (.iload_n 0, 1) := by decide +kernel
theorem dX9_hasPlace_1 : decode cX9_hasPlace 1 = .ok (.iload_n 1, 1) := by decide +kernel
theorem dX9_hasPlace_2 : decode cX9_hasPlace 2 = .ok (.ishr, 1) := by decide +kernel
theorem dX9_hasPlace_3 : decode cX9_hasPlace 3 = .ok (.iconst 1, 1) := by decide +kernel
theorem dX9_hasPlace_4 : decode cX9_hasPlace 4 = .ok (.iand, 1) := by decide +kernel
theorem dX9_hasPlace_5 : decode cX9_hasPlace 5 = .ok (.iconst 1, 1) := by decide +kernel
theorem dX9_hasPlace_6 : decode cX9_hasPlace 6 = .ok (.if_icmp .eq 15, 3) := by decide +kernel
theorem dX9_hasPlace_9 : decode cX9_hasPlace 9 = .ok (.iload_n 0, 1) := by decide +kernel
theorem dX9_hasPlace_10 : decode cX9_hasPlace 10 = .ok (.iload_n 1, 1) := by decide +kernel
theorem dX9_hasPlace_11 : decode cX9_hasPlace 11 = .ok (.bipush 10, 2) := by decide +kernel
theorem dX9_hasPlace_13 : decode cX9_hasPlace 13 = .ok (.iadd, 1) := by decide +kernel
theorem dX9_hasPlace_14 : decode cX9_hasPlace 14 = .ok (.ishr, 1) := by decide +kernel
theorem dX9_hasPlace_15 : decode cX9_hasPlace 15 = .ok (.iconst 1, 1) := by decide +kernel
theorem dX9_hasPlace_16 : decode cX9_hasPlace 16 = .ok (.iand, 1) := by decide +kernel
theorem dX9_hasPlace_17 : decode cX9_hasPlace 17 = .ok (.iconst 1, 1) := by decide +kernel
theorem dX9_hasPlace_18 : decode cX9_hasPlace 18 = .ok (.if_icmp .ne 7, 3) := by decide +kernel
theorem dX9_hasPlace_21 : decode cX9_hasPlace 21 = .ok (.iconst 1, 1) := by decide +kernel
theorem dX9_hasPlace_22 : decode cX9_hasPlace 22 = .ok (.goto 4, 3) := by decide +kernel
theorem dX9_hasPlace_25 : decode cX9_hasPlace 25 = .ok (.iconst 0, 1) := by decide +kernel
theorem dX9_hasPlace_26 : decode cX9_hasPlace 26 = .ok (.ireturn, 1) := by decide +kernel
theorem dX9_verdict_0 : decode cX9_verdict 0 = .ok (.iload_n 0, 1) := by decide +kernel
theorem dX9_verdict_1 : decode cX9_verdict 1 = .ok (.bipush 10, 2) := by decide +kernel
theorem dX9_verdict_3 : decode cX9_verdict 3 = .ok (.ishr, 1) := by decide +kernel
theorem dX9_verdict_4 : decode cX9_verdict 4 = .ok (.istore_n 1, 1) := by decide +kernel
theorem dX9_verdict_5 : decode cX9_verdict 5 = .ok (.iload_n 1, 1) := by decide +kernel
theorem dX9_verdict_6 : decode cX9_verdict 6 = .ok (.ifCond .ne 5, 3) := by decide +kernel
theorem dX9_verdict_9 : decode cX9_verdict 9 = .ok (.iconst 0, 1) := by decide +kernel
theorem dX9_verdict_10 : decode cX9_verdict 10 = .ok (.ireturn, 1) := by decide +kernel
theorem dX9_verdict_11 : decode cX9_verdict 11 = .ok (.iload_n 1, 1) := by decide +kernel
theorem dX9_verdict_12 : decode cX9_verdict 12 = .ok (.bipush 10, 2) := by decide +kernel
theorem dX9_verdict_14 : decode cX9_verdict 14 = .ok (.ishl, 1) := by decide +kernel
theorem dX9_verdict_15 : decode cX9_verdict 15 = .ok (.iload_n 0, 1) := by decide +kernel
theorem dX9_verdict_16 : decode cX9_verdict 16 = .ok (.if_icmp .ne 7, 3) := by decide +kernel
theorem dX9_verdict_19 : decode cX9_verdict 19 = .ok (.iconst 1, 1) := by decide +kernel
theorem dX9_verdict_20 : decode cX9_verdict 20 = .ok (.goto 4, 3) := by decide +kernel
theorem dX9_verdict_23 : decode cX9_verdict 23 = .ok (.iconst 2, 1) := by decide +kernel
theorem dX9_verdict_24 : decode cX9_verdict 24 = .ok (.ireturn, 1) := by decide +kernel
set_option maxRecDepth 20000 in
theorem ggX9_canGoUnseen_X1_isSeen : GoodIn wsX9_canGoUnseen wsX1_isSeen := goodIn_r _ [10, 11, 33, 34, 35, 36, 37, 38] rfl (by decide +kernel)
set_option maxRecDepth 20000 in
theorem gX9_canGoUnseen_X1_isSeen : GoodIn wsX9_canGoUnseen (wsV RX9 143 RX1 yX1_isSeen wsX1_isSeen) := goodIn_app (goodIn_r _ [6, 7, 8, 9] rfl (by decide +kernel)) ggX9_canGoUnseen_X1_isSeen
set_option maxRecDepth 20000 in
theorem ggX9_canGoUnseen_X9_hasPlace : GoodIn wsX9_canGoUnseen wsX9_hasPlace := goodIn_r _ [15] rfl (by decide +kernel)
set_option maxRecDepth 20000 in
theorem gX9_canGoUnseen_X9_hasPlace : GoodIn wsX9_canGoUnseen (va_wsS RX9 136 yX9_hasPlace wsX9_hasPlace) := goodIn_app (goodIn_of _ (by decide +kernel)) ggX9_canGoUnseen_X9_hasPlace
theorem dX9_canGoUnseen_0 : decode cX9_canGoUnseen 0 = .ok (.aload_n 0, 1) := by decide +kernel
theorem dX9_canGoUnseen_1 : decode cX9_canGoUnseen 1 = .ok (.getfield 12, 3) := by decide +kernel
theorem dX9_canGoUnseen_4 : decode cX9_canGoUnseen 4 = .ok (.getfield 75, 3) := by decide +kernel
theorem dX9_canGoUnseen_7 : decode cX9_canGoUnseen 7 = .ok (.astore_n 2, 1) := by decide +kernel
theorem dX9_canGoUnseen_8 : decode cX9_canGoUnseen 8 = .ok (.iconst 0, 1) := by decide +kernel
theorem dX9_canGoUnseen_9 : decode cX9_canGoUnseen 9 = .ok (.istore_n 3, 1) := by decide +kernel
theorem dX9_canGoUnseen_10 : decode cX9_canGoUnseen 10 = .ok (.iload_n 3, 1) := by decide +kernel
theorem dX9_canGoUnseen_11 : decode cX9_canGoUnseen 11 = .ok (.aload_n 2, 1) := by decide +kernel
theorem dX9_canGoUnseen_12 : decode cX9_canGoUnseen 12 = .ok (.getfield 97, 3) := by decide +kernel
theorem dX9_canGoUnseen_15 : decode cX9_canGoUnseen 15 = .ok (.if_icmp .ge 37, 3) := by decide +kernel
theorem dX9_canGoUnseen_18 : decode cX9_canGoUnseen 18 = .ok (.aload_n 2, 1) := by decide +kernel
theorem dX9_canGoUnseen_19 : decode cX9_canGoUnseen 19 = .ok (.aload_n 2, 1) := by decide +kernel
theorem dX9_canGoUnseen_20 : decode cX9_canGoUnseen 20 = .ok (.getfield 127, 3) := by decide +kernel
theorem dX9_canGoUnseen_23 : decode cX9_canGoUnseen 23 = .ok (.iload_n 3, 1) := by decide +kernel
theorem dX9_canGoUnseen_24 : decode cX9_canGoUnseen 24 = .ok (.iaload, 1) := by decide +kernel
theorem dX9_canGoUnseen_25 : decode cX9_canGoUnseen 25 = .ok (.invokevirtual 143, 3) := by decide +kernel
theorem dX9_canGoUnseen_28 : decode cX9_canGoUnseen 28 = .ok (.ifCond .ne 18, 3) := by decide +kernel
theorem dX9_canGoUnseen_31 : decode cX9_canGoUnseen 31 = .ok (.iload_n 1, 1) := by decide +kernel
theorem dX9_canGoUnseen_32 : decode cX9_canGoUnseen 32 = .ok (.aload_n 2, 1) := by decide +kernel
theorem dX9_canGoUnseen_33 : decode cX9_canGoUnseen 33 = .ok (.getfield 123, 3) := by decide +kernel
theorem dX9_canGoUnseen_36 : decode cX9_canGoUnseen 36 = .ok (.iload_n 3, 1) := by decide +kernel
theorem dX9_canGoUnseen_37 : decode cX9_canGoUnseen 37 = .ok (.iaload, 1) := by decide +kernel
theorem dX9_canGoUnseen_38 : decode cX9_canGoUnseen 38 = .ok (.invokestatic 136, 3) := by decide +kernel
theorem dX9_canGoUnseen_41 : decode cX9_canGoUnseen 41 = .ok (.ifCond .eq 5, 3) := by decide +kernel
theorem dX9_canGoUnseen_44 : decode cX9_canGoUnseen 44 = .ok (.iconst 1, 1) := by decide +kernel
theorem dX9_canGoUnseen_45 : decode cX9_canGoUnseen 45 = .ok (.ireturn, 1) := by decide +kernel
theorem dX9_canGoUnseen_46 : decode cX9_canGoUnseen 46 = .ok (.iinc 3 1, 3) := by decide +kernel
theorem dX9_canGoUnseen_49 : decode cX9_canGoUnseen 49 = .ok (.goto (-39), 3) := by decide +kernel
theorem dX9_canGoUnseen_52 : decode cX9_canGoUnseen 52 = .ok (.iconst 0, 1) := by decide +kernel
theorem dX9_canGoUnseen_53 : decode cX9_canGoUnseen 53 = .ok (.ireturn, 1) := by decide +kernel
set_option maxRecDepth 20000 in
theorem ggX9_beginAnew_X9_lookAnew : GoodIn wsX9_beginAnew wsX9_lookAnew := goodIn_r _ [8, 3, 1, 9, 10, 11, 12, 13, 14, 15, 16, 17, 18, 19, 20, 21, 22, 23, 24, 25, 26, 27, 28, 29, 30, 31, 32, 33, 34, 35, 36, 37, 38, 39, 40, 41, 42, 43, 44, 45, 46, 47, 48, 49, 50, 51, 52, 53, 54, 55, 56, 68, 69, 70, 71, 72, 73, 74, 75, 76, 77, 78, 79, 80, 81, 82, 83, 84, 85, 86, 87, 88, 89, 90, 91, 92, 93] rfl (by decide +kernel)
set_option maxRecDepth 20000 in
theorem gX9_beginAnew_X9_lookAnew : GoodIn wsX9_beginAnew (wsV RX9 254 RX9 yX9_lookAnew wsX9_lookAnew) := goodIn_app (goodIn_r _ [4, 5, 6, 7] rfl (by decide +kernel)) ggX9_beginAnew_X9_lookAnew
set_option maxRecDepth 20000 in
theorem ggX9_beginAnew_X7_first : GoodIn wsX9_beginAnew wsX7_first := goodIn_r _ [60, 22, 85, 86, 87] rfl (by decide +kernel)
set_option maxRecDepth 20000 in
theorem gX9_beginAnew_X7_first : GoodIn wsX9_beginAnew (wsV RX9 164 RX7 yX7_first wsX7_first) := goodIn_app (goodIn_r _ [57, 58, 59, 16] rfl (by decide +kernel)) ggX9_beginAnew_X7_first
set_option maxRecDepth 20000 in
theorem ggX9_beginAnew_X8_begin : GoodIn wsX9_beginAnew wsX8_begin := goodIn_r _ [65, 66, 67, 94, 95, 96] rfl (by decide +kernel)
set_option maxRecDepth 20000 in
theorem gX9_beginAnew_X8_begin : GoodIn wsX9_beginAnew (wsV RX9 168 RX8 yX8_begin wsX8_begin) := goodIn_app (goodIn_r _ [61, 62, 63, 64] rfl (by decide +kernel)) ggX9_beginAnew_X8_begin
theorem dX9_beginAnew_0 : decode cX9_beginAnew 0 = .ok (.aload_n 0, 1) := by decide +kernel
theorem dX9_beginAnew_1 : decode cX9_beginAnew 1 = .ok (.invokevirtual 254, 3) := by decide +kernel
theorem dX9_beginAnew_4 : decode cX9_beginAnew 4 = .ok (.aload_n 0, 1) := by decide +kernel
theorem dX9_beginAnew_5 : decode cX9_beginAnew 5 = .ok (.getfield 12, 3) := by decide +kernel
theorem dX9_beginAnew_8 : decode cX9_beginAnew 8 = .ok (.getfield 146, 3) := by decide +kernel
theorem dX9_beginAnew_11 : decode cX9_beginAnew 11 = .ok (.aload_n 0, 1) := by decide +kernel
theorem dX9_beginAnew_12 : decode cX9_beginAnew 12 = .ok (.getfield 26, 3) := by decide +kernel
theorem dX9_beginAnew_15 : decode cX9_beginAnew 15 = .ok (.invokevirtual 164, 3) := by decide +kernel
theorem dX9_beginAnew_18 : decode cX9_beginAnew 18 = .ok (.invokevirtual 168, 3) := by decide +kernel
theorem dX9_beginAnew_21 : decode cX9_beginAnew 21 = .ok (.return_, 1) := by decide +kernel
set_option maxRecDepth 20000 in
theorem ggX9_lookAnew_X7_look : GoodIn wsX9_lookAnew wsX7_look := goodIn_r _ [11, 12, 13, 14, 10, 15, 16, 17, 18, 19, 20, 21, 22, 23, 24, 25, 26, 27, 28, 29, 30, 31, 32, 33, 34, 35, 36, 37, 38, 39, 40, 41, 42, 43, 44, 45, 46, 47, 48, 49, 50, 68, 69, 70, 71, 72, 73, 74, 75, 76] rfl (by decide +kernel)
set_option maxRecDepth 20000 in
theorem gX9_lookAnew_X7_look : GoodIn wsX9_lookAnew (wsV RX9 285 RX7 yX7_look wsX7_look) := goodIn_app (goodIn_r _ [7, 8, 9, 10] rfl (by decide +kernel)) ggX9_lookAnew_X7_look
theorem dX9_lookAnew_0 : decode cX9_lookAnew 0 = .ok (.aload_n 0, 1) := by decide +kernel
theorem dX9_lookAnew_1 : decode cX9_lookAnew 1 = .ok (.getfield 26, 3) := by decide +kernel
theorem dX9_lookAnew_4 : decode cX9_lookAnew 4 = .ok (.aload_n 0, 1) := by decide +kernel
theorem dX9_lookAnew_5 : decode cX9_lookAnew 5 = .ok (.getfield 12, 3) := by decide +kernel
theorem dX9_lookAnew_8 : decode cX9_lookAnew 8 = .ok (.getfield 75, 3) := by decide +kernel
theorem dX9_lookAnew_11 : decode cX9_lookAnew 11 = .ok (.invokevirtual 285, 3) := by decide +kernel
theorem dX9_lookAnew_14 : decode cX9_lookAnew 14 = .ok (.aload_n 0, 1) := by decide +kernel
theorem dX9_lookAnew_15 : decode cX9_lookAnew 15 = .ok (.iconst 0, 1) := by decide +kernel
theorem dX9_lookAnew_16 : decode cX9_lookAnew 16 = .ok (.putfield 288, 3) := by decide +kernel
theorem dX9_lookAnew_19 : decode cX9_lookAnew 19 = .ok (.aload_n 0, 1) := by decide +kernel
theorem dX9_lookAnew_20 : decode cX9_lookAnew 20 = .ok (.iconst 0, 1) := by decide +kernel
theorem dX9_lookAnew_21 : decode cX9_lookAnew 21 = .ok (.putfield 291, 3) := by decide +kernel
theorem dX9_lookAnew_24 : decode cX9_lookAnew 24 = .ok (.aload_n 0, 1) := by decide +kernel
theorem dX9_lookAnew_25 : decode cX9_lookAnew 25 = .ok (.iconst 0, 1) := by decide +kernel
theorem dX9_lookAnew_26 : decode cX9_lookAnew 26 = .ok (.putfield 215, 3) := by decide +kernel
theorem dX9_lookAnew_29 : decode cX9_lookAnew 29 = .ok (.return_, 1) := by decide +kernel
set_option maxRecDepth 20000 in
theorem ggX9_foundSets_X3_find : GoodIn wsX9_foundSets wsX3_find := goodIn_r _ [8, 9, 10, 11, 12, 13, 14, 15, 16, 17, 18, 19, 20, 21, 22, 23, 24, 25, 7, 26, 27, 28, 29, 30, 31, 32, 48, 49, 50, 51, 52, 53, 54] rfl (by decide +kernel)
set_option maxRecDepth 20000 in
theorem gX9_foundSets_X3_find : GoodIn wsX9_foundSets (wsV RX9 294 RX3 yX3_find wsX3_find) := goodIn_app (goodIn_r _ [4, 5, 6, 7] rfl (by decide +kernel)) ggX9_foundSets_X3_find
theorem dX9_foundSets_0 : decode cX9_foundSets 0 = .ok (.aload_n 0, 1) := by decide +kernel
theorem dX9_foundSets_1 : decode cX9_foundSets 1 = .ok (.getfield 288, 3) := by decide +kernel
theorem dX9_foundSets_4 : decode cX9_foundSets 4 = .ok (.ifCond .ne 19, 3) := by decide +kernel
theorem dX9_foundSets_7 : decode cX9_foundSets 7 = .ok (.aload_n 0, 1) := by decide +kernel
theorem dX9_foundSets_8 : decode cX9_foundSets 8 = .ok (.getfield 33, 3) := by decide +kernel
theorem dX9_foundSets_11 : decode cX9_foundSets 11 = .ok (.aload_n 0, 1) := by decide +kernel
theorem dX9_foundSets_12 : decode cX9_foundSets 12 = .ok (.getfield 26, 3) := by decide +kernel
theorem dX9_foundSets_15 : decode cX9_foundSets 15 = .ok (.invokevirtual 294, 3) := by decide +kernel
theorem dX9_foundSets_18 : decode cX9_foundSets 18 = .ok (.aload_n 0, 1) := by decide +kernel
theorem dX9_foundSets_19 : decode cX9_foundSets 19 = .ok (.iconst 1, 1) := by decide +kernel
theorem dX9_foundSets_20 : decode cX9_foundSets 20 = .ok (.putfield 288, 3) := by decide +kernel
theorem dX9_foundSets_23 : decode cX9_foundSets 23 = .ok (.aload_n 0, 1) := by decide +kernel
theorem dX9_foundSets_24 : decode cX9_foundSets 24 = .ok (.getfield 33, 3) := by decide +kernel
theorem dX9_foundSets_27 : decode cX9_foundSets 27 = .ok (.areturn, 1) := by decide +kernel
set_option maxRecDepth 20000 in
theorem ggX9_foundTwins_X6_find : GoodIn wsX9_foundTwins wsX6_find := goodIn_r _ [10, 11, 12, 13, 14, 15, 9, 16, 17, 18, 19, 20, 21, 22, 23, 24, 25, 26, 27, 28, 29, 30, 31, 32, 33, 34, 35, 36, 37, 38, 39, 40, 41, 42, 43, 44, 45, 46, 47, 48, 49, 50, 51, 52, 53, 54, 55, 56, 57, 58, 59, 60, 61, 62, 63, 64, 65, 66, 67, 68, 69, 70, 71, 72, 73, 74, 75, 76, 77, 78, 79, 80, 81, 82, 83, 84, 85, 86, 87, 111, 112, 113, 114, 115, 116, 117, 118, 105, 106, 107, 108, 109, 110] rfl (by decide +kernel)
set_option maxRecDepth 20000 in
theorem gX9_foundTwins_X6_find : GoodIn wsX9_foundTwins (wsV RX9 298 RX6 yX6_find wsX6_find) := goodIn_app (goodIn_r _ [6, 7, 8, 9] rfl (by decide +kernel)) ggX9_foundTwins_X6_find
theorem dX9_foundTwins_0 : decode cX9_foundTwins 0 = .ok (.aload_n 0, 1) := by decide +kernel
theorem dX9_foundTwins_1 : decode cX9_foundTwins 1 = .ok (.getfield 291, 3) := by decide +kernel
theorem dX9_foundTwins_4 : decode cX9_foundTwins 4 = .ok (.ifCond .ne 32, 3) := by decide +kernel
theorem dX9_foundTwins_7 : decode cX9_foundTwins 7 = .ok (.aload_n 0, 1) := by decide +kernel
theorem dX9_foundTwins_8 : decode cX9_foundTwins 8 = .ok (.getfield 40, 3) := by decide +kernel
theorem dX9_foundTwins_11 : decode cX9_foundTwins 11 = .ok (.aload_n 0, 1) := by decide +kernel
theorem dX9_foundTwins_12 : decode cX9_foundTwins 12 = .ok (.getfield 12, 3) := by decide +kernel
theorem dX9_foundTwins_15 : decode cX9_foundTwins 15 = .ok (.getfield 75, 3) := by decide +kernel
theorem dX9_foundTwins_18 : decode cX9_foundTwins 18 = .ok (.aload_n 0, 1) := by decide +kernel
theorem dX9_foundTwins_19 : decode cX9_foundTwins 19 = .ok (.getfield 12, 3) := by decide +kernel
theorem dX9_foundTwins_22 : decode cX9_foundTwins 22 = .ok (.getfield 75, 3) := by decide +kernel
theorem dX9_foundTwins_25 : decode cX9_foundTwins 25 = .ok (.getfield 112, 3) := by decide +kernel
theorem dX9_foundTwins_28 : decode cX9_foundTwins 28 = .ok (.invokevirtual 298, 3) := by decide +kernel
theorem dX9_foundTwins_31 : decode cX9_foundTwins 31 = .ok (.aload_n 0, 1) := by decide +kernel
theorem dX9_foundTwins_32 : decode cX9_foundTwins 32 = .ok (.iconst 1, 1) := by decide +kernel
theorem dX9_foundTwins_33 : decode cX9_foundTwins 33 = .ok (.putfield 291, 3) := by decide +kernel
theorem dX9_foundTwins_36 : decode cX9_foundTwins 36 = .ok (.aload_n 0, 1) := by decide +kernel
theorem dX9_foundTwins_37 : decode cX9_foundTwins 37 = .ok (.getfield 40, 3) := by decide +kernel
theorem dX9_foundTwins_40 : decode cX9_foundTwins 40 = .ok (.areturn, 1) := by decide +kernel
set_option maxRecDepth 20000 in
theorem ggX9_areEnough_X6_find : GoodIn wsX9_areEnough wsX6_find := goodIn_r _ [10, 11, 12, 13, 14, 15, 9, 16, 17, 18, 19, 20, 21, 22, 23, 24, 25, 26, 27, 28, 29, 30, 31, 32, 33, 34, 35, 36, 37, 38, 39, 40, 41, 42, 43, 44, 45, 46, 47, 48, 49, 50, 51, 52, 53, 54, 55, 56, 57, 58, 59, 60, 61, 62, 63, 64, 65, 66, 67, 68, 69, 70, 71, 72, 73, 74, 75, 76, 77, 78, 79, 80, 81, 82, 83, 84, 85, 86, 87, 111, 112, 113, 114, 115, 116, 117, 118, 105, 106, 107, 108, 109, 110] rfl (by decide +kernel)
set_option maxRecDepth 20000 in
theorem gX9_areEnough_X6_find : GoodIn wsX9_areEnough (wsV RX9 298 RX6 yX6_find wsX6_find) := goodIn_app (goodIn_r _ [6, 7, 8, 9] rfl (by decide +kernel)) ggX9_areEnough_X6_find
theorem dX9_areEnough_0 : decode cX9_areEnough 0 = .ok (.aload_n 0, 1) := by decide +kernel
theorem dX9_areEnough_1 : decode cX9_areEnough 1 = .ok (.getfield 44, 3) := by decide +kernel
theorem dX9_areEnough_4 : decode cX9_areEnough 4 = .ok (.aload_n 0, 1) := by decide +kernel
theorem dX9_areEnough_5 : decode cX9_areEnough 5 = .ok (.getfield 12, 3) := by decide +kernel
theorem dX9_areEnough_8 : decode cX9_areEnough 8 = .ok (.getfield 75, 3) := by decide +kernel
theorem dX9_areEnough_11 : decode cX9_areEnough 11 = .ok (.aload_n 0, 1) := by decide +kernel
theorem dX9_areEnough_12 : decode cX9_areEnough 12 = .ok (.getfield 12, 3) := by decide +kernel
theorem dX9_areEnough_15 : decode cX9_areEnough 15 = .ok (.getfield 75, 3) := by decide +kernel
theorem dX9_areEnough_18 : decode cX9_areEnough 18 = .ok (.getfield 112, 3) := by decide +kernel
theorem dX9_areEnough_21 : decode cX9_areEnough 21 = .ok (.iload_n 1, 1) := by decide +kernel
theorem dX9_areEnough_22 : decode cX9_areEnough 22 = .ok (.ior, 1) := by decide +kernel
theorem dX9_areEnough_23 : decode cX9_areEnough 23 = .ok (.invokevirtual 298, 3) := by decide +kernel
theorem dX9_areEnough_26 : decode cX9_areEnough 26 = .ok (.aload_n 0, 1) := by decide +kernel
theorem dX9_areEnough_27 : decode cX9_areEnough 27 = .ok (.getfield 44, 3) := by decide +kernel
theorem dX9_areEnough_30 : decode cX9_areEnough 30 = .ok (.getfield 203, 3) := by decide +kernel
theorem dX9_areEnough_33 : decode cX9_areEnough 33 = .ok (.iconst (-1), 1) := by decide +kernel
theorem dX9_areEnough_34 : decode cX9_areEnough 34 = .ok (.if_icmp .eq 7, 3) := by decide +kernel
theorem dX9_areEnough_37 : decode cX9_areEnough 37 = .ok (.iconst 1, 1) := by decide +kernel
theorem dX9_areEnough_38 : decode cX9_areEnough 38 = .ok (.goto 4, 3) := by decide +kernel
theorem dX9_areEnough_41 : decode cX9_areEnough 41 = .ok (.iconst 0, 1) := by decide +kernel
theorem dX9_areEnough_42 : decode cX9_areEnough 42 = .ok (.ireturn, 1) := by decide +kernel
set_option maxRecDepth 20000 in
theorem ggX9_findFewest_X1_eyesFree : GoodIn wsX9_findFewest wsX1_eyesFree := goodIn_r _ [7, 8, 9, 116, 117, 118, 119, 120, 121] rfl (by decide +kernel)
set_option maxRecDepth 20000 in
theorem gX9_findFewest_X1_eyesFree : GoodIn wsX9_findFewest (wsV RX9 209 RX1 yX1_eyesFree wsX1_eyesFree) := goodIn_app (goodIn_r _ [3, 4, 5, 6] rfl (by decide +kernel)) ggX9_findFewest_X1_eyesFree
set_option maxRecDepth 20000 in
theorem ggX9_findFewest_X9_areEnough : GoodIn wsX9_findFewest wsX9_areEnough := goodIn_r _ [14, 15, 1, 2, 16, 17, 18, 19, 20, 21, 22, 23, 24, 25, 26, 27, 28, 29, 30, 31, 32, 33, 34, 35, 36, 37, 38, 39, 40, 41, 42, 43, 44, 6, 45, 9, 46, 47, 48, 49, 50, 51, 52, 53, 54, 55, 56, 57, 58, 59, 60, 61, 62, 63, 64, 65, 66, 67, 68, 69, 70, 71, 72, 73, 74, 75, 76, 77, 78, 79, 80, 81, 82, 83, 84, 85, 86, 87, 88, 89, 90, 91, 92, 93, 94, 95, 96, 97, 99, 100, 101, 102, 103, 104, 105, 106, 107, 108, 109, 110, 111, 112, 113, 114, 115, 116, 117, 118, 119, 120, 121, 122, 123, 124, 125, 126, 127, 128, 129] rfl (by decide +kernel)
set_option maxRecDepth 20000 in
theorem gX9_findFewest_X9_areEnough : GoodIn wsX9_findFewest (wsV RX9 212 RX9 yX9_areEnough wsX9_areEnough) := goodIn_app (goodIn_r _ [10, 11, 12, 13] rfl (by decide +kernel)) ggX9_findFewest_X9_areEnough
set_option maxRecDepth 20000 in
theorem ggX9_findFewest_J6_bitCount_0f7a4 : GoodIn wsX9_findFewest wsJ6_bitCount_0f7a4 := goodIn_r _ [90, 91, 92, 93] rfl (by decide +kernel)
set_option maxRecDepth 20000 in
theorem gX9_findFewest_J6_bitCount_0f7a4 : GoodIn wsX9_findFewest (va_wsS RX9 171 yJ6_bitCount_0f7a4 wsJ6_bitCount_0f7a4) := goodIn_app (goodIn_of _ (by decide +kernel)) ggX9_findFewest_J6_bitCount_0f7a4
theorem dX9_findFewest_0 : decode cX9_findFewest 0 = .ok (.aload_n 0, 1) := by decide +kernel
theorem dX9_findFewest_1 : decode cX9_findFewest 1 = .ok (.getfield 12, 3) := by decide +kernel
theorem dX9_findFewest_4 : decode cX9_findFewest 4 = .ok (.getfield 75, 3) := by decide +kernel
theorem dX9_findFewest_7 : decode cX9_findFewest 7 = .ok (.invokevirtual 209, 3) := by decide +kernel
theorem dX9_findFewest_10 : decode cX9_findFewest 10 = .ok (.istore_n 1, 1) := by decide +kernel
theorem dX9_findFewest_11 : decode cX9_findFewest 11 = .ok (.aload_n 0, 1) := by decide +kernel
theorem dX9_findFewest_12 : decode cX9_findFewest 12 = .ok (.iload_n 1, 1) := by decide +kernel
theorem dX9_findFewest_13 : decode cX9_findFewest 13 = .ok (.invokevirtual 212, 3) := by decide +kernel
theorem dX9_findFewest_16 : decode cX9_findFewest 16 = .ok (.ifCond .ne 5, 3) := by decide +kernel
theorem dX9_findFewest_19 : decode cX9_findFewest 19 = .ok (.iconst (-1), 1) := by decide +kernel
theorem dX9_findFewest_20 : decode cX9_findFewest 20 = .ok (.ireturn, 1) := by decide +kernel
theorem dX9_findFewest_21 : decode cX9_findFewest 21 = .ok (.iload_n 1, 1) := by decide +kernel
theorem dX9_findFewest_22 : decode cX9_findFewest 22 = .ok (.istore_n 2, 1) := by decide +kernel
theorem dX9_findFewest_23 : decode cX9_findFewest 23 = .ok (.iconst 0, 1) := by decide +kernel
theorem dX9_findFewest_24 : decode cX9_findFewest 24 = .ok (.istore_n 3, 1) := by decide +kernel
theorem dX9_findFewest_25 : decode cX9_findFewest 25 = .ok (.iload_n 3, 1) := by decide +kernel
theorem dX9_findFewest_26 : decode cX9_findFewest 26 = .ok (.iload_n 1, 1) := by decide +kernel
theorem dX9_findFewest_27 : decode cX9_findFewest 27 = .ok (.if_icmp .ge 50, 3) := by decide +kernel
theorem dX9_findFewest_30 : decode cX9_findFewest 30 = .ok (.iload_n 3, 1) := by decide +kernel
theorem dX9_findFewest_31 : decode cX9_findFewest 31 = .ok (.invokestatic 171, 3) := by decide +kernel
theorem dX9_findFewest_34 : decode cX9_findFewest 34 = .ok (.iload_n 2, 1) := by decide +kernel
theorem dX9_findFewest_35 : decode cX9_findFewest 35 = .ok (.invokestatic 171, 3) := by decide +kernel
theorem dX9_findFewest_38 : decode cX9_findFewest 38 = .ok (.if_icmp .ge 7, 3) := by decide +kernel
theorem dX9_findFewest_41 : decode cX9_findFewest 41 = .ok (.iconst 1, 1) := by decide +kernel
theorem dX9_findFewest_42 : decode cX9_findFewest 42 = .ok (.goto 4, 3) := by decide +kernel
theorem dX9_findFewest_45 : decode cX9_findFewest 45 = .ok (.iconst 0, 1) := by decide +kernel
theorem dX9_findFewest_46 : decode cX9_findFewest 46 = .ok (.istore 4, 2) := by decide +kernel
theorem dX9_findFewest_48 : decode cX9_findFewest 48 = .ok (.iload_n 3, 1) := by decide +kernel
theorem dX9_findFewest_49 : decode cX9_findFewest 49 = .ok (.iload_n 1, 1) := by decide +kernel
theorem dX9_findFewest_50 : decode cX9_findFewest 50 = .ok (.iconst (-1), 1) := by decide +kernel
theorem dX9_findFewest_51 : decode cX9_findFewest 51 = .ok (.ixor, 1) := by decide +kernel
theorem dX9_findFewest_52 : decode cX9_findFewest 52 = .ok (.iand, 1) := by decide +kernel
theorem dX9_findFewest_53 : decode cX9_findFewest 53 = .ok (.ifCond .ne 18, 3) := by decide +kernel
theorem dX9_findFewest_56 : decode cX9_findFewest 56 = .ok (.iload 4, 2) := by decide +kernel
theorem dX9_findFewest_58 : decode cX9_findFewest 58 = .ok (.ifCond .eq 13, 3) := by decide +kernel
theorem dX9_findFewest_61 : decode cX9_findFewest 61 = .ok (.aload_n 0, 1) := by decide +kernel
theorem dX9_findFewest_62 : decode cX9_findFewest 62 = .ok (.iload_n 3, 1) := by decide +kernel
theorem dX9_findFewest_63 : decode cX9_findFewest 63 = .ok (.invokevirtual 212, 3) := by decide +kernel
theorem dX9_findFewest_66 : decode cX9_findFewest 66 = .ok (.ifCond .eq 5, 3) := by decide +kernel
theorem dX9_findFewest_69 : decode cX9_findFewest 69 = .ok (.iload_n 3, 1) := by decide +kernel
theorem dX9_findFewest_70 : decode cX9_findFewest 70 = .ok (.istore_n 2, 1) := by decide +kernel
theorem dX9_findFewest_71 : decode cX9_findFewest 71 = .ok (.iinc 3 1, 3) := by decide +kernel
theorem dX9_findFewest_74 : decode cX9_findFewest 74 = .ok (.goto (-49), 3) := by decide +kernel
theorem dX9_findFewest_77 : decode cX9_findFewest 77 = .ok (.iload_n 2, 1) := by decide +kernel
theorem dX9_findFewest_78 : decode cX9_findFewest 78 = .ok (.ireturn, 1) := by decide +kernel
