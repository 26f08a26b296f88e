theorem dJ6_bitCount_0f7a4_0 : decode cJ6_bitCount_0f7a4 0 = .ok (.iload_n 0, 1) := by decide +kernel
theorem dJ6_bitCount_0f7a4_1 : decode cJ6_bitCount_0f7a4 1 = .ok (.iload_n 0, 1) := by decide +kernel
theorem dJ6_bitCount_0f7a4_2 : decode cJ6_bitCount_0f7a4 2 = .ok (.iconst 1, 1) := by decide +kernel
theorem dJ6_bitCount_0f7a4_3 : decode cJ6_bitCount_0f7a4 3 = .ok (.iushr, 1) := by decide +kernel
theorem dJ6_bitCount_0f7a4_4 : decode cJ6_bitCount_0f7a4 4 = .ok (.ldc_w 265, 3) := by decide +kernel
theorem dJ6_bitCount_0f7a4_7 : decode cJ6_bitCount_0f7a4 7 = .ok (.iand, 1) := by decide +kernel
theorem dJ6_bitCount_0f7a4_8 : decode cJ6_bitCount_0f7a4 8 = .ok (.isub, 1) := by decide +kernel
theorem dJ6_bitCount_0f7a4_9 : decode cJ6_bitCount_0f7a4 9 = .ok (.istore_n 0, 1) := by decide +kernel
theorem dJ6_bitCount_0f7a4_10 : decode cJ6_bitCount_0f7a4 10 = .ok (.iload_n 0, 1) := by decide +kernel
theorem dJ6_bitCount_0f7a4_11 : decode cJ6_bitCount_0f7a4 11 = .ok (.ldc_w 266, 3) := by decide +kernel
theorem dJ6_bitCount_0f7a4_14 : decode cJ6_bitCount_0f7a4 14 = .ok (.iand, 1) := by decide +kernel
theorem dJ6_bitCount_0f7a4_15 : decode cJ6_bitCount_0f7a4 15 = .ok (.iload_n 0, 1) := by decide +kernel
theorem dJ6_bitCount_0f7a4_16 : decode cJ6_bitCount_0f7a4 16 = .ok (.iconst 2, 1) := by decide +kernel
theorem dJ6_bitCount_0f7a4_17 : decode cJ6_bitCount_0f7a4 17 = .ok (.iushr, 1) := by decide +kernel
theorem dJ6_bitCount_0f7a4_18 : decode cJ6_bitCount_0f7a4 18 = .ok (.ldc_w 266, 3) := by decide +kernel
theorem dJ6_bitCount_0f7a4_21 : decode cJ6_bitCount_0f7a4 21 = .ok (.iand, 1) := by decide +kernel
theorem dJ6_bitCount_0f7a4_22 : decode cJ6_bitCount_0f7a4 22 = .ok (.iadd, 1) := by decide +kernel
theorem dJ6_bitCount_0f7a4_23 : decode cJ6_bitCount_0f7a4 23 = .ok (.istore_n 0, 1) := by decide +kernel
theorem dJ6_bitCount_0f7a4_24 : decode cJ6_bitCount_0f7a4 24 = .ok (.iload_n 0, 1) := by decide +kernel
theorem dJ6_bitCount_0f7a4_25 : decode cJ6_bitCount_0f7a4 25 = .ok (.iload_n 0, 1) := by decide +kernel
theorem dJ6_bitCount_0f7a4_26 : decode cJ6_bitCount_0f7a4 26 = .ok (.iconst 4, 1) := by decide +kernel
theorem dJ6_bitCount_0f7a4_27 : decode cJ6_bitCount_0f7a4 27 = .ok (.iushr, 1) := by decide +kernel
theorem dJ6_bitCount_0f7a4_28 : decode cJ6_bitCount_0f7a4 28 = .ok (.iadd, 1) := by decide +kernel
theorem dJ6_bitCount_0f7a4_29 : decode cJ6_bitCount_0f7a4 29 = .ok (.ldc_w 267, 3) := by decide +kernel
theorem dJ6_bitCount_0f7a4_32 : decode cJ6_bitCount_0f7a4 32 = .ok (.iand, 1) := by decide +kernel
theorem dJ6_bitCount_0f7a4_33 : decode cJ6_bitCount_0f7a4 33 = .ok (.istore_n 0, 1) := by decide +kernel
theorem dJ6_bitCount_0f7a4_34 : decode cJ6_bitCount_0f7a4 34 = .ok (.iload_n 0, 1) := by decide +kernel
theorem dJ6_bitCount_0f7a4_35 : decode cJ6_bitCount_0f7a4 35 = .ok (.iload_n 0, 1) := by decide +kernel
theorem dJ6_bitCount_0f7a4_36 : decode cJ6_bitCount_0f7a4 36 = .ok (.bipush 8, 2) := by decide +kernel
theorem dJ6_bitCount_0f7a4_38 : decode cJ6_bitCount_0f7a4 38 = .ok (.iushr, 1) := by decide +kernel
theorem dJ6_bitCount_0f7a4_39 : decode cJ6_bitCount_0f7a4 39 = .ok (.iadd, 1) := by decide +kernel
theorem dJ6_bitCount_0f7a4_40 : decode cJ6_bitCount_0f7a4 40 = .ok (.istore_n 0, 1) := by decide +kernel
theorem dJ6_bitCount_0f7a4_41 : decode cJ6_bitCount_0f7a4 41 = .ok (.iload_n 0, 1) := by decide +kernel
theorem dJ6_bitCount_0f7a4_42 : decode cJ6_bitCount_0f7a4 42 = .ok (.iload_n 0, 1) := by decide +kernel
theorem dJ6_bitCount_0f7a4_43 : decode cJ6_bitCount_0f7a4 43 = .ok (.bipush 16, 2) := by decide +kernel
theorem dJ6_bitCount_0f7a4_45 : decode cJ6_bitCount_0f7a4 45 = .ok (.iushr, 1) := by decide +kernel
theorem dJ6_bitCount_0f7a4_46 : decode cJ6_bitCount_0f7a4 46 = .ok (.iadd, 1) := by decide +kernel
theorem dJ6_bitCount_0f7a4_47 : decode cJ6_bitCount_0f7a4 47 = .ok (.istore_n 0, 1) := by decide +kernel
theorem dJ6_bitCount_0f7a4_48 : decode cJ6_bitCount_0f7a4 48 = .ok (.iload_n 0, 1) := by decide +kernel
theorem dJ6_bitCount_0f7a4_49 : decode cJ6_bitCount_0f7a4 49 = .ok (.bipush 63, 2) := by decide +kernel
theorem dJ6_bitCount_0f7a4_51 : decode cJ6_bitCount_0f7a4 51 = .ok (.iand, 1) := by decide +kernel
theorem dJ6_bitCount_0f7a4_52 : decode cJ6_bitCount_0f7a4 52 = .ok (.ireturn, 1) := by decide +kernel
theorem dJ9_min_7cf53_0 : decode cJ9_min_7cf53 0 = .ok (.iload_n 0, 1) := by decide +kernel
theorem dJ9_min_7cf53_1 : decode cJ9_min_7cf53 1 = .ok (.iload_n 1, 1) := by decide +kernel
theorem dJ9_min_7cf53_2 : decode cJ9_min_7cf53 2 = .ok (.if_icmp .gt 7, 3) := by decide +kernel
theorem dJ9_min_7cf53_5 : decode cJ9_min_7cf53 5 = .ok (.iload_n 0, 1) := by decide +kernel
theorem dJ9_min_7cf53_6 : decode cJ9_min_7cf53 6 = .ok (.goto 4, 3) := by decide +kernel
theorem dJ9_min_7cf53_9 : decode cJ9_min_7cf53 9 = .ok (.iload_n 1, 1) := by decide +kernel
theorem dJ9_min_7cf53_10 : decode cJ9_min_7cf53 10 = .ok (.ireturn, 1) := by decide +kernel
theorem dJ7_fill_53178_0 : decode cJ7_fill_53178 0 = .ok (.iconst 0, 1) := by decide +kernel
theorem dJ7_fill_53178_1 : decode cJ7_fill_53178 1 = .ok (.istore_n 2, 1) := by decide +kernel
theorem dJ7_fill_53178_2 : decode cJ7_fill_53178 2 = .ok (.aload_n 0, 1) := by decide +kernel
theorem dJ7_fill_53178_3 : decode cJ7_fill_53178 3 = .ok (.arraylength, 1) := by decide +kernel
theorem dJ7_fill_53178_4 : decode cJ7_fill_53178 4 = .ok (.istore_n 3, 1) := by decide +kernel
theorem dJ7_fill_53178_5 : decode cJ7_fill_53178 5 = .ok (.iload_n 2, 1) := by decide +kernel
theorem dJ7_fill_53178_6 : decode cJ7_fill_53178 6 = .ok (.iload_n 3, 1) := by decide +kernel
theorem dJ7_fill_53178_7 : decode cJ7_fill_53178 7 = .ok (.if_icmp .ge 13, 3) := by decide +kernel
theorem dJ7_fill_53178_10 : decode cJ7_fill_53178 10 = .ok (.aload_n 0, 1) := by decide +kernel
theorem dJ7_fill_53178_11 : decode cJ7_fill_53178 11 = .ok (.iload_n 2, 1) := by decide +kernel
theorem dJ7_fill_53178_12 : decode cJ7_fill_53178 12 = .ok (.iload_n 1, 1) := by decide +kernel
theorem dJ7_fill_53178_13 : decode cJ7_fill_53178 13 = .ok (.iastore, 1) := by decide +kernel
theorem dJ7_fill_53178_14 : decode cJ7_fill_53178 14 = .ok (.iinc 2 1, 3) := by decide +kernel
theorem dJ7_fill_53178_17 : decode cJ7_fill_53178 17 = .ok (.goto (-12), 3) := by decide +kernel
theorem dJ7_fill_53178_20 : decode cJ7_fill_53178 20 = .ok (.return_, 1) := by decide +kernel
set_option maxRecDepth 20000 in
theorem ggX0_init_X4_init : GoodIn wsX0_init wsX4_init := goodIn_r _ [9, 10, 2, 3, 11, 12, 13, 14, 15, 16, 17, 18, 19, 20, 21, 22, 23, 24, 25, 26, 27, 28, 29, 30, 36, 37, 38, 39, 40, 41, 34, 35, 42, 43, 44] rfl (by decide +kernel)
set_option maxRecDepth 20000 in
theorem gX0_init_X4_init_n17 : GoodIn wsX0_init (wsX4_init) := ggX0_init_X4_init
theorem dX0_init_0 : decode cX0_init 0 = .ok (.aload_n 0, 1) := by decide +kernel
theorem dX0_init_1 : decode cX0_init 1 = .ok (.invokespecial 3, 3) := by decide +kernel
theorem dX0_init_4 : decode cX0_init 4 = .ok (.aload_n 0, 1) := by decide +kernel
theorem dX0_init_5 : decode cX0_init 5 = .ok (.bipush 6, 2) := by decide +kernel
theorem dX0_init_7 : decode cX0_init 7 = .ok (.anewarray 9, 3) := by decide +kernel
theorem dX0_init_10 : decode cX0_init 10 = .ok (.putfield 11, 3) := by decide +kernel
theorem dX0_init_13 : decode cX0_init 13 = .ok (.iconst 0, 1) := by decide +kernel
theorem dX0_init_14 : decode cX0_init 14 = .ok (.istore_n 1, 1) := by decide +kernel
theorem dX0_init_15 : decode cX0_init 15 = .ok (.iload_n 1, 1) := by decide +kernel
theorem dX0_init_16 : decode cX0_init 16 = .ok (.bipush 6, 2) := by decide +kernel
theorem dX0_init_18 : decode cX0_init 18 = .ok (.if_icmp .ge 22, 3) := by decide +kernel
theorem dX0_init_21 : decode cX0_init 21 = .ok (.aload_n 0, 1) := by decide +kernel
theorem dX0_init_22 : decode cX0_init 22 = .ok (.getfield 11, 3) := by decide +kernel
theorem dX0_init_25 : decode cX0_init 25 = .ok (.iload_n 1, 1) := by decide +kernel
theorem dX0_init_26 : decode cX0_init 26 = .ok (.new 9, 3) := by decide +kernel
theorem dX0_init_29 : decode cX0_init 29 = .ok (.dup, 1) := by decide +kernel
theorem dX0_init_30 : decode cX0_init 30 = .ok (.invokespecial 17, 3) := by decide +kernel
theorem dX0_init_33 : decode cX0_init 33 = .ok (.aastore, 1) := by decide +kernel
theorem dX0_init_34 : decode cX0_init 34 = .ok (.iinc 1 1, 3) := by decide +kernel
theorem dX0_init_37 : decode cX0_init 37 = .ok (.goto (-22), 3) := by decide +kernel
theorem dX0_init_40 : decode cX0_init 40 = .ok (.return_, 1) := by decide +kernel
set_option maxRecDepth 20000 in
theorem ggX0_keep_X4_take : GoodIn wsX0_keep wsX4_take := goodIn_r _ [12, 13, 14, 15, 16, 17, 18, 19, 20, 21, 22, 23, 24, 25, 26, 27, 28, 29, 30, 31, 32, 33, 34, 35, 36, 37, 38, 42, 43, 44, 45, 46, 47, 48, 49, 50, 51, 52] rfl (by decide +kernel)
set_option maxRecDepth 20000 in
theorem gX0_keep_X4_take : GoodIn wsX0_keep (wsV RX0 22 RX4 yX4_take wsX4_take) := goodIn_app (goodIn_r _ [8, 9, 10, 11] rfl (by decide +kernel)) ggX0_keep_X4_take
theorem dX0_keep_0 : decode cX0_keep 0 = .ok (.aload_n 0, 1) := by decide +kernel
theorem dX0_keep_1 : decode cX0_keep 1 = .ok (.getfield 11, 3) := by decide +kernel
theorem dX0_keep_4 : decode cX0_keep 4 = .ok (.aload_n 0, 1) := by decide +kernel
theorem dX0_keep_5 : decode cX0_keep 5 = .ok (.getfield 18, 3) := by decide +kernel
theorem dX0_keep_8 : decode cX0_keep 8 = .ok (.aaload, 1) := by decide +kernel
theorem dX0_keep_9 : decode cX0_keep 9 = .ok (.aload_n 1, 1) := by decide +kernel
theorem dX0_keep_10 : decode cX0_keep 10 = .ok (.invokevirtual 22, 3) := by decide +kernel
theorem dX0_keep_13 : decode cX0_keep 13 = .ok (.aload_n 0, 1) := by decide +kernel
theorem dX0_keep_14 : decode cX0_keep 14 = .ok (.aload_n 0, 1) := by decide +kernel
theorem dX0_keep_15 : decode cX0_keep 15 = .ok (.getfield 18, 3) := by decide +kernel
theorem dX0_keep_18 : decode cX0_keep 18 = .ok (.iconst 5, 1) := by decide +kernel
theorem dX0_keep_19 : decode cX0_keep 19 = .ok (.if_icmp .ne 7, 3) := by decide +kernel
theorem dX0_keep_22 : decode cX0_keep 22 = .ok (.iconst 0, 1) := by decide +kernel
theorem dX0_keep_23 : decode cX0_keep 23 = .ok (.goto 9, 3) := by decide +kernel
theorem dX0_keep_26 : decode cX0_keep 26 = .ok (.aload_n 0, 1) := by decide +kernel
theorem dX0_keep_27 : decode cX0_keep 27 = .ok (.getfield 18, 3) := by decide +kernel
theorem dX0_keep_30 : decode cX0_keep 30 = .ok (.iconst 1, 1) := by decide +kernel
theorem dX0_keep_31 : decode cX0_keep 31 = .ok (.iadd, 1) := by decide +kernel
theorem dX0_keep_32 : decode cX0_keep 32 = .ok (.putfield 18, 3) := by decide +kernel
theorem dX0_keep_35 : decode cX0_keep 35 = .ok (.aload_n 0, 1) := by decide +kernel
theorem dX0_keep_36 : decode cX0_keep 36 = .ok (.aload_n 0, 1) := by decide +kernel
theorem dX0_keep_37 : decode cX0_keep 37 = .ok (.getfield 26, 3) := by decide +kernel
theorem dX0_keep_40 : decode cX0_keep 40 = .ok (.iconst 1, 1) := by decide +kernel
theorem dX0_keep_41 : decode cX0_keep 41 = .ok (.iadd, 1) := by decide +kernel
theorem dX0_keep_42 : decode cX0_keep 42 = .ok (.bipush 6, 2) := by decide +kernel
theorem dX0_keep_44 : decode cX0_keep 44 = .ok (.invokestatic 29, 3) := by decide +kernel
theorem dX0_keep_47 : decode cX0_keep 47 = .ok (.putfield 26, 3) := by decide +kernel
theorem dX0_keep_50 : decode cX0_keep 50 = .ok (.return_, 1) := by decide +kernel
set_option maxRecDepth 20000 in
theorem ggX0_giveBack_X4_take : GoodIn wsX0_giveBack wsX4_take := goodIn_r _ [8, 9, 10, 11, 12, 13, 14, 15, 16, 17, 18, 19, 20, 21, 22, 23, 24, 25, 26, 27, 28, 29, 30, 31, 32, 33, 34, 38, 39, 40, 41, 42, 43, 44, 45, 46, 47, 48] rfl (by decide +kernel)
set_option maxRecDepth 20000 in
theorem gX0_giveBack_X4_take : GoodIn wsX0_giveBack (wsV RX0 22 RX4 yX4_take wsX4_take) := goodIn_app (goodIn_r _ [4, 5, 6, 7] rfl (by decide +kernel)) ggX0_giveBack_X4_take
theorem dX0_giveBack_0 : decode cX0_giveBack 0 = .ok (.aload_n 0, 1) := by decide +kernel
theorem dX0_giveBack_1 : decode cX0_giveBack 1 = .ok (.getfield 26, 3) := by decide +kernel
theorem dX0_giveBack_4 : decode cX0_giveBack 4 = .ok (.ifCond .le 47, 3) := by decide +kernel
theorem dX0_giveBack_7 : decode cX0_giveBack 7 = .ok (.aload_n 0, 1) := by decide +kernel
theorem dX0_giveBack_8 : decode cX0_giveBack 8 = .ok (.aload_n 0, 1) := by decide +kernel
theorem dX0_giveBack_9 : decode cX0_giveBack 9 = .ok (.getfield 18, 3) := by decide +kernel
theorem dX0_giveBack_12 : decode cX0_giveBack 12 = .ok (.ifCond .ne 7, 3) := by decide +kernel
theorem dX0_giveBack_15 : decode cX0_giveBack 15 = .ok (.iconst 5, 1) := by decide +kernel
theorem dX0_giveBack_16 : decode cX0_giveBack 16 = .ok (.goto 9, 3) := by decide +kernel
theorem dX0_giveBack_19 : decode cX0_giveBack 19 = .ok (.aload_n 0, 1) := by decide +kernel
theorem dX0_giveBack_20 : decode cX0_giveBack 20 = .ok (.getfield 18, 3) := by decide +kernel
theorem dX0_giveBack_23 : decode cX0_giveBack 23 = .ok (.iconst 1, 1) := by decide +kernel
theorem dX0_giveBack_24 : decode cX0_giveBack 24 = .ok (.isub, 1) := by decide +kernel
theorem dX0_giveBack_25 : decode cX0_giveBack 25 = .ok (.putfield 18, 3) := by decide +kernel
theorem dX0_giveBack_28 : decode cX0_giveBack 28 = .ok (.aload_n 0, 1) := by decide +kernel
theorem dX0_giveBack_29 : decode cX0_giveBack 29 = .ok (.dup, 1) := by decide +kernel
theorem dX0_giveBack_30 : decode cX0_giveBack 30 = .ok (.getfield 26, 3) := by decide +kernel
theorem dX0_giveBack_33 : decode cX0_giveBack 33 = .ok (.iconst 1, 1) := by decide +kernel
theorem dX0_giveBack_34 : decode cX0_giveBack 34 = .ok (.isub, 1) := by decide +kernel
theorem dX0_giveBack_35 : decode cX0_giveBack 35 = .ok (.putfield 26, 3) := by decide +kernel
theorem dX0_giveBack_38 : decode cX0_giveBack 38 = .ok (.aload_n 1, 1) := by decide +kernel
theorem dX0_giveBack_39 : decode cX0_giveBack 39 = .ok (.aload_n 0, 1) := by decide +kernel
theorem dX0_giveBack_40 : decode cX0_giveBack 40 = .ok (.getfield 11, 3) := by decide +kernel
theorem dX0_giveBack_43 : decode cX0_giveBack 43 = .ok (.aload_n 0, 1) := by decide +kernel
theorem dX0_giveBack_44 : decode cX0_giveBack 44 = .ok (.getfield 18, 3) := by decide +kernel
theorem dX0_giveBack_47 : decode cX0_giveBack 47 = .ok (.aaload, 1) := by decide +kernel
theorem dX0_giveBack_48 : decode cX0_giveBack 48 = .ok (.invokevirtual 22, 3) := by decide +kernel
theorem dX0_giveBack_51 : decode cX0_giveBack 51 = .ok (.return_, 1) := by decide +kernel
theorem dX1_init_0 : decode cX1_init 0 = .ok (.aload_n 0, 1) := by decide +kernel
theorem dX1_init_1 : decode cX1_init 1 = .ok (.invokespecial 3, 3) := by decide +kernel
theorem dX1_init_4 : decode cX1_init 4 = .ok (.aload_n 0, 1) := by decide +kernel
theorem dX1_init_5 : decode cX1_init 5 = .ok (.bipush 24, 2) := by decide +kernel
theorem dX1_init_7 : decode cX1_init 7 = .ok (.newarray .int, 2) := by decide +kernel
theorem dX1_init_9 : decode cX1_init 9 = .ok (.putfield 9, 3) := by decide +kernel
theorem dX1_init_12 : decode cX1_init 12 = .ok (.aload_n 0, 1) := by decide +kernel
theorem dX1_init_13 : decode cX1_init 13 = .ok (.bipush 24, 2) := by decide +kernel
theorem dX1_init_15 : decode cX1_init 15 = .ok (.newarray .int, 2) := by decide +kernel
theorem dX1_init_17 : decode cX1_init 17 = .ok (.putfield 15, 3) := by decide +kernel
theorem dX1_init_20 : decode cX1_init 20 = .ok (.aload_n 0, 1) := by decide +kernel
theorem dX1_init_21 : decode cX1_init 21 = .ok (.bipush 24, 2) := by decide +kernel
theorem dX1_init_23 : decode cX1_init 23 = .ok (.newarray .int, 2) := by decide +kernel
theorem dX1_init_25 : decode cX1_init 25 = .ok (.putfield 18, 3) := by decide +kernel
theorem dX1_init_28 : decode cX1_init 28 = .ok (.aload_n 0, 1) := by decide +kernel
theorem dX1_init_29 : decode cX1_init 29 = .ok (.sipush 255, 3) := by decide +kernel
theorem dX1_init_32 : decode cX1_init 32 = .ok (.putfield 21, 3) := by decide +kernel
theorem dX1_init_35 : decode cX1_init 35 = .ok (.return_, 1) := by decide +kernel
theorem dX1_isFull_0 : decode cX1_isFull 0 = .ok (.aload_n 0, 1) := by decide +kernel
theorem dX1_isFull_1 : decode cX1_isFull 1 = .ok (.getfield 25, 3) := by decide +kernel
theorem dX1_isFull_4 : decode cX1_isFull 4 = .ok (.bipush 24, 2) := by decide +kernel
theorem dX1_isFull_6 : decode cX1_isFull 6 = .ok (.if_icmp .lt 7, 3) := by decide +kernel
theorem dX1_isFull_9 : decode cX1_isFull 9 = .ok (.iconst 1, 1) := by decide +kernel
theorem dX1_isFull_10 : decode cX1_isFull 10 = .ok (.goto 4, 3) := by decide +kernel
theorem dX1_isFull_13 : decode cX1_isFull 13 = .ok (.iconst 0, 1) := by decide +kernel
theorem dX1_isFull_14 : decode cX1_isFull 14 = .ok (.ireturn, 1) := by decide +kernel
theorem dX1_isSeen_0 : decode cX1_isSeen 0 = .ok (.aload_n 0, 1) := by decide +kernel
theorem dX1_isSeen_1 : decode cX1_isSeen 1 = .ok (.getfield 21, 3) := by decide +kernel
theorem dX1_isSeen_4 : decode cX1_isSeen 4 = .ok (.iload_n 1, 1) := by decide +kernel
theorem dX1_isSeen_5 : decode cX1_isSeen 5 = .ok (.ishr, 1) := by decide +kernel
theorem dX1_isSeen_6 : decode cX1_isSeen 6 = .ok (.iconst 1, 1) := by decide +kernel
theorem dX1_isSeen_7 : decode cX1_isSeen 7 = .ok (.iand, 1) := by decide +kernel
theorem dX1_isSeen_8 : decode cX1_isSeen 8 = .ok (.iconst 1, 1) := by decide +kernel
theorem dX1_isSeen_9 : decode cX1_isSeen 9 = .ok (.if_icmp .ne 7, 3) := by decide +kernel
theorem dX1_isSeen_12 : decode cX1_isSeen 12 = .ok (.iconst 1, 1) := by decide +kernel
theorem dX1_isSeen_13 : decode cX1_isSeen 13 = .ok (.goto 4, 3) := by decide +kernel
theorem dX1_isSeen_16 : decode cX1_isSeen 16 = .ok (.iconst 0, 1) := by decide +kernel
theorem dX1_isSeen_17 : decode cX1_isSeen 17 = .ok (.ireturn, 1) := by decide +kernel
theorem dX1_isFault_0 : decode cX1_isFault 0 = .ok (.aload_n 0, 1) := by decide +kernel
theorem dX1_isFault_1 : decode cX1_isFault 1 = .ok (.getfield 28, 3) := by decide +kernel
theorem dX1_isFault_4 : decode cX1_isFault 4 = .ok (.iload_n 1, 1) := by decide +kernel
theorem dX1_isFault_5 : decode cX1_isFault 5 = .ok (.ishr, 1) := by decide +kernel
theorem dX1_isFault_6 : decode cX1_isFault 6 = .ok (.iconst 1, 1) := by decide +kernel
theorem dX1_isFault_7 : decode cX1_isFault 7 = .ok (.iand, 1) := by decide +kernel
theorem dX1_isFault_8 : decode cX1_isFault 8 = .ok (.iconst 1, 1) := by decide +kernel
theorem dX1_isFault_9 : decode cX1_isFault 9 = .ok (.if_icmp .ne 7, 3) := by decide +kernel
theorem dX1_isFault_12 : decode cX1_isFault 12 = .ok (.iconst 1, 1) := by decide +kernel
theorem dX1_isFault_13 : decode cX1_isFault 13 = .ok (.goto 4, 3) := by decide +kernel
theorem dX1_isFault_16 : decode cX1_isFault 16 = .ok (.iconst 0, 1) := by decide +kernel
theorem dX1_isFault_17 : decode cX1_isFault 17 = .ok (.ireturn, 1) := by decide +kernel
theorem dX1_eyesFree_0 : decode cX1_eyesFree 0 = .ok (.sipush 255, 3) := by decide +kernel
theorem dX1_eyesFree_3 : decode cX1_eyesFree 3 = .ok (.aload_n 0, 1) := by decide +kernel
theorem dX1_eyesFree_4 : decode cX1_eyesFree 4 = .ok (.getfield 21, 3) := by decide +kernel
theorem dX1_eyesFree_7 : decode cX1_eyesFree 7 = .ok (.iconst (-1), 1) := by decide +kernel
theorem dX1_eyesFree_8 : decode cX1_eyesFree 8 = .ok (.ixor, 1) := by decide +kernel
theorem dX1_eyesFree_9 : decode cX1_eyesFree 9 = .ok (.iand, 1) := by decide +kernel
theorem dX1_eyesFree_10 : decode cX1_eyesFree 10 = .ok (.aload_n 0, 1) := by decide +kernel
theorem dX1_eyesFree_11 : decode cX1_eyesFree 11 = .ok (.getfield 28, 3) := by decide +kernel
theorem dX1_eyesFree_14 : decode cX1_eyesFree 14 = .ok (.iconst (-1), 1) := by decide +kernel
theorem dX1_eyesFree_15 : decode cX1_eyesFree 15 = .ok (.ixor, 1) := by decide +kernel
theorem dX1_eyesFree_16 : decode cX1_eyesFree 16 = .ok (.iand, 1) := by decide +kernel
theorem dX1_eyesFree_17 : decode cX1_eyesFree 17 = .ok (.ireturn, 1) := by decide +kernel
theorem dX1_has_0 : decode cX1_has 0 = .ok (.iconst 0, 1) := by decide +kernel
theorem dX1_has_1 : decode cX1_has 1 = .ok (.istore 4, 2) := by decide +kernel
theorem dX1_has_3 : decode cX1_has 3 = .ok (.iload 4, 2) := by decide +kernel
theorem dX1_has_5 : decode cX1_has 5 = .ok (.aload_n 0, 1) := by decide +kernel
theorem dX1_has_6 : decode cX1_has 6 = .ok (.getfield 25, 3) := by decide +kernel
theorem dX1_has_9 : decode cX1_has 9 = .ok (.if_icmp .ge 44, 3) := by decide +kernel
theorem dX1_has_12 : decode cX1_has 12 = .ok (.aload_n 0, 1) := by decide +kernel
theorem dX1_has_13 : decode cX1_has 13 = .ok (.getfield 9, 3) := by decide +kernel
theorem dX1_has_16 : decode cX1_has 16 = .ok (.iload 4, 2) := by decide +kernel
theorem dX1_has_18 : decode cX1_has 18 = .ok (.iaload, 1) := by decide +kernel
theorem dX1_has_19 : decode cX1_has 19 = .ok (.iload_n 1, 1) := by decide +kernel
theorem dX1_has_20 : decode cX1_has 20 = .ok (.if_icmp .ne 27, 3) := by decide +kernel
theorem dX1_has_23 : decode cX1_has 23 = .ok (.aload_n 0, 1) := by decide +kernel
theorem dX1_has_24 : decode cX1_has 24 = .ok (.getfield 15, 3) := by decide +kernel
theorem dX1_has_27 : decode cX1_has 27 = .ok (.iload 4, 2) := by decide +kernel
theorem dX1_has_29 : decode cX1_has 29 = .ok (.iaload, 1) := by decide +kernel
theorem dX1_has_30 : decode cX1_has 30 = .ok (.iload_n 2, 1) := by decide +kernel
theorem dX1_has_31 : decode cX1_has 31 = .ok (.if_icmp .ne 16, 3) := by decide +kernel
theorem dX1_has_34 : decode cX1_has 34 = .ok (.aload_n 0, 1) := by decide +kernel
theorem dX1_has_35 : decode cX1_has 35 = .ok (.getfield 18, 3) := by decide +kernel
theorem dX1_has_38 : decode cX1_has 38 = .ok (.iload 4, 2) := by decide +kernel
theorem dX1_has_40 : decode cX1_has 40 = .ok (.iaload, 1) := by decide +kernel
theorem dX1_has_41 : decode cX1_has 41 = .ok (.iload_n 3, 1) := by decide +kernel
theorem dX1_has_42 : decode cX1_has 42 = .ok (.if_icmp .ne 5, 3) := by decide +kernel
theorem dX1_has_45 : decode cX1_has 45 = .ok (.iconst 1, 1) := by decide +kernel
theorem dX1_has_46 : decode cX1_has 46 = .ok (.ireturn, 1) := by decide +kernel
theorem dX1_has_47 : decode cX1_has 47 = .ok (.iinc 4 1, 3) := by decide +kernel
theorem dX1_has_50 : decode cX1_has 50 = .ok (.goto (-47), 3) := by decide +kernel
theorem dX1_has_53 : decode cX1_has 53 = .ok (.iconst 0, 1) := by decide +kernel
theorem dX1_has_54 : decode cX1_has 54 = .ok (.ireturn, 1) := by decide +kernel
set_option maxRecDepth 20000 in
theorem ggX1_add_X1_isFull : GoodIn wsX1_add wsX1_isFull := goodIn_r _ [9, 2, 10, 11, 12, 13, 14, 15] rfl (by decide +kernel)
set_option maxRecDepth 20000 in
theorem gX1_add_X1_isFull : GoodIn wsX1_add (wsV RX1 31 RX1 yX1_isFull wsX1_isFull) := goodIn_app (goodIn_r _ [5, 6, 7, 8] rfl (by decide +kernel)) ggX1_add_X1_isFull
theorem dX1_add_0 : decode cX1_add 0 = .ok (.aload_n 0, 1) := by decide +kernel
theorem dX1_add_1 : decode cX1_add 1 = .ok (.invokevirtual 31, 3) := by decide +kernel
theorem dX1_add_4 : decode cX1_add 4 = .ok (.ifCond .ne 43, 3) := by decide +kernel
theorem dX1_add_7 : decode cX1_add 7 = .ok (.aload_n 0, 1) := by decide +kernel
theorem dX1_add_8 : decode cX1_add 8 = .ok (.getfield 9, 3) := by decide +kernel
theorem dX1_add_11 : decode cX1_add 11 = .ok (.aload_n 0, 1) := by decide +kernel
theorem dX1_add_12 : decode cX1_add 12 = .ok (.getfield 25, 3) := by decide +kernel
theorem dX1_add_15 : decode cX1_add 15 = .ok (.iload_n 1, 1) := by decide +kernel
theorem dX1_add_16 : decode cX1_add 16 = .ok (.iastore, 1) := by decide +kernel
theorem dX1_add_17 : decode cX1_add 17 = .ok (.aload_n 0, 1) := by decide +kernel
theorem dX1_add_18 : decode cX1_add 18 = .ok (.getfield 15, 3) := by decide +kernel
theorem dX1_add_21 : decode cX1_add 21 = .ok (.aload_n 0, 1) := by decide +kernel
theorem dX1_add_22 : decode cX1_add 22 = .ok (.getfield 25, 3) := by decide +kernel
theorem dX1_add_25 : decode cX1_add 25 = .ok (.iload_n 2, 1) := by decide +kernel
theorem dX1_add_26 : decode cX1_add 26 = .ok (.iastore, 1) := by decide +kernel
theorem dX1_add_27 : decode cX1_add 27 = .ok (.aload_n 0, 1) := by decide +kernel
theorem dX1_add_28 : decode cX1_add 28 = .ok (.getfield 18, 3) := by decide +kernel
theorem dX1_add_31 : decode cX1_add 31 = .ok (.aload_n 0, 1) := by decide +kernel
theorem dX1_add_32 : decode cX1_add 32 = .ok (.getfield 25, 3) := by decide +kernel
theorem dX1_add_35 : decode cX1_add 35 = .ok (.iload_n 3, 1) := by decide +kernel
theorem dX1_add_36 : decode cX1_add 36 = .ok (.iastore, 1) := by decide +kernel
theorem dX1_add_37 : decode cX1_add 37 = .ok (.aload_n 0, 1) := by decide +kernel
theorem dX1_add_38 : decode cX1_add 38 = .ok (.dup, 1) := by decide +kernel
theorem dX1_add_39 : decode cX1_add 39 = .ok (.getfield 25, 3) := by decide +kernel
theorem dX1_add_42 : decode cX1_add 42 = .ok (.iconst 1, 1) := by decide +kernel
theorem dX1_add_43 : decode cX1_add 43 = .ok (.iadd, 1) := by decide +kernel
theorem dX1_add_44 : decode cX1_add 44 = .ok (.putfield 25, 3) := by decide +kernel
theorem dX1_add_47 : decode cX1_add 47 = .ok (.return_, 1) := by decide +kernel
theorem dX1_remove_0 : decode cX1_remove 0 = .ok (.iload_n 1, 1) := by decide +kernel
theorem dX1_remove_1 : decode cX1_remove 1 = .ok (.iconst 1, 1) := by decide +kernel
theorem dX1_remove_2 : decode cX1_remove 2 = .ok (.iadd, 1) := by decide +kernel
theorem dX1_remove_3 : decode cX1_remove 3 = .ok (.istore_n 2, 1) := by decide +kernel
theorem dX1_remove_4 : decode cX1_remove 4 = .ok (.iload_n 2, 1) := by decide +kernel
theorem dX1_remove_5 : decode cX1_remove 5 = .ok (.aload_n 0, 1) := by decide +kernel
theorem dX1_remove_6 : decode cX1_remove 6 = .ok (.getfield 25, 3) := by decide +kernel
theorem dX1_remove_9 : decode cX1_remove 9 = .ok (.if_icmp .ge 51, 3) := by decide +kernel
theorem dX1_remove_12 : decode cX1_remove 12 = .ok (.aload_n 0, 1) := by decide +kernel
theorem dX1_remove_13 : decode cX1_remove 13 = .ok (.getfield 9, 3) := by decide +kernel
theorem dX1_remove_16 : decode cX1_remove 16 = .ok (.iload_n 2, 1) := by decide +kernel
theorem dX1_remove_17 : decode cX1_remove 17 = .ok (.iconst 1, 1) := by decide +kernel
theorem dX1_remove_18 : decode cX1_remove 18 = .ok (.isub, 1) := by decide +kernel
theorem dX1_remove_19 : decode cX1_remove 19 = .ok (.aload_n 0, 1) := by decide +kernel
theorem dX1_remove_20 : decode cX1_remove 20 = .ok (.getfield 9, 3) := by decide +kernel
theorem dX1_remove_23 : decode cX1_remove 23 = .ok (.iload_n 2, 1) := by decide +kernel
theorem dX1_remove_24 : decode cX1_remove 24 = .ok (.iaload, 1) := by decide +kernel
theorem dX1_remove_25 : decode cX1_remove 25 = .ok (.iastore, 1) := by decide +kernel
theorem dX1_remove_26 : decode cX1_remove 26 = .ok (.aload_n 0, 1) := by decide +kernel
theorem dX1_remove_27 : decode cX1_remove 27 = .ok (.getfield 15, 3) := by decide +kernel
theorem dX1_remove_30 : decode cX1_remove 30 = .ok (.iload_n 2, 1) := by decide +kernel
theorem dX1_remove_31 : decode cX1_remove 31 = .ok (.iconst 1, 1) := by decide +kernel
theorem dX1_remove_32 : decode cX1_remove 32 = .ok (.isub, 1) := by decide +kernel
theorem dX1_remove_33 : decode cX1_remove 33 = .ok (.aload_n 0, 1) := by decide +kernel
theorem dX1_remove_34 : decode cX1_remove 34 = .ok (.getfield 15, 3) := by decide +kernel
theorem dX1_remove_37 : decode cX1_remove 37 = .ok (.iload_n 2, 1) := by decide +kernel
theorem dX1_remove_38 : decode cX1_remove 38 = .ok (.iaload, 1) := by decide +kernel
theorem dX1_remove_39 : decode cX1_remove 39 = .ok (.iastore, 1) := by decide +kernel
theorem dX1_remove_40 : decode cX1_remove 40 = .ok (.aload_n 0, 1) := by decide +kernel
theorem dX1_remove_41 : decode cX1_remove 41 = .ok (.getfield 18, 3) := by decide +kernel
theorem dX1_remove_44 : decode cX1_remove 44 = .ok (.iload_n 2, 1) := by decide +kernel
theorem dX1_remove_45 : decode cX1_remove 45 = .ok (.iconst 1, 1) := by decide +kernel
theorem dX1_remove_46 : decode cX1_remove 46 = .ok (.isub, 1) := by decide +kernel
theorem dX1_remove_47 : decode cX1_remove 47 = .ok (.aload_n 0, 1) := by decide +kernel
theorem dX1_remove_48 : decode cX1_remove 48 = .ok (.getfield 18, 3) := by decide +kernel
theorem dX1_remove_51 : decode cX1_remove 51 = .ok (.iload_n 2, 1) := by decide +kernel
theorem dX1_remove_52 : decode cX1_remove 52 = .ok (.iaload, 1) := by decide +kernel
theorem dX1_remove_53 : decode cX1_remove 53 = .ok (.iastore, 1) := by decide +kernel
theorem dX1_remove_54 : decode cX1_remove 54 = .ok (.iinc 2 1, 3) := by decide +kernel
theorem dX1_remove_57 : decode cX1_remove 57 = .ok (.goto (-53), 3) := by decide +kernel
theorem dX1_remove_60 : decode cX1_remove 60 = .ok (.aload_n 0, 1) := by decide +kernel
theorem dX1_remove_61 : decode cX1_remove 61 = .ok (.dup, 1) := by decide +kernel
theorem dX1_remove_62 : decode cX1_remove 62 = .ok (.getfield 25, 3) := by decide +kernel
theorem dX1_remove_65 : decode cX1_remove 65 = .ok (.iconst 1, 1) := by decide +kernel
theorem dX1_remove_66 : decode cX1_remove 66 = .ok (.isub, 1) := by decide +kernel
theorem dX1_remove_67 : decode cX1_remove 67 = .ok (.putfield 25, 3) := by decide +kernel
theorem dX1_remove_70 : decode cX1_remove 70 = .ok (.return_, 1) := by decide +kernel
set_option maxRecDepth 20000 in
theorem ggX1_drawWays_X1_has : GoodIn wsX1_drawWays wsX1_has := goodIn_r _ [14, 1, 15, 16, 17, 26, 27, 28, 29, 30, 31] rfl (by decide +kernel)
set_option maxRecDepth 20000 in
theorem gX1_drawWays_X1_has : GoodIn wsX1_drawWays (wsV RX1 51 RX1 yX1_has wsX1_has) := goodIn_app (goodIn_r _ [10, 11, 12, 13] rfl (by decide +kernel)) ggX1_drawWays_X1_has
set_option maxRecDepth 20000 in
theorem ggX1_drawWays_X1_add : GoodIn wsX1_drawWays wsX1_add := goodIn_r _ [21, 15, 1, 16, 17, 22, 23, 24, 13, 25, 26, 27, 28, 29, 30, 31] rfl (by decide +kernel)
set_option maxRecDepth 20000 in
theorem gX1_drawWays_X1_add : GoodIn wsX1_drawWays (wsV RX1 55 RX1 yX1_add wsX1_add) := goodIn_app (goodIn_r _ [18, 19, 20, 13] rfl (by decide +kernel)) ggX1_drawWays_X1_add
theorem dX1_drawWays_0 : decode cX1_drawWays 0 = .ok (.aload_n 0, 1) := by decide +kernel
theorem dX1_drawWays_1 : decode cX1_drawWays 1 = .ok (.iconst 0, 1) := by decide +kernel
theorem dX1_drawWays_2 : decode cX1_drawWays 2 = .ok (.putfield 25, 3) := by decide +kernel
theorem dX1_drawWays_5 : decode cX1_drawWays 5 = .ok (.iload_n 1, 1) := by decide +kernel
theorem dX1_drawWays_6 : decode cX1_drawWays 6 = .ok (.i2l, 1) := by decide +kernel
theorem dX1_drawWays_7 : decode cX1_drawWays 7 = .ok (.lstore_n 3, 1) := by decide +kernel
theorem dX1_drawWays_8 : decode cX1_drawWays 8 = .ok (.iconst 0, 1) := by decide +kernel
theorem dX1_drawWays_9 : decode cX1_drawWays 9 = .ok (.istore 5, 2) := by decide +kernel
theorem dX1_drawWays_11 : decode cX1_drawWays 11 = .ok (.iload 5, 2) := by decide +kernel
theorem dX1_drawWays_13 : decode cX1_drawWays 13 = .ok (.iload_n 2, 1) := by decide +kernel
theorem dX1_drawWays_14 : decode cX1_drawWays 14 = .ok (.if_icmp .ge 82, 3) := by decide +kernel
theorem dX1_drawWays_17 : decode cX1_drawWays 17 = .ok (.lload_n 3, 1) := by decide +kernel
theorem dX1_drawWays_18 : decode cX1_drawWays 18 = .ok (.ldc2_w 35, 3) := by decide +kernel
theorem dX1_drawWays_21 : decode cX1_drawWays 21 = .ok (.lmul, 1) := by decide +kernel
theorem dX1_drawWays_22 : decode cX1_drawWays 22 = .ok (.ldc2_w 37, 3) := by decide +kernel
theorem dX1_drawWays_25 : decode cX1_drawWays 25 = .ok (.ladd, 1) := by decide +kernel
theorem dX1_drawWays_26 : decode cX1_drawWays 26 = .ok (.ldc2_w 39, 3) := by decide +kernel
theorem dX1_drawWays_29 : decode cX1_drawWays 29 = .ok (.lrem, 1) := by decide +kernel
theorem dX1_drawWays_30 : decode cX1_drawWays 30 = .ok (.lstore_n 3, 1) := by decide +kernel
theorem dX1_drawWays_31 : decode cX1_drawWays 31 = .ok (.lload_n 3, 1) := by decide +kernel
theorem dX1_drawWays_32 : decode cX1_drawWays 32 = .ok (.ldc2_w 41, 3) := by decide +kernel
theorem dX1_drawWays_35 : decode cX1_drawWays 35 = .ok (.ldiv, 1) := by decide +kernel
theorem dX1_drawWays_36 : decode cX1_drawWays 36 = .ok (.ldc2_w 43, 3) := by decide +kernel
theorem dX1_drawWays_39 : decode cX1_drawWays 39 = .ok (.lrem, 1) := by decide +kernel
theorem dX1_drawWays_40 : decode cX1_drawWays 40 = .ok (.l2i, 1) := by decide +kernel
theorem dX1_drawWays_41 : decode cX1_drawWays 41 = .ok (.istore 6, 2) := by decide +kernel
theorem dX1_drawWays_43 : decode cX1_drawWays 43 = .ok (.lload_n 3, 1) := by decide +kernel
theorem dX1_drawWays_44 : decode cX1_drawWays 44 = .ok (.ldc2_w 45, 3) := by decide +kernel
theorem dX1_drawWays_47 : decode cX1_drawWays 47 = .ok (.ldiv, 1) := by decide +kernel
theorem dX1_drawWays_48 : decode cX1_drawWays 48 = .ok (.ldc2_w 47, 3) := by decide +kernel
theorem dX1_drawWays_51 : decode cX1_drawWays 51 = .ok (.lrem, 1) := by decide +kernel
theorem dX1_drawWays_52 : decode cX1_drawWays 52 = .ok (.l2i, 1) := by decide +kernel
theorem dX1_drawWays_53 : decode cX1_drawWays 53 = .ok (.istore 7, 2) := by decide +kernel
theorem dX1_drawWays_55 : decode cX1_drawWays 55 = .ok (.lload_n 3, 1) := by decide +kernel
theorem dX1_drawWays_56 : decode cX1_drawWays 56 = .ok (.ldc2_w 49, 3) := by decide +kernel
theorem dX1_drawWays_59 : decode cX1_drawWays 59 = .ok (.ldiv, 1) := by decide +kernel
theorem dX1_drawWays_60 : decode cX1_drawWays 60 = .ok (.ldc2_w 43, 3) := by decide +kernel
theorem dX1_drawWays_63 : decode cX1_drawWays 63 = .ok (.lrem, 1) := by decide +kernel
theorem dX1_drawWays_64 : decode cX1_drawWays 64 = .ok (.l2i, 1) := by decide +kernel
theorem dX1_drawWays_65 : decode cX1_drawWays 65 = .ok (.istore 8, 2) := by decide +kernel
theorem dX1_drawWays_67 : decode cX1_drawWays 67 = .ok (.aload_n 0, 1) := by decide +kernel
theorem dX1_drawWays_68 : decode cX1_drawWays 68 = .ok (.iload 6, 2) := by decide +kernel
theorem dX1_drawWays_70 : decode cX1_drawWays 70 = .ok (.iload 7, 2) := by decide +kernel
theorem dX1_drawWays_72 : decode cX1_drawWays 72 = .ok (.iload 8, 2) := by decide +kernel
theorem dX1_drawWays_74 : decode cX1_drawWays 74 = .ok (.invokevirtual 51, 3) := by decide +kernel
theorem dX1_drawWays_77 : decode cX1_drawWays 77 = .ok (.ifCond .ne 13, 3) := by decide +kernel
theorem dX1_drawWays_80 : decode cX1_drawWays 80 = .ok (.aload_n 0, 1) := by decide +kernel
theorem dX1_drawWays_81 : decode cX1_drawWays 81 = .ok (.iload 6, 2) := by decide +kernel
theorem dX1_drawWays_83 : decode cX1_drawWays 83 = .ok (.iload 7, 2) := by decide +kernel
theorem dX1_drawWays_85 : decode cX1_drawWays 85 = .ok (.iload 8, 2) := by decide +kernel
theorem dX1_drawWays_87 : decode cX1_drawWays 87 = .ok (.invokevirtual 55, 3) := by decide +kernel
theorem dX1_drawWays_90 : decode cX1_drawWays 90 = .ok (.iinc 5 1, 3) := by decide +kernel
theorem dX1_drawWays_93 : decode cX1_drawWays 93 = .ok (.goto (-82), 3) := by decide +kernel
theorem dX1_drawWays_96 : decode cX1_drawWays 96 = .ok (.return_, 1) := by decide +kernel
theorem dX1_markBehind_0 : decode cX1_markBehind 0 = .ok (.iload_n 2, 1) := by decide +kernel
theorem dX1_markBehind_1 : decode cX1_markBehind 1 = .ok (.bipush 10, 2) := by decide +kernel
theorem dX1_markBehind_3 : decode cX1_markBehind 3 = .ok (.if_icmp .ge 20, 3) := by decide +kernel
theorem dX1_markBehind_6 : decode cX1_markBehind 6 = .ok (.aload_n 0, 1) := by decide +kernel
theorem dX1_markBehind_7 : decode cX1_markBehind 7 = .ok (.getfield 28, 3) := by decide +kernel
theorem dX1_markBehind_10 : decode cX1_markBehind 10 = .ok (.aload_n 0, 1) := by decide +kernel
theorem dX1_markBehind_11 : decode cX1_markBehind 11 = .ok (.getfield 15, 3) := by decide +kernel
theorem dX1_markBehind_14 : decode cX1_markBehind 14 = .ok (.iload_n 1, 1) := by decide +kernel
theorem dX1_markBehind_15 : decode cX1_markBehind 15 = .ok (.iaload, 1) := by decide +kernel
theorem dX1_markBehind_16 : decode cX1_markBehind 16 = .ok (.ishr, 1) := by decide +kernel
theorem dX1_markBehind_17 : decode cX1_markBehind 17 = .ok (.iconst 1, 1) := by decide +kernel
theorem dX1_markBehind_18 : decode cX1_markBehind 18 = .ok (.iand, 1) := by decide +kernel
theorem dX1_markBehind_19 : decode cX1_markBehind 19 = .ok (.iconst 1, 1) := by decide +kernel
theorem dX1_markBehind_20 : decode cX1_markBehind 20 = .ok (.if_icmp .ne 7, 3) := by decide +kernel
theorem dX1_markBehind_23 : decode cX1_markBehind 23 = .ok (.iconst 1, 1) := by decide +kernel
theorem dX1_markBehind_24 : decode cX1_markBehind 24 = .ok (.goto 4, 3) := by decide +kernel
theorem dX1_markBehind_27 : decode cX1_markBehind 27 = .ok (.iconst 0, 1) := by decide +kernel
theorem dX1_markBehind_28 : decode cX1_markBehind 28 = .ok (.istore_n 3, 1) := by decide +kernel
theorem dX1_markBehind_29 : decode cX1_markBehind 29 = .ok (.iload_n 3, 1) := by decide +kernel
theorem dX1_markBehind_30 : decode cX1_markBehind 30 = .ok (.ifCond .eq 15, 3) := by decide +kernel
theorem dX1_markBehind_33 : decode cX1_markBehind 33 = .ok (.aload_n 0, 1) := by decide +kernel
theorem dX1_markBehind_34 : decode cX1_markBehind 34 = .ok (.getfield 18, 3) := by decide +kernel
theorem dX1_markBehind_37 : decode cX1_markBehind 37 = .ok (.iload_n 1, 1) := by decide +kernel
theorem dX1_markBehind_38 : decode cX1_markBehind 38 = .ok (.iaload, 1) := by decide +kernel
theorem dX1_markBehind_39 : decode cX1_markBehind 39 = .ok (.bipush 10, 2) := by decide +kernel
theorem dX1_markBehind_41 : decode cX1_markBehind 41 = .ok (.iadd, 1) := by decide +kernel
theorem dX1_markBehind_42 : decode cX1_markBehind 42 = .ok (.goto 9, 3) := by decide +kernel
theorem dX1_markBehind_45 : decode cX1_markBehind 45 = .ok (.aload_n 0, 1) := by decide +kernel
theorem dX1_markBehind_46 : decode cX1_markBehind 46 = .ok (.getfield 18, 3) := by decide +kernel
theorem dX1_markBehind_49 : decode cX1_markBehind 49 = .ok (.iload_n 1, 1) := by decide +kernel
theorem dX1_markBehind_50 : decode cX1_markBehind 50 = .ok (.iaload, 1) := by decide +kernel
theorem dX1_markBehind_51 : decode cX1_markBehind 51 = .ok (.ireturn, 1) := by decide +kernel
theorem dX1_take_0 : decode cX1_take 0 = .ok (.aload_n 1, 1) := by decide +kernel
theorem dX1_take_1 : decode cX1_take 1 = .ok (.getfield 9, 3) := by decide +kernel
theorem dX1_take_4 : decode cX1_take 4 = .ok (.iconst 0, 1) := by decide +kernel
theorem dX1_take_5 : decode cX1_take 5 = .ok (.aload_n 0, 1) := by decide +kernel
theorem dX1_take_6 : decode cX1_take 6 = .ok (.getfield 9, 3) := by decide +kernel
theorem dX1_take_9 : decode cX1_take 9 = .ok (.iconst 0, 1) := by decide +kernel
theorem dX1_take_10 : decode cX1_take 10 = .ok (.bipush 24, 2) := by decide +kernel
theorem dX1_take_12 : decode cX1_take 12 = .ok (.invokestatic 59, 3) := by decide +kernel
theorem dX1_take_15 : decode cX1_take 15 = .ok (.aload_n 1, 1) := by decide +kernel
theorem dX1_take_16 : decode cX1_take 16 = .ok (.getfield 15, 3) := by decide +kernel
theorem dX1_take_19 : decode cX1_take 19 = .ok (.iconst 0, 1) := by decide +kernel
theorem dX1_take_20 : decode cX1_take 20 = .ok (.aload_n 0, 1) := by decide +kernel
theorem dX1_take_21 : decode cX1_take 21 = .ok (.getfield 15, 3) := by decide +kernel
theorem dX1_take_24 : decode cX1_take 24 = .ok (.iconst 0, 1) := by decide +kernel
theorem dX1_take_25 : decode cX1_take 25 = .ok (.bipush 24, 2) := by decide +kernel
theorem dX1_take_27 : decode cX1_take 27 = .ok (.invokestatic 59, 3) := by decide +kernel
theorem dX1_take_30 : decode cX1_take 30 = .ok (.aload_n 1, 1) := by decide +kernel
theorem dX1_take_31 : decode cX1_take 31 = .ok (.getfield 18, 3) := by decide +kernel
theorem dX1_take_34 : decode cX1_take 34 = .ok (.iconst 0, 1) := by decide +kernel
theorem dX1_take_35 : decode cX1_take 35 = .ok (.aload_n 0, 1) := by decide +kernel
theorem dX1_take_36 : decode cX1_take 36 = .ok (.getfield 18, 3) := by decide +kernel
theorem dX1_take_39 : decode cX1_take 39 = .ok (.iconst 0, 1) := by decide +kernel
theorem dX1_take_40 : decode cX1_take 40 = .ok (.bipush 24, 2) := by decide +kernel
theorem dX1_take_42 : decode cX1_take 42 = .ok (.invokestatic 59, 3) := by decide +kernel
theorem dX1_take_45 : decode cX1_take 45 = .ok (.aload_n 0, 1) := by decide +kernel
theorem dX1_take_46 : decode cX1_take 46 = .ok (.aload_n 1, 1) := by decide +kernel
theorem dX1_take_47 : decode cX1_take 47 = .ok (.getfield 25, 3) := by decide +kernel
theorem dX1_take_50 : decode cX1_take 50 = .ok (.putfield 25, 3) := by decide +kernel
theorem dX1_take_53 : decode cX1_take 53 = .ok (.aload_n 0, 1) := by decide +kernel
theorem dX1_take_54 : decode cX1_take 54 = .ok (.aload_n 1, 1) := by decide +kernel
theorem dX1_take_55 : decode cX1_take 55 = .ok (.getfield 21, 3) := by decide +kernel
theorem dX1_take_58 : decode cX1_take 58 = .ok (.putfield 21, 3) := by decide +kernel
theorem dX1_take_61 : decode cX1_take 61 = .ok (.aload_n 0, 1) := by decide +kernel
theorem dX1_take_62 : decode cX1_take 62 = .ok (.aload_n 1, 1) := by decide +kernel
theorem dX1_take_63 : decode cX1_take 63 = .ok (.getfield 28, 3) := by decide +kernel
theorem dX1_take_66 : decode cX1_take 66 = .ok (.putfield 28, 3) := by decide +kernel
theorem dX1_take_69 : decode cX1_take 69 = .ok (.return_, 1) := by decide +kernel
set_option maxRecDepth 20000 in
theorem ggX2_init_X1_init : GoodIn wsX2_init wsX1_init := goodIn_r _ [9, 10, 2, 3, 11, 12, 13, 14, 15, 16, 17, 18, 19, 20, 21] rfl (by decide +kernel)
set_option maxRecDepth 20000 in
theorem gX2_init_X1_init_n11 : GoodIn wsX2_init (wsX1_init) := ggX2_init_X1_init
theorem dX2_init_0 : decode cX2_init 0 = .ok (.aload_n 0, 1) := by decide +kernel
theorem dX2_init_1 : decode cX2_init 1 = .ok (.invokespecial 3, 3) := by decide +kernel
theorem dX2_init_4 : decode cX2_init 4 = .ok (.aload_n 0, 1) := by decide +kernel
theorem dX2_init_5 : decode cX2_init 5 = .ok (.new 9, 3) := by decide +kernel
theorem dX2_init_8 : decode cX2_init 8 = .ok (.dup, 1) := by decide +kernel
theorem dX2_init_9 : decode cX2_init 9 = .ok (.invokespecial 11, 3) := by decide +kernel
theorem dX2_init_12 : decode cX2_init 12 = .ok (.putfield 12, 3) := by decide +kernel
theorem dX2_init_15 : decode cX2_init 15 = .ok (.return_, 1) := by decide +kernel
set_option maxRecDepth 20000 in
theorem ggX2_follow_X1_take : GoodIn wsX2_follow wsX1_take := goodIn_r _ [10, 11, 12, 13, 14, 15, 16, 17, 18, 19, 20, 80, 81, 82, 83, 84, 85] rfl (by decide +kernel)
set_option maxRecDepth 20000 in
theorem gX2_follow_X1_take : GoodIn wsX2_follow (wsV RX2 18 RX1 yX1_take wsX1_take) := goodIn_app (goodIn_r _ [6, 7, 8, 9] rfl (by decide +kernel)) ggX2_follow_X1_take
set_option maxRecDepth 20000 in
theorem ggX2_follow_X2_take : GoodIn wsX2_follow wsX2_take := goodIn_r _ [25, 2, 26, 27, 28, 24, 29, 30, 1, 31, 32, 33, 34, 35, 36, 37, 38, 9, 39, 18, 40, 41, 42, 43, 44, 45, 46, 47, 48, 49, 50, 51, 52, 53, 54, 55, 11, 16, 17, 56, 57, 58, 59, 60, 61, 62, 63, 64, 3, 65, 66, 67, 68, 69, 70, 71, 72, 73, 74, 75, 76, 77, 80, 81, 82, 83, 84, 85] rfl (by decide +kernel)
set_option maxRecDepth 20000 in
theorem gX2_follow_X2_take : GoodIn wsX2_follow (wsV RX2 38 RX2 yX2_take wsX2_take) := goodIn_app (goodIn_r _ [21, 22, 23, 24] rfl (by decide +kernel)) ggX2_follow_X2_take
theorem dX2_follow_0 : decode cX2_follow 0 = .ok (.aload_n 0, 1) := by decide +kernel
theorem dX2_follow_1 : decode cX2_follow 1 = .ok (.getfield 12, 3) := by decide +kernel
theorem dX2_follow_4 : decode cX2_follow 4 = .ok (.aload_n 2, 1) := by decide +kernel
theorem dX2_follow_5 : decode cX2_follow 5 = .ok (.invokevirtual 18, 3) := by decide +kernel
theorem dX2_follow_8 : decode cX2_follow 8 = .ok (.aload_n 0, 1) := by decide +kernel
theorem dX2_follow_9 : decode cX2_follow 9 = .ok (.iconst 0, 1) := by decide +kernel
theorem dX2_follow_10 : decode cX2_follow 10 = .ok (.putfield 22, 3) := by decide +kernel
theorem dX2_follow_13 : decode cX2_follow 13 = .ok (.aload_n 0, 1) := by decide +kernel
theorem dX2_follow_14 : decode cX2_follow 14 = .ok (.iconst 0, 1) := by decide +kernel
theorem dX2_follow_15 : decode cX2_follow 15 = .ok (.putfield 26, 3) := by decide +kernel
theorem dX2_follow_18 : decode cX2_follow 18 = .ok (.iconst 0, 1) := by decide +kernel
theorem dX2_follow_19 : decode cX2_follow 19 = .ok (.istore_n 3, 1) := by decide +kernel
theorem dX2_follow_20 : decode cX2_follow 20 = .ok (.iload_n 3, 1) := by decide +kernel
theorem dX2_follow_21 : decode cX2_follow 21 = .ok (.aload_n 1, 1) := by decide +kernel
theorem dX2_follow_22 : decode cX2_follow 22 = .ok (.getfield 29, 3) := by decide +kernel
theorem dX2_follow_25 : decode cX2_follow 25 = .ok (.if_icmp .ge 45, 3) := by decide +kernel
theorem dX2_follow_28 : decode cX2_follow 28 = .ok (.aload_n 1, 1) := by decide +kernel
theorem dX2_follow_29 : decode cX2_follow 29 = .ok (.getfield 34, 3) := by decide +kernel
theorem dX2_follow_32 : decode cX2_follow 32 = .ok (.iload_n 3, 1) := by decide +kernel
theorem dX2_follow_33 : decode cX2_follow 33 = .ok (.baload, 1) := by decide +kernel
theorem dX2_follow_34 : decode cX2_follow 34 = .ok (.istore 4, 2) := by decide +kernel
theorem dX2_follow_36 : decode cX2_follow 36 = .ok (.iload 4, 2) := by decide +kernel
theorem dX2_follow_38 : decode cX2_follow 38 = .ok (.bipush 32, 2) := by decide +kernel
theorem dX2_follow_40 : decode cX2_follow 40 = .ok (.if_icmp .eq 24, 3) := by decide +kernel
theorem dX2_follow_43 : decode cX2_follow 43 = .ok (.aload_n 0, 1) := by decide +kernel
theorem dX2_follow_44 : decode cX2_follow 44 = .ok (.iload 4, 2) := by decide +kernel
theorem dX2_follow_46 : decode cX2_follow 46 = .ok (.iload_n 3, 1) := by decide +kernel
theorem dX2_follow_47 : decode cX2_follow 47 = .ok (.invokevirtual 38, 3) := by decide +kernel
theorem dX2_follow_50 : decode cX2_follow 50 = .ok (.istore 5, 2) := by decide +kernel
theorem dX2_follow_52 : decode cX2_follow 52 = .ok (.iload 5, 2) := by decide +kernel
theorem dX2_follow_54 : decode cX2_follow 54 = .ok (.iconst (-1), 1) := by decide +kernel
theorem dX2_follow_55 : decode cX2_follow 55 = .ok (.if_icmp .eq 9, 3) := by decide +kernel
theorem dX2_follow_58 : decode cX2_follow 58 = .ok (.bipush (-10), 2) := by decide +kernel
theorem dX2_follow_60 : decode cX2_follow 60 = .ok (.iload 5, 2) := by decide +kernel
theorem dX2_follow_62 : decode cX2_follow 62 = .ok (.isub, 1) := by decide +kernel
theorem dX2_follow_63 : decode cX2_follow 63 = .ok (.ireturn, 1) := by decide +kernel
theorem dX2_follow_64 : decode cX2_follow 64 = .ok (.iinc 3 1, 3) := by decide +kernel
theorem dX2_follow_67 : decode cX2_follow 67 = .ok (.goto (-47), 3) := by decide +kernel
theorem dX2_follow_70 : decode cX2_follow 70 = .ok (.aload_n 0, 1) := by decide +kernel
theorem dX2_follow_71 : decode cX2_follow 71 = .ok (.getfield 22, 3) := by decide +kernel
theorem dX2_follow_74 : decode cX2_follow 74 = .ok (.ifCond .ne 10, 3) := by decide +kernel
theorem dX2_follow_77 : decode cX2_follow 77 = .ok (.aload_n 0, 1) := by decide +kernel
theorem dX2_follow_78 : decode cX2_follow 78 = .ok (.getfield 26, 3) := by decide +kernel
theorem dX2_follow_81 : decode cX2_follow 81 = .ok (.ifCond .ne 13, 3) := by decide +kernel
theorem dX2_follow_84 : decode cX2_follow 84 = .ok (.bipush (-10), 2) := by decide +kernel
theorem dX2_follow_86 : decode cX2_follow 86 = .ok (.aload_n 1, 1) := by decide +kernel
theorem dX2_follow_87 : decode cX2_follow 87 = .ok (.getfield 29, 3) := by decide +kernel
theorem dX2_follow_90 : decode cX2_follow 90 = .ok (.isub, 1) := by decide +kernel
theorem dX2_follow_91 : decode cX2_follow 91 = .ok (.goto 7, 3) := by decide +kernel
theorem dX2_follow_94 : decode cX2_follow 94 = .ok (.aload_n 0, 1) := by decide +kernel
theorem dX2_follow_95 : decode cX2_follow 95 = .ok (.getfield 26, 3) := by decide +kernel
theorem dX2_follow_98 : decode cX2_follow 98 = .ok (.ireturn, 1) := by decide +kernel
set_option maxRecDepth 20000 in
theorem ggX2_take_X2_takeFirst : GoodIn wsX2_take wsX2_takeFirst := goodIn_r _ [6, 1, 7, 8, 9, 10, 11, 12, 5, 13, 14, 15, 16, 17, 18, 19, 55, 56, 57, 58, 59, 60, 61, 62, 63, 64, 65, 66, 67] rfl (by decide +kernel)
set_option maxRecDepth 20000 in
theorem gX2_take_X2_takeFirst : GoodIn wsX2_take (wsV RX2 41 RX2 yX2_takeFirst wsX2_takeFirst) := goodIn_app (goodIn_r _ [2, 3, 4, 5] rfl (by decide +kernel)) ggX2_take_X2_takeFirst
set_option maxRecDepth 20000 in
theorem ggX2_take_X2_takeDeed : GoodIn wsX2_take wsX2_takeDeed := goodIn_r _ [23, 24, 1, 25, 26, 5, 27, 55, 56, 57, 58, 59, 60, 61] rfl (by decide +kernel)
set_option maxRecDepth 20000 in
theorem gX2_take_X2_takeDeed : GoodIn wsX2_take (wsV RX2 44 RX2 yX2_takeDeed wsX2_takeDeed) := goodIn_app (goodIn_r _ [20, 21, 22, 5] rfl (by decide +kernel)) ggX2_take_X2_takeDeed
set_option maxRecDepth 20000 in
theorem ggX2_take_X2_takeTo : GoodIn wsX2_take wsX2_takeTo := goodIn_r _ [31, 8, 10, 24, 9, 1, 11, 12, 5, 13, 32, 33, 34, 17, 35, 19, 36, 37, 38, 39, 40, 41, 42, 43, 15, 16, 18, 55, 56, 57, 58, 59, 60, 61, 62, 63, 64, 65, 66, 67] rfl (by decide +kernel)
set_option maxRecDepth 20000 in
theorem gX2_take_X2_takeTo : GoodIn wsX2_take (wsV RX2 47 RX2 yX2_takeTo wsX2_takeTo) := goodIn_app (goodIn_r _ [28, 29, 30, 5] rfl (by decide +kernel)) ggX2_take_X2_takeTo
set_option maxRecDepth 20000 in
theorem ggX2_take_X2_takeEnd : GoodIn wsX2_take wsX2_takeEnd := goodIn_r _ [47, 48, 1, 55, 56, 57, 58, 59, 60, 61] rfl (by decide +kernel)
set_option maxRecDepth 20000 in
theorem gX2_take_X2_takeEnd : GoodIn wsX2_take (wsV RX2 50 RX2 yX2_takeEnd wsX2_takeEnd) := goodIn_app (goodIn_r _ [44, 45, 46, 5] rfl (by decide +kernel)) ggX2_take_X2_takeEnd
set_option maxRecDepth 20000 in
theorem ggX2_take_X2_takeInList : GoodIn wsX2_take wsX2_takeInList := goodIn_r _ [52, 7, 1, 8, 53, 54, 25, 26, 5, 27, 44, 45, 46, 47, 48, 55, 56, 57, 58, 59, 60, 61, 62, 63, 64, 65, 66, 67] rfl (by decide +kernel)
set_option maxRecDepth 20000 in
theorem gX2_take_X2_takeInList : GoodIn wsX2_take (wsV RX2 53 RX2 yX2_takeInList wsX2_takeInList) := goodIn_app (goodIn_r _ [49, 50, 51, 5] rfl (by decide +kernel)) ggX2_take_X2_takeInList
theorem dX2_take_0 : decode cX2_take 0 = .ok (.aload_n 0, 1) := by decide +kernel
theorem dX2_take_1 : decode cX2_take 1 = .ok (.getfield 22, 3) := by decide +kernel
theorem dX2_take_4 : decode cX2_take 4 = .ok (.tableswitch 60 0 3 #[32, 39, 46, 53], 32) := by decide +kernel
theorem dX2_take_36 : decode cX2_take 36 = .ok (.aload_n 0, 1) := by decide +kernel
theorem dX2_take_37 : decode cX2_take 37 = .ok (.iload_n 1, 1) := by decide +kernel
theorem dX2_take_38 : decode cX2_take 38 = .ok (.iload_n 2, 1) := by decide +kernel
theorem dX2_take_39 : decode cX2_take 39 = .ok (.invokevirtual 41, 3) := by decide +kernel
theorem dX2_take_42 : decode cX2_take 42 = .ok (.ireturn, 1) := by decide +kernel
theorem dX2_take_43 : decode cX2_take 43 = .ok (.aload_n 0, 1) := by decide +kernel
theorem dX2_take_44 : decode cX2_take 44 = .ok (.iload_n 1, 1) := by decide +kernel
theorem dX2_take_45 : decode cX2_take 45 = .ok (.iload_n 2, 1) := by decide +kernel
theorem dX2_take_46 : decode cX2_take 46 = .ok (.invokevirtual 44, 3) := by decide +kernel
theorem dX2_take_49 : decode cX2_take 49 = .ok (.ireturn, 1) := by decide +kernel
theorem dX2_take_50 : decode cX2_take 50 = .ok (.aload_n 0, 1) := by decide +kernel
theorem dX2_take_51 : decode cX2_take 51 = .ok (.iload_n 1, 1) := by decide +kernel
theorem dX2_take_52 : decode cX2_take 52 = .ok (.iload_n 2, 1) := by decide +kernel
theorem dX2_take_53 : decode cX2_take 53 = .ok (.invokevirtual 47, 3) := by decide +kernel
theorem dX2_take_56 : decode cX2_take 56 = .ok (.ireturn, 1) := by decide +kernel
theorem dX2_take_57 : decode cX2_take 57 = .ok (.aload_n 0, 1) := by decide +kernel
theorem dX2_take_58 : decode cX2_take 58 = .ok (.iload_n 1, 1) := by decide +kernel
theorem dX2_take_59 : decode cX2_take 59 = .ok (.iload_n 2, 1) := by decide +kernel
theorem dX2_take_60 : decode cX2_take 60 = .ok (.invokevirtual 50, 3) := by decide +kernel
theorem dX2_take_63 : decode cX2_take 63 = .ok (.ireturn, 1) := by decide +kernel
theorem dX2_take_64 : decode cX2_take 64 = .ok (.aload_n 0, 1) := by decide +kernel
theorem dX2_take_65 : decode cX2_take 65 = .ok (.iload_n 1, 1) := by decide +kernel
theorem dX2_take_66 : decode cX2_take 66 = .ok (.iload_n 2, 1) := by decide +kernel
theorem dX2_take_67 : decode cX2_take 67 = .ok (.invokevirtual 53, 3) := by decide +kernel
theorem dX2_take_70 : decode cX2_take 70 = .ok (.ireturn, 1) := by decide +kernel
set_option maxRecDepth 20000 in
theorem ggX2_takeFirst_X2_isFigure : GoodIn wsX2_takeFirst wsX2_isFigure := goodIn_r _ [9] rfl (by decide +kernel)
set_option maxRecDepth 20000 in
theorem gX2_takeFirst_X2_isFigure : GoodIn wsX2_takeFirst (va_wsS RX2 59 yX2_isFigure wsX2_isFigure) := goodIn_app (goodIn_of _ (by decide +kernel)) ggX2_takeFirst_X2_isFigure
set_option maxRecDepth 20000 in
theorem ggX2_takeFirst_X1_isFull : GoodIn wsX2_takeFirst wsX1_isFull := goodIn_r _ [14, 15, 23, 24, 25, 26, 27, 28] rfl (by decide +kernel)
set_option maxRecDepth 20000 in
theorem gX2_takeFirst_X1_isFull : GoodIn wsX2_takeFirst (wsV RX2 63 RX1 yX1_isFull wsX1_isFull) := goodIn_app (goodIn_r _ [10, 11, 12, 13] rfl (by decide +kernel)) ggX2_takeFirst_X1_isFull
theorem dX2_takeFirst_0 : decode cX2_takeFirst 0 = .ok (.iload_n 1, 1) := by decide +kernel
theorem dX2_takeFirst_1 : decode cX2_takeFirst 1 = .ok (.bipush 33, 2) := by decide +kernel
theorem dX2_takeFirst_3 : decode cX2_takeFirst 3 = .ok (.if_icmp .eq 9, 3) := by decide +kernel
theorem dX2_takeFirst_6 : decode cX2_takeFirst 6 = .ok (.iload_n 1, 1) := by decide +kernel
theorem dX2_takeFirst_7 : decode cX2_takeFirst 7 = .ok (.bipush 63, 2) := by decide +kernel
theorem dX2_takeFirst_9 : decode cX2_takeFirst 9 = .ok (.if_icmp .ne 25, 3) := by decide +kernel
theorem dX2_takeFirst_12 : decode cX2_takeFirst 12 = .ok (.aload_n 0, 1) := by decide +kernel
theorem dX2_takeFirst_13 : decode cX2_takeFirst 13 = .ok (.iload_n 1, 1) := by decide +kernel
theorem dX2_takeFirst_14 : decode cX2_takeFirst 14 = .ok (.bipush 33, 2) := by decide +kernel
theorem dX2_takeFirst_16 : decode cX2_takeFirst 16 = .ok (.if_icmp .ne 7, 3) := by decide +kernel
theorem dX2_takeFirst_19 : decode cX2_takeFirst 19 = .ok (.iconst 4, 1) := by decide +kernel
theorem dX2_takeFirst_20 : decode cX2_takeFirst 20 = .ok (.goto 4, 3) := by decide +kernel
theorem dX2_takeFirst_23 : decode cX2_takeFirst 23 = .ok (.iconst 5, 1) := by decide +kernel
theorem dX2_takeFirst_24 : decode cX2_takeFirst 24 = .ok (.putfield 22, 3) := by decide +kernel
theorem dX2_takeFirst_27 : decode cX2_takeFirst 27 = .ok (.aload_n 0, 1) := by decide +kernel
theorem dX2_takeFirst_28 : decode cX2_takeFirst 28 = .ok (.iconst 0, 1) := by decide +kernel
theorem dX2_takeFirst_29 : decode cX2_takeFirst 29 = .ok (.putfield 56, 3) := by decide +kernel
theorem dX2_takeFirst_32 : decode cX2_takeFirst 32 = .ok (.iconst (-1), 1) := by decide +kernel
theorem dX2_takeFirst_33 : decode cX2_takeFirst 33 = .ok (.ireturn, 1) := by decide +kernel
theorem dX2_takeFirst_34 : decode cX2_takeFirst 34 = .ok (.iload_n 1, 1) := by decide +kernel
theorem dX2_takeFirst_35 : decode cX2_takeFirst 35 = .ok (.invokestatic 59, 3) := by decide +kernel
theorem dX2_takeFirst_38 : decode cX2_takeFirst 38 = .ok (.ifCond .eq 13, 3) := by decide +kernel
theorem dX2_takeFirst_41 : decode cX2_takeFirst 41 = .ok (.aload_n 0, 1) := by decide +kernel
theorem dX2_takeFirst_42 : decode cX2_takeFirst 42 = .ok (.getfield 12, 3) := by decide +kernel
theorem dX2_takeFirst_45 : decode cX2_takeFirst 45 = .ok (.invokevirtual 63, 3) := by decide +kernel
theorem dX2_takeFirst_48 : decode cX2_takeFirst 48 = .ok (.ifCond .eq 5, 3) := by decide +kernel
theorem dX2_takeFirst_51 : decode cX2_takeFirst 51 = .ok (.iload_n 2, 1) := by decide +kernel
theorem dX2_takeFirst_52 : decode cX2_takeFirst 52 = .ok (.ireturn, 1) := by decide +kernel
theorem dX2_takeFirst_53 : decode cX2_takeFirst 53 = .ok (.aload_n 0, 1) := by decide +kernel
theorem dX2_takeFirst_54 : decode cX2_takeFirst 54 = .ok (.iload_n 2, 1) := by decide +kernel
theorem dX2_takeFirst_55 : decode cX2_takeFirst 55 = .ok (.putfield 67, 3) := by decide +kernel
theorem dX2_takeFirst_58 : decode cX2_takeFirst 58 = .ok (.aload_n 0, 1) := by decide +kernel
theorem dX2_takeFirst_59 : decode cX2_takeFirst 59 = .ok (.iload_n 1, 1) := by decide +kernel
theorem dX2_takeFirst_60 : decode cX2_takeFirst 60 = .ok (.bipush 48, 2) := by decide +kernel
theorem dX2_takeFirst_62 : decode cX2_takeFirst 62 = .ok (.isub, 1) := by decide +kernel
theorem dX2_takeFirst_63 : decode cX2_takeFirst 63 = .ok (.putfield 70, 3) := by decide +kernel
theorem dX2_takeFirst_66 : decode cX2_takeFirst 66 = .ok (.aload_n 0, 1) := by decide +kernel
theorem dX2_takeFirst_67 : decode cX2_takeFirst 67 = .ok (.iconst 1, 1) := by decide +kernel
theorem dX2_takeFirst_68 : decode cX2_takeFirst 68 = .ok (.putfield 22, 3) := by decide +kernel
theorem dX2_takeFirst_71 : decode cX2_takeFirst 71 = .ok (.iconst (-1), 1) := by decide +kernel
theorem dX2_takeFirst_72 : decode cX2_takeFirst 72 = .ok (.ireturn, 1) := by decide +kernel
set_option maxRecDepth 20000 in
theorem ggX2_takeDeed_X2_isLetter : GoodIn wsX2_takeDeed wsX2_isLetter := goodIn_r _ [6] rfl (by decide +kernel)
set_option maxRecDepth 20000 in
theorem gX2_takeDeed_X2_isLetter : GoodIn wsX2_takeDeed (va_wsS RX2 73 yX2_isLetter wsX2_isLetter) := goodIn_app (goodIn_of _ (by decide +kernel)) ggX2_takeDeed_X2_isLetter
theorem dX2_takeDeed_0 : decode cX2_takeDeed 0 = .ok (.iload_n 1, 1) := by decide +kernel
theorem dX2_takeDeed_1 : decode cX2_takeDeed 1 = .ok (.invokestatic 73, 3) := by decide +kernel
theorem dX2_takeDeed_4 : decode cX2_takeDeed 4 = .ok (.ifCond .ne 5, 3) := by decide +kernel
theorem dX2_takeDeed_7 : decode cX2_takeDeed 7 = .ok (.iload_n 2, 1) := by decide +kernel
theorem dX2_takeDeed_8 : decode cX2_takeDeed 8 = .ok (.ireturn, 1) := by decide +kernel
theorem dX2_takeDeed_9 : decode cX2_takeDeed 9 = .ok (.aload_n 0, 1) := by decide +kernel
theorem dX2_takeDeed_10 : decode cX2_takeDeed 10 = .ok (.iload_n 1, 1) := by decide +kernel
theorem dX2_takeDeed_11 : decode cX2_takeDeed 11 = .ok (.bipush 97, 2) := by decide +kernel
theorem dX2_takeDeed_13 : decode cX2_takeDeed 13 = .ok (.isub, 1) := by decide +kernel
theorem dX2_takeDeed_14 : decode cX2_takeDeed 14 = .ok (.putfield 76, 3) := by decide +kernel
theorem dX2_takeDeed_17 : decode cX2_takeDeed 17 = .ok (.aload_n 0, 1) := by decide +kernel
theorem dX2_takeDeed_18 : decode cX2_takeDeed 18 = .ok (.iconst 2, 1) := by decide +kernel
theorem dX2_takeDeed_19 : decode cX2_takeDeed 19 = .ok (.putfield 22, 3) := by decide +kernel
theorem dX2_takeDeed_22 : decode cX2_takeDeed 22 = .ok (.iconst (-1), 1) := by decide +kernel
theorem dX2_takeDeed_23 : decode cX2_takeDeed 23 = .ok (.ireturn, 1) := by decide +kernel
set_option maxRecDepth 20000 in
theorem ggX2_takeTo_X2_isFigure : GoodIn wsX2_takeTo wsX2_isFigure := goodIn_r _ [9] rfl (by decide +kernel)
set_option maxRecDepth 20000 in
theorem gX2_takeTo_X2_isFigure : GoodIn wsX2_takeTo (va_wsS RX2 59 yX2_isFigure wsX2_isFigure) := goodIn_app (goodIn_of _ (by decide +kernel)) ggX2_takeTo_X2_isFigure
set_option maxRecDepth 20000 in
theorem ggX2_takeTo_X1_has : GoodIn wsX2_takeTo wsX1_has := goodIn_r _ [14, 15, 16, 17, 18, 34, 35, 36, 37, 38, 39] rfl (by decide +kernel)
set_option maxRecDepth 20000 in
theorem gX2_takeTo_X1_has : GoodIn wsX2_takeTo (wsV RX2 79 RX1 yX1_has wsX1_has) := goodIn_app (goodIn_r _ [10, 11, 12, 13] rfl (by decide +kernel)) ggX2_takeTo_X1_has
set_option maxRecDepth 20000 in
theorem ggX2_takeTo_X1_add : GoodIn wsX2_takeTo wsX1_add := goodIn_r _ [22, 16, 15, 17, 18, 23, 24, 25, 13, 26, 34, 35, 36, 37, 38, 39] rfl (by decide +kernel)
set_option maxRecDepth 20000 in
theorem gX2_takeTo_X1_add : GoodIn wsX2_takeTo (wsV RX2 83 RX1 yX1_add wsX1_add) := goodIn_app (goodIn_r _ [19, 20, 21, 13] rfl (by decide +kernel)) ggX2_takeTo_X1_add
theorem dX2_takeTo_0 : decode cX2_takeTo 0 = .ok (.iload_n 1, 1) := by decide +kernel
theorem dX2_takeTo_1 : decode cX2_takeTo 1 = .ok (.invokestatic 59, 3) := by decide +kernel
theorem dX2_takeTo_4 : decode cX2_takeTo 4 = .ok (.ifCond .ne 5, 3) := by decide +kernel
theorem dX2_takeTo_7 : decode cX2_takeTo 7 = .ok (.iload_n 2, 1) := by decide +kernel
theorem dX2_takeTo_8 : decode cX2_takeTo 8 = .ok (.ireturn, 1) := by decide +kernel
theorem dX2_takeTo_9 : decode cX2_takeTo 9 = .ok (.iload_n 1, 1) := by decide +kernel
theorem dX2_takeTo_10 : decode cX2_takeTo 10 = .ok (.bipush 48, 2) := by decide +kernel
theorem dX2_takeTo_12 : decode cX2_takeTo 12 = .ok (.isub, 1) := by decide +kernel
theorem dX2_takeTo_13 : decode cX2_takeTo 13 = .ok (.istore_n 3, 1) := by decide +kernel
theorem dX2_takeTo_14 : decode cX2_takeTo 14 = .ok (.aload_n 0, 1) := by decide +kernel
theorem dX2_takeTo_15 : decode cX2_takeTo 15 = .ok (.getfield 12, 3) := by decide +kernel
theorem dX2_takeTo_18 : decode cX2_takeTo 18 = .ok (.aload_n 0, 1) := by decide +kernel
theorem dX2_takeTo_19 : decode cX2_takeTo 19 = .ok (.getfield 70, 3) := by decide +kernel
theorem dX2_takeTo_22 : decode cX2_takeTo 22 = .ok (.aload_n 0, 1) := by decide +kernel
theorem dX2_takeTo_23 : decode cX2_takeTo 23 = .ok (.getfield 76, 3) := by decide +kernel
theorem dX2_takeTo_26 : decode cX2_takeTo 26 = .ok (.iload_n 3, 1) := by decide +kernel
theorem dX2_takeTo_27 : decode cX2_takeTo 27 = .ok (.invokevirtual 79, 3) := by decide +kernel
theorem dX2_takeTo_30 : decode cX2_takeTo 30 = .ok (.ifCond .eq 8, 3) := by decide +kernel
theorem dX2_takeTo_33 : decode cX2_takeTo 33 = .ok (.aload_n 0, 1) := by decide +kernel
theorem dX2_takeTo_34 : decode cX2_takeTo 34 = .ok (.getfield 67, 3) := by decide +kernel
theorem dX2_takeTo_37 : decode cX2_takeTo 37 = .ok (.ireturn, 1) := by decide +kernel
theorem dX2_takeTo_38 : decode cX2_takeTo 38 = .ok (.aload_n 0, 1) := by decide +kernel
theorem dX2_takeTo_39 : decode cX2_takeTo 39 = .ok (.getfield 12, 3) := by decide +kernel
theorem dX2_takeTo_42 : decode cX2_takeTo 42 = .ok (.aload_n 0, 1) := by decide +kernel
theorem dX2_takeTo_43 : decode cX2_takeTo 43 = .ok (.getfield 70, 3) := by decide +kernel
theorem dX2_takeTo_46 : decode cX2_takeTo 46 = .ok (.aload_n 0, 1) := by decide +kernel
theorem dX2_takeTo_47 : decode cX2_takeTo 47 = .ok (.getfield 76, 3) := by decide +kernel
theorem dX2_takeTo_50 : decode cX2_takeTo 50 = .ok (.iload_n 3, 1) := by decide +kernel
theorem dX2_takeTo_51 : decode cX2_takeTo 51 = .ok (.invokevirtual 83, 3) := by decide +kernel
theorem dX2_takeTo_54 : decode cX2_takeTo 54 = .ok (.aload_n 0, 1) := by decide +kernel
theorem dX2_takeTo_55 : decode cX2_takeTo 55 = .ok (.iconst 3, 1) := by decide +kernel
theorem dX2_takeTo_56 : decode cX2_takeTo 56 = .ok (.putfield 22, 3) := by decide +kernel
theorem dX2_takeTo_59 : decode cX2_takeTo 59 = .ok (.iconst (-1), 1) := by decide +kernel
theorem dX2_takeTo_60 : decode cX2_takeTo 60 = .ok (.ireturn, 1) := by decide +kernel
theorem dX2_takeEnd_0 : decode cX2_takeEnd 0 = .ok (.iload_n 1, 1) := by decide +kernel
theorem dX2_takeEnd_1 : decode cX2_takeEnd 1 = .ok (.bipush 59, 2) := by decide +kernel
theorem dX2_takeEnd_3 : decode cX2_takeEnd 3 = .ok (.if_icmp .eq 5, 3) := by decide +kernel
theorem dX2_takeEnd_6 : decode cX2_takeEnd 6 = .ok (.iload_n 2, 1) := by decide +kernel
theorem dX2_takeEnd_7 : decode cX2_takeEnd 7 = .ok (.ireturn, 1) := by decide +kernel
theorem dX2_takeEnd_8 : decode cX2_takeEnd 8 = .ok (.aload_n 0, 1) := by decide +kernel
theorem dX2_takeEnd_9 : decode cX2_takeEnd 9 = .ok (.dup, 1) := by decide +kernel
theorem dX2_takeEnd_10 : decode cX2_takeEnd 10 = .ok (.getfield 26, 3) := by decide +kernel
theorem dX2_takeEnd_13 : decode cX2_takeEnd 13 = .ok (.iconst 1, 1) := by decide +kernel
theorem dX2_takeEnd_14 : decode cX2_takeEnd 14 = .ok (.iadd, 1) := by decide +kernel
theorem dX2_takeEnd_15 : decode cX2_takeEnd 15 = .ok (.putfield 26, 3) := by decide +kernel
theorem dX2_takeEnd_18 : decode cX2_takeEnd 18 = .ok (.aload_n 0, 1) := by decide +kernel
theorem dX2_takeEnd_19 : decode cX2_takeEnd 19 = .ok (.iconst 0, 1) := by decide +kernel
theorem dX2_takeEnd_20 : decode cX2_takeEnd 20 = .ok (.putfield 22, 3) := by decide +kernel
theorem dX2_takeEnd_23 : decode cX2_takeEnd 23 = .ok (.iconst (-1), 1) := by decide +kernel
theorem dX2_takeEnd_24 : decode cX2_takeEnd 24 = .ok (.ireturn, 1) := by decide +kernel
set_option maxRecDepth 20000 in
theorem ggX2_takeInList_X2_isLetter : GoodIn wsX2_takeInList wsX2_isLetter := goodIn_r _ [9] rfl (by decide +kernel)
set_option maxRecDepth 20000 in
theorem gX2_takeInList_X2_isLetter : GoodIn wsX2_takeInList (va_wsS RX2 73 yX2_isLetter wsX2_isLetter) := goodIn_app (goodIn_of _ (by decide +kernel)) ggX2_takeInList_X2_isLetter
set_option maxRecDepth 20000 in
theorem ggX2_takeInList_X2_takeEnd : GoodIn wsX2_takeInList wsX2_takeEnd := goodIn_r _ [13, 14, 2, 15, 16, 17, 18, 19, 20, 21] rfl (by decide +kernel)
set_option maxRecDepth 20000 in
theorem gX2_takeInList_X2_takeEnd : GoodIn wsX2_takeInList (wsV RX2 50 RX2 yX2_takeEnd wsX2_takeEnd) := goodIn_app (goodIn_r _ [10, 11, 12, 8] rfl (by decide +kernel)) ggX2_takeInList_X2_takeEnd
theorem dX2_takeInList_0 : decode cX2_takeInList 0 = .ok (.iload_n 1, 1) := by decide +kernel
theorem dX2_takeInList_1 : decode cX2_takeInList 1 = .ok (.invokestatic 73, 3) := by decide +kernel
theorem dX2_takeInList_4 : decode cX2_takeInList 4 = .ok (.ifCond .eq 20, 3) := by decide +kernel
theorem dX2_takeInList_7 : decode cX2_takeInList 7 = .ok (.aload_n 0, 1) := by decide +kernel
theorem dX2_takeInList_8 : decode cX2_takeInList 8 = .ok (.dup, 1) := by decide +kernel
theorem dX2_takeInList_9 : decode cX2_takeInList 9 = .ok (.getfield 56, 3) := by decide +kernel
theorem dX2_takeInList_12 : decode cX2_takeInList 12 = .ok (.iconst 1, 1) := by decide +kernel
theorem dX2_takeInList_13 : decode cX2_takeInList 13 = .ok (.iload_n 1, 1) := by decide +kernel
theorem dX2_takeInList_14 : decode cX2_takeInList 14 = .ok (.bipush 97, 2) := by decide +kernel
theorem dX2_takeInList_16 : decode cX2_takeInList 16 = .ok (.isub, 1) := by decide +kernel
theorem dX2_takeInList_17 : decode cX2_takeInList 17 = .ok (.ishl, 1) := by decide +kernel
theorem dX2_takeInList_18 : decode cX2_takeInList 18 = .ok (.ior, 1) := by decide +kernel
theorem dX2_takeInList_19 : decode cX2_takeInList 19 = .ok (.putfield 56, 3) := by decide +kernel
theorem dX2_takeInList_22 : decode cX2_takeInList 22 = .ok (.iconst (-1), 1) := by decide +kernel
theorem dX2_takeInList_23 : decode cX2_takeInList 23 = .ok (.ireturn, 1) := by decide +kernel
theorem dX2_takeInList_24 : decode cX2_takeInList 24 = .ok (.iload_n 1, 1) := by decide +kernel
theorem dX2_takeInList_25 : decode cX2_takeInList 25 = .ok (.bipush 59, 2) := by decide +kernel
theorem dX2_takeInList_27 : decode cX2_takeInList 27 = .ok (.if_icmp .ne 25, 3) := by decide +kernel
theorem dX2_takeInList_30 : decode cX2_takeInList 30 = .ok (.aload_n 0, 1) := by decide +kernel
theorem dX2_takeInList_31 : decode cX2_takeInList 31 = .ok (.getfield 22, 3) := by decide +kernel
theorem dX2_takeInList_34 : decode cX2_takeInList 34 = .ok (.iconst 4, 1) := by decide +kernel
theorem dX2_takeInList_35 : decode cX2_takeInList 35 = .ok (.if_icmp .ne 17, 3) := by decide +kernel
theorem dX2_takeInList_38 : decode cX2_takeInList 38 = .ok (.aload_n 0, 1) := by decide +kernel
theorem dX2_takeInList_39 : decode cX2_takeInList 39 = .ok (.getfield 12, 3) := by decide +kernel
theorem dX2_takeInList_42 : decode cX2_takeInList 42 = .ok (.aload_n 0, 1) := by decide +kernel
theorem dX2_takeInList_43 : decode cX2_takeInList 43 = .ok (.getfield 56, 3) := by decide +kernel
theorem dX2_takeInList_46 : decode cX2_takeInList 46 = .ok (.putfield 87, 3) := by decide +kernel
theorem dX2_takeInList_49 : decode cX2_takeInList 49 = .ok (.goto 26, 3) := by decide +kernel
theorem dX2_takeInList_52 : decode cX2_takeInList 52 = .ok (.iload_n 1, 1) := by decide +kernel
theorem dX2_takeInList_53 : decode cX2_takeInList 53 = .ok (.bipush 59, 2) := by decide +kernel
theorem dX2_takeInList_55 : decode cX2_takeInList 55 = .ok (.if_icmp .ne 20, 3) := by decide +kernel
theorem dX2_takeInList_58 : decode cX2_takeInList 58 = .ok (.aload_n 0, 1) := by decide +kernel
theorem dX2_takeInList_59 : decode cX2_takeInList 59 = .ok (.getfield 12, 3) := by decide +kernel
theorem dX2_takeInList_62 : decode cX2_takeInList 62 = .ok (.sipush 255, 3) := by decide +kernel
theorem dX2_takeInList_65 : decode cX2_takeInList 65 = .ok (.aload_n 0, 1) := by decide +kernel
theorem dX2_takeInList_66 : decode cX2_takeInList 66 = .ok (.getfield 56, 3) := by decide +kernel
theorem dX2_takeInList_69 : decode cX2_takeInList 69 = .ok (.iconst (-1), 1) := by decide +kernel
theorem dX2_takeInList_70 : decode cX2_takeInList 70 = .ok (.ixor, 1) := by decide +kernel
theorem dX2_takeInList_71 : decode cX2_takeInList 71 = .ok (.iand, 1) := by decide +kernel
theorem dX2_takeInList_72 : decode cX2_takeInList 72 = .ok (.putfield 90, 3) := by decide +kernel
theorem dX2_takeInList_75 : decode cX2_takeInList 75 = .ok (.aload_n 0, 1) := by decide +kernel
theorem dX2_takeInList_76 : decode cX2_takeInList 76 = .ok (.iload_n 1, 1) := by decide +kernel
theorem dX2_takeInList_77 : decode cX2_takeInList 77 = .ok (.iload_n 2, 1) := by decide +kernel
theorem dX2_takeInList_78 : decode cX2_takeInList 78 = .ok (.invokevirtual 50, 3) := by decide +kernel
theorem dX2_takeInList_81 : decode cX2_takeInList 81 = .ok (.ireturn, 1) := by decide +kernel
theorem dX2_isFigure_0 : decode cX2_isFigure 0 = .ok (.iload_n 0, 1) := by decide +kernel
theorem dX2_isFigure_1 : decode cX2_isFigure 1 = .ok (.bipush 48, 2) := by decide +kernel
theorem dX2_isFigure_3 : decode cX2_isFigure 3 = .ok (.if_icmp .lt 13, 3) := by decide +kernel
theorem dX2_isFigure_6 : decode cX2_isFigure 6 = .ok (.iload_n 0, 1) := by decide +kernel
theorem dX2_isFigure_7 : decode cX2_isFigure 7 = .ok (.bipush 57, 2) := by decide +kernel
theorem dX2_isFigure_9 : decode cX2_isFigure 9 = .ok (.if_icmp .gt 7, 3) := by decide +kernel
theorem dX2_isFigure_12 : decode cX2_isFigure 12 = .ok (.iconst 1, 1) := by decide +kernel
theorem dX2_isFigure_13 : decode cX2_isFigure 13 = .ok (.goto 4, 3) := by decide +kernel
theorem dX2_isFigure_16 : decode cX2_isFigure 16 = .ok (.iconst 0, 1) := by decide +kernel
theorem dX2_isFigure_17 : decode cX2_isFigure 17 = .ok (.ireturn, 1) := by decide +kernel
theorem dX2_isLetter_0 : decode cX2_isLetter 0 = .ok (.iload_n 0, 1) := by decide +kernel
theorem dX2_isLetter_1 : decode cX2_isLetter 1 = .ok (.bipush 97, 2) := by decide +kernel
theorem dX2_isLetter_3 : decode cX2_isLetter 3 = .ok (.if_icmp .lt 13, 3) := by decide +kernel
theorem dX2_isLetter_6 : decode cX2_isLetter 6 = .ok (.iload_n 0, 1) := by decide +kernel
theorem dX2_isLetter_7 : decode cX2_isLetter 7 = .ok (.bipush 104, 2) := by decide +kernel
theorem dX2_isLetter_9 : decode cX2_isLetter 9 = .ok (.if_icmp .gt 7, 3) := by decide +kernel
theorem dX2_isLetter_12 : decode cX2_isLetter 12 = .ok (.iconst 1, 1) := by decide +kernel
theorem dX2_isLetter_13 : decode cX2_isLetter 13 = .ok (.goto 4, 3) := by decide +kernel
theorem dX2_isLetter_16 : decode cX2_isLetter 16 = .ok (.iconst 0, 1) := by decide +kernel
theorem dX2_isLetter_17 : decode cX2_isLetter 17 = .ok (.ireturn, 1) := by decide +kernel
theorem dX3_init_0 : decode cX3_init 0 = .ok (.aload_n 0, 1) := by decide +kernel
theorem dX3_init_1 : decode cX3_init 1 = .ok (.invokespecial 3, 3) := by decide +kernel
theorem dX3_init_4 : decode cX3_init 4 = .ok (.aload_n 0, 1) := by decide +kernel
theorem dX3_init_5 : decode cX3_init 5 = .ok (.sipush 500, 3) := by decide +kernel
theorem dX3_init_8 : decode cX3_init 8 = .ok (.newarray .int, 2) := by decide +kernel
theorem dX3_init_10 : decode cX3_init 10 = .ok (.putfield 9, 3) := by decide +kernel
theorem dX3_init_13 : decode cX3_init 13 = .ok (.aload_n 0, 1) := by decide +kernel
theorem dX3_init_14 : decode cX3_init 14 = .ok (.sipush 500, 3) := by decide +kernel
theorem dX3_init_17 : decode cX3_init 17 = .ok (.newarray .int, 2) := by decide +kernel
theorem dX3_init_19 : decode cX3_init 19 = .ok (.putfield 15, 3) := by decide +kernel
theorem dX3_init_22 : decode cX3_init 22 = .ok (.aload_n 0, 1) := by decide +kernel
theorem dX3_init_23 : decode cX3_init 23 = .ok (.sipush 1024, 3) := by decide +kernel
theorem dX3_init_26 : decode cX3_init 26 = .ok (.newarray .int, 2) := by decide +kernel
theorem dX3_init_28 : decode cX3_init 28 = .ok (.putfield 18, 3) := by decide +kernel
theorem dX3_init_31 : decode cX3_init 31 = .ok (.return_, 1) := by decide +kernel
set_option maxRecDepth 20000 in
theorem ggX3_find_J7_fill_53178 : GoodIn wsX3_find wsJ7_fill_53178 := goodIn_r _ [8] rfl (by decide +kernel)
set_option maxRecDepth 20000 in
theorem gX3_find_J7_fill_53178 : GoodIn wsX3_find (va_wsS RX3 21 yJ7_fill_53178 wsJ7_fill_53178) := goodIn_app (goodIn_of _ (by decide +kernel)) ggX3_find_J7_fill_53178
set_option maxRecDepth 20000 in
theorem ggX3_find_X7_first : GoodIn wsX3_find wsX7_first := goodIn_r _ [13, 14, 30, 31, 32] rfl (by decide +kernel)
set_option maxRecDepth 20000 in
theorem gX3_find_X7_first : GoodIn wsX3_find (wsV RX3 31 RX7 yX7_first wsX7_first) := goodIn_app (goodIn_r _ [9, 10, 11, 12] rfl (by decide +kernel)) ggX3_find_X7_first
set_option maxRecDepth 20000 in
theorem ggX3_find_X3_enter : GoodIn wsX3_find wsX3_enter := goodIn_r _ [19, 20, 2, 1, 3, 4, 26, 27, 28, 29] rfl (by decide +kernel)
set_option maxRecDepth 20000 in
theorem gX3_find_X3_enter : GoodIn wsX3_find (wsV RX3 37 RX3 yX3_enter wsX3_enter) := goodIn_app (goodIn_r _ [15, 16, 17, 18] rfl (by decide +kernel)) ggX3_find_X3_enter
set_option maxRecDepth 20000 in
theorem ggX3_find_X7_after : GoodIn wsX3_find wsX7_after := goodIn_r _ [24, 25, 30, 31, 32] rfl (by decide +kernel)
set_option maxRecDepth 20000 in
theorem gX3_find_X7_after : GoodIn wsX3_find (wsV RX3 41 RX7 yX7_after wsX7_after) := goodIn_app (goodIn_r _ [21, 22, 23, 12] rfl (by decide +kernel)) ggX3_find_X7_after
theorem dX3_find_0 : decode cX3_find 0 = .ok (.aload_n 0, 1) := by decide +kernel
theorem dX3_find_1 : decode cX3_find 1 = .ok (.getfield 18, 3) := by decide +kernel
theorem dX3_find_4 : decode cX3_find 4 = .ok (.iconst 0, 1) := by decide +kernel
theorem dX3_find_5 : decode cX3_find 5 = .ok (.invokestatic 21, 3) := by decide +kernel
theorem dX3_find_8 : decode cX3_find 8 = .ok (.aload_n 0, 1) := by decide +kernel
theorem dX3_find_9 : decode cX3_find 9 = .ok (.iconst 0, 1) := by decide +kernel
theorem dX3_find_10 : decode cX3_find 10 = .ok (.putfield 27, 3) := by decide +kernel
theorem dX3_find_13 : decode cX3_find 13 = .ok (.aload_n 0, 1) := by decide +kernel
theorem dX3_find_14 : decode cX3_find 14 = .ok (.aload_n 1, 1) := by decide +kernel
theorem dX3_find_15 : decode cX3_find 15 = .ok (.invokevirtual 31, 3) := by decide +kernel
theorem dX3_find_18 : decode cX3_find 18 = .ok (.iconst 0, 1) := by decide +kernel
theorem dX3_find_19 : decode cX3_find 19 = .ok (.invokevirtual 37, 3) := by decide +kernel
theorem dX3_find_22 : decode cX3_find 22 = .ok (.iconst 0, 1) := by decide +kernel
theorem dX3_find_23 : decode cX3_find 23 = .ok (.istore_n 2, 1) := by decide +kernel
theorem dX3_find_24 : decode cX3_find 24 = .ok (.iload_n 2, 1) := by decide +kernel
theorem dX3_find_25 : decode cX3_find 25 = .ok (.sipush 500, 3) := by decide +kernel
theorem dX3_find_28 : decode cX3_find 28 = .ok (.if_icmp .ge 63, 3) := by decide +kernel
theorem dX3_find_31 : decode cX3_find 31 = .ok (.iload_n 2, 1) := by decide +kernel
theorem dX3_find_32 : decode cX3_find 32 = .ok (.aload_n 0, 1) := by decide +kernel
theorem dX3_find_33 : decode cX3_find 33 = .ok (.getfield 27, 3) := by decide +kernel
theorem dX3_find_36 : decode cX3_find 36 = .ok (.if_icmp .ge 55, 3) := by decide +kernel
theorem dX3_find_39 : decode cX3_find 39 = .ok (.iconst 0, 1) := by decide +kernel
theorem dX3_find_40 : decode cX3_find 40 = .ok (.istore_n 3, 1) := by decide +kernel
theorem dX3_find_41 : decode cX3_find 41 = .ok (.iload_n 3, 1) := by decide +kernel
theorem dX3_find_42 : decode cX3_find 42 = .ok (.bipush 8, 2) := by decide +kernel
theorem dX3_find_44 : decode cX3_find 44 = .ok (.if_icmp .ge 41, 3) := by decide +kernel
theorem dX3_find_47 : decode cX3_find 47 = .ok (.aload_n 1, 1) := by decide +kernel
theorem dX3_find_48 : decode cX3_find 48 = .ok (.aload_n 0, 1) := by decide +kernel
theorem dX3_find_49 : decode cX3_find 49 = .ok (.getfield 9, 3) := by decide +kernel
theorem dX3_find_52 : decode cX3_find 52 = .ok (.iload_n 2, 1) := by decide +kernel
theorem dX3_find_53 : decode cX3_find 53 = .ok (.iaload, 1) := by decide +kernel
theorem dX3_find_54 : decode cX3_find 54 = .ok (.iload_n 3, 1) := by decide +kernel
theorem dX3_find_55 : decode cX3_find 55 = .ok (.invokevirtual 41, 3) := by decide +kernel
theorem dX3_find_58 : decode cX3_find 58 = .ok (.istore 4, 2) := by decide +kernel
theorem dX3_find_60 : decode cX3_find 60 = .ok (.iload 4, 2) := by decide +kernel
theorem dX3_find_62 : decode cX3_find 62 = .ok (.ifCond .eq 17, 3) := by decide +kernel
theorem dX3_find_65 : decode cX3_find 65 = .ok (.aload_n 0, 1) := by decide +kernel
theorem dX3_find_66 : decode cX3_find 66 = .ok (.iload 4, 2) := by decide +kernel
theorem dX3_find_68 : decode cX3_find 68 = .ok (.aload_n 0, 1) := by decide +kernel
theorem dX3_find_69 : decode cX3_find 69 = .ok (.getfield 15, 3) := by decide +kernel
theorem dX3_find_72 : decode cX3_find 72 = .ok (.iload_n 2, 1) := by decide +kernel
theorem dX3_find_73 : decode cX3_find 73 = .ok (.iaload, 1) := by decide +kernel
theorem dX3_find_74 : decode cX3_find 74 = .ok (.iconst 1, 1) := by decide +kernel
theorem dX3_find_75 : decode cX3_find 75 = .ok (.iadd, 1) := by decide +kernel
theorem dX3_find_76 : decode cX3_find 76 = .ok (.invokevirtual 37, 3) := by decide +kernel
theorem dX3_find_79 : decode cX3_find 79 = .ok (.iinc 3 1, 3) := by decide +kernel
theorem dX3_find_82 : decode cX3_find 82 = .ok (.goto (-41), 3) := by decide +kernel
theorem dX3_find_85 : decode cX3_find 85 = .ok (.iinc 2 1, 3) := by decide +kernel
theorem dX3_find_88 : decode cX3_find 88 = .ok (.goto (-64), 3) := by decide +kernel
theorem dX3_find_91 : decode cX3_find 91 = .ok (.return_, 1) := by decide +kernel
theorem dX3_enter_0 : decode cX3_enter 0 = .ok (.iload_n 1, 1) := by decide +kernel
theorem dX3_enter_1 : decode cX3_enter 1 = .ok (.ldc 45, 2) := by decide +kernel
theorem dX3_enter_3 : decode cX3_enter 3 = .ok (.imul, 1) := by decide +kernel
theorem dX3_enter_4 : decode cX3_enter 4 = .ok (.bipush 22, 2) := by decide +kernel
theorem dX3_enter_6 : decode cX3_enter 6 = .ok (.iushr, 1) := by decide +kernel
theorem dX3_enter_7 : decode cX3_enter 7 = .ok (.istore_n 3, 1) := by decide +kernel
theorem dX3_enter_8 : decode cX3_enter 8 = .ok (.iconst 0, 1) := by decide +kernel
theorem dX3_enter_9 : decode cX3_enter 9 = .ok (.istore 4, 2) := by decide +kernel
theorem dX3_enter_11 : decode cX3_enter 11 = .ok (.iload 4, 2) := by decide +kernel
theorem dX3_enter_13 : decode cX3_enter 13 = .ok (.sipush 1024, 3) := by decide +kernel
theorem dX3_enter_16 : decode cX3_enter 16 = .ok (.if_icmp .ge 100, 3) := by decide +kernel
theorem dX3_enter_19 : decode cX3_enter 19 = .ok (.aload_n 0, 1) := by decide +kernel
theorem dX3_enter_20 : decode cX3_enter 20 = .ok (.getfield 27, 3) := by decide +kernel
theorem dX3_enter_23 : decode cX3_enter 23 = .ok (.sipush 500, 3) := by decide +kernel
theorem dX3_enter_26 : decode cX3_enter 26 = .ok (.if_icmp .ge 90, 3) := by decide +kernel
theorem dX3_enter_29 : decode cX3_enter 29 = .ok (.iload_n 3, 1) := by decide +kernel
theorem dX3_enter_30 : decode cX3_enter 30 = .ok (.iload 4, 2) := by decide +kernel
theorem dX3_enter_32 : decode cX3_enter 32 = .ok (.iadd, 1) := by decide +kernel
theorem dX3_enter_33 : decode cX3_enter 33 = .ok (.sipush 1023, 3) := by decide +kernel
theorem dX3_enter_36 : decode cX3_enter 36 = .ok (.iand, 1) := by decide +kernel
theorem dX3_enter_37 : decode cX3_enter 37 = .ok (.istore 5, 2) := by decide +kernel
theorem dX3_enter_39 : decode cX3_enter 39 = .ok (.aload_n 0, 1) := by decide +kernel
theorem dX3_enter_40 : decode cX3_enter 40 = .ok (.getfield 18, 3) := by decide +kernel
theorem dX3_enter_43 : decode cX3_enter 43 = .ok (.iload 5, 2) := by decide +kernel
theorem dX3_enter_45 : decode cX3_enter 45 = .ok (.iaload, 1) := by decide +kernel
theorem dX3_enter_46 : decode cX3_enter 46 = .ok (.ifCond .ne 45, 3) := by decide +kernel
theorem dX3_enter_49 : decode cX3_enter 49 = .ok (.aload_n 0, 1) := by decide +kernel
theorem dX3_enter_50 : decode cX3_enter 50 = .ok (.getfield 9, 3) := by decide +kernel
theorem dX3_enter_53 : decode cX3_enter 53 = .ok (.aload_n 0, 1) := by decide +kernel
theorem dX3_enter_54 : decode cX3_enter 54 = .ok (.getfield 27, 3) := by decide +kernel
theorem dX3_enter_57 : decode cX3_enter 57 = .ok (.iload_n 1, 1) := by decide +kernel
theorem dX3_enter_58 : decode cX3_enter 58 = .ok (.iastore, 1) := by decide +kernel
theorem dX3_enter_59 : decode cX3_enter 59 = .ok (.aload_n 0, 1) := by decide +kernel
theorem dX3_enter_60 : decode cX3_enter 60 = .ok (.getfield 15, 3) := by decide +kernel
theorem dX3_enter_63 : decode cX3_enter 63 = .ok (.aload_n 0, 1) := by decide +kernel
theorem dX3_enter_64 : decode cX3_enter 64 = .ok (.getfield 27, 3) := by decide +kernel
theorem dX3_enter_67 : decode cX3_enter 67 = .ok (.iload_n 2, 1) := by decide +kernel
theorem dX3_enter_68 : decode cX3_enter 68 = .ok (.iastore, 1) := by decide +kernel
theorem dX3_enter_69 : decode cX3_enter 69 = .ok (.aload_n 0, 1) := by decide +kernel
theorem dX3_enter_70 : decode cX3_enter 70 = .ok (.dup, 1) := by decide +kernel
theorem dX3_enter_71 : decode cX3_enter 71 = .ok (.getfield 27, 3) := by decide +kernel
theorem dX3_enter_74 : decode cX3_enter 74 = .ok (.iconst 1, 1) := by decide +kernel
theorem dX3_enter_75 : decode cX3_enter 75 = .ok (.iadd, 1) := by decide +kernel
theorem dX3_enter_76 : decode cX3_enter 76 = .ok (.putfield 27, 3) := by decide +kernel
theorem dX3_enter_79 : decode cX3_enter 79 = .ok (.aload_n 0, 1) := by decide +kernel
theorem dX3_enter_80 : decode cX3_enter 80 = .ok (.getfield 18, 3) := by decide +kernel
theorem dX3_enter_83 : decode cX3_enter 83 = .ok (.iload 5, 2) := by decide +kernel
theorem dX3_enter_85 : decode cX3_enter 85 = .ok (.aload_n 0, 1) := by decide +kernel
theorem dX3_enter_86 : decode cX3_enter 86 = .ok (.getfield 27, 3) := by decide +kernel
theorem dX3_enter_89 : decode cX3_enter 89 = .ok (.iastore, 1) := by decide +kernel
theorem dX3_enter_90 : decode cX3_enter 90 = .ok (.return_, 1) := by decide +kernel
theorem dX3_enter_91 : decode cX3_enter 91 = .ok (.aload_n 0, 1) := by decide +kernel
theorem dX3_enter_92 : decode cX3_enter 92 = .ok (.getfield 9, 3) := by decide +kernel
theorem dX3_enter_95 : decode cX3_enter 95 = .ok (.aload_n 0, 1) := by decide +kernel
theorem dX3_enter_96 : decode cX3_enter 96 = .ok (.getfield 18, 3) := by decide +kernel
theorem dX3_enter_99 : decode cX3_enter 99 = .ok (.iload 5, 2) := by decide +kernel
theorem dX3_enter_101 : decode cX3_enter 101 = .ok (.iaload, 1) := by decide +kernel
theorem dX3_enter_102 : decode cX3_enter 102 = .ok (.iconst 1, 1) := by decide +kernel
theorem dX3_enter_103 : decode cX3_enter 103 = .ok (.isub, 1) := by decide +kernel
theorem dX3_enter_104 : decode cX3_enter 104 = .ok (.iaload, 1) := by decide +kernel
theorem dX3_enter_105 : decode cX3_enter 105 = .ok (.iload_n 1, 1) := by decide +kernel
theorem dX3_enter_106 : decode cX3_enter 106 = .ok (.if_icmp .ne 4, 3) := by decide +kernel
theorem dX3_enter_109 : decode cX3_enter 109 = .ok (.return_, 1) := by decide +kernel
theorem dX3_enter_110 : decode cX3_enter 110 = .ok (.iinc 4 1, 3) := by decide +kernel
theorem dX3_enter_113 : decode cX3_enter 113 = .ok (.goto (-102), 3) := by decide +kernel
theorem dX3_enter_116 : decode cX3_enter 116 = .ok (.return_, 1) := by decide +kernel
set_option maxRecDepth 20000 in
theorem ggX3_countOf_X9_verdict : GoodIn wsX3_countOf wsX9_verdict := goodIn_r _ [5] rfl (by decide +kernel)
set_option maxRecDepth 20000 in
theorem gX3_countOf_X9_verdict_n46 : GoodIn wsX3_countOf (wsX9_verdict) := ggX3_countOf_X9_verdict
theorem dX3_countOf_0 : decode cX3_countOf 0 = .ok (.iconst 0, 1) := by decide +kernel
theorem dX3_countOf_1 : decode cX3_countOf 1 = .ok (.istore_n 2, 1) := by decide +kernel
theorem dX3_countOf_2 : decode cX3_countOf 2 = .ok (.iconst 0, 1) := by decide +kernel
theorem dX3_countOf_3 : decode cX3_countOf 3 = .ok (.istore_n 3, 1) := by decide +kernel
theorem dX3_countOf_4 : decode cX3_countOf 4 = .ok (.iload_n 3, 1) := by decide +kernel
theorem dX3_countOf_5 : decode cX3_countOf 5 = .ok (.aload_n 0, 1) := by decide +kernel
theorem dX3_countOf_6 : decode cX3_countOf 6 = .ok (.getfield 27, 3) := by decide +kernel
theorem dX3_countOf_9 : decode cX3_countOf 9 = .ok (.if_icmp .ge 25, 3) := by decide +kernel
theorem dX3_countOf_12 : decode cX3_countOf 12 = .ok (.aload_n 0, 1) := by decide +kernel
theorem dX3_countOf_13 : decode cX3_countOf 13 = .ok (.getfield 9, 3) := by decide +kernel
theorem dX3_countOf_16 : decode cX3_countOf 16 = .ok (.iload_n 3, 1) := by decide +kernel
theorem dX3_countOf_17 : decode cX3_countOf 17 = .ok (.iaload, 1) := by decide +kernel
theorem dX3_countOf_18 : decode cX3_countOf 18 = .ok (.invokestatic 46, 3) := by decide +kernel
theorem dX3_countOf_21 : decode cX3_countOf 21 = .ok (.iload_n 1, 1) := by decide +kernel
theorem dX3_countOf_22 : decode cX3_countOf 22 = .ok (.if_icmp .ne 6, 3) := by decide +kernel
theorem dX3_countOf_25 : decode cX3_countOf 25 = .ok (.iinc 2 1, 3) := by decide +kernel
theorem dX3_countOf_28 : decode cX3_countOf 28 = .ok (.iinc 3 1, 3) := by decide +kernel
theorem dX3_countOf_31 : decode cX3_countOf 31 = .ok (.goto (-27), 3) := by decide +kernel
theorem dX3_countOf_34 : decode cX3_countOf 34 = .ok (.iload_n 2, 1) := by decide +kernel
theorem dX3_countOf_35 : decode cX3_countOf 35 = .ok (.ireturn, 1) := by decide +kernel
set_option maxRecDepth 20000 in
theorem ggX3_fewestSights_X9_verdict : GoodIn wsX3_fewestSights wsX9_verdict := goodIn_r _ [6] rfl (by decide +kernel)
set_option maxRecDepth 20000 in
theorem gX3_fewestSights_X9_verdict_n46 : GoodIn wsX3_fewestSights (wsX9_verdict) := ggX3_fewestSights_X9_verdict
theorem dX3_fewestSights_0 : decode cX3_fewestSights 0 = .ok (.iconst 0, 1) := by decide +kernel
theorem dX3_fewestSights_1 : decode cX3_fewestSights 1 = .ok (.istore_n 2, 1) := by decide +kernel
theorem dX3_fewestSights_2 : decode cX3_fewestSights 2 = .ok (.iload_n 2, 1) := by decide +kernel
theorem dX3_fewestSights_3 : decode cX3_fewestSights 3 = .ok (.aload_n 0, 1) := by decide +kernel
theorem dX3_fewestSights_4 : decode cX3_fewestSights 4 = .ok (.getfield 27, 3) := by decide +kernel
theorem dX3_fewestSights_7 : decode cX3_fewestSights 7 = .ok (.if_icmp .ge 29, 3) := by decide +kernel
theorem dX3_fewestSights_10 : decode cX3_fewestSights 10 = .ok (.aload_n 0, 1) := by decide +kernel
theorem dX3_fewestSights_11 : decode cX3_fewestSights 11 = .ok (.getfield 9, 3) := by decide +kernel
theorem dX3_fewestSights_14 : decode cX3_fewestSights 14 = .ok (.iload_n 2, 1) := by decide +kernel
theorem dX3_fewestSights_15 : decode cX3_fewestSights 15 = .ok (.iaload, 1) := by decide +kernel
theorem dX3_fewestSights_16 : decode cX3_fewestSights 16 = .ok (.invokestatic 46, 3) := by decide +kernel
theorem dX3_fewestSights_19 : decode cX3_fewestSights 19 = .ok (.iload_n 1, 1) := by decide +kernel
theorem dX3_fewestSights_20 : decode cX3_fewestSights 20 = .ok (.if_icmp .ne 10, 3) := by decide +kernel
theorem dX3_fewestSights_23 : decode cX3_fewestSights 23 = .ok (.aload_n 0, 1) := by decide +kernel
theorem dX3_fewestSights_24 : decode cX3_fewestSights 24 = .ok (.getfield 15, 3) := by decide +kernel
theorem dX3_fewestSights_27 : decode cX3_fewestSights 27 = .ok (.iload_n 2, 1) := by decide +kernel
theorem dX3_fewestSights_28 : decode cX3_fewestSights 28 = .ok (.iaload, 1) := by decide +kernel
theorem dX3_fewestSights_29 : decode cX3_fewestSights 29 = .ok (.ireturn, 1) := by decide +kernel
theorem dX3_fewestSights_30 : decode cX3_fewestSights 30 = .ok (.iinc 2 1, 3) := by decide +kernel
theorem dX3_fewestSights_33 : decode cX3_fewestSights 33 = .ok (.goto (-31), 3) := by decide +kernel
theorem dX3_fewestSights_36 : decode cX3_fewestSights 36 = .ok (.iconst (-1), 1) := by decide +kernel
theorem dX3_fewestSights_37 : decode cX3_fewestSights 37 = .ok (.ireturn, 1) := by decide +kernel
set_option maxRecDepth 20000 in
theorem ggX4_init_X1_init : GoodIn wsX4_init wsX1_init := goodIn_r _ [13, 14, 2, 3, 15, 16, 17, 18, 19, 24, 25, 26, 27, 28, 29] rfl (by decide +kernel)
set_option maxRecDepth 20000 in
theorem gX4_init_X1_init_n9 : GoodIn wsX4_init (wsX1_init) := ggX4_init_X1_init
set_option maxRecDepth 20000 in
theorem ggX4_init_X8_init : GoodIn wsX4_init wsX8_init := goodIn_r _ [21, 22, 2, 3, 15, 23, 32, 33, 34] rfl (by decide +kernel)
set_option maxRecDepth 20000 in
theorem gX4_init_X8_init_n18 : GoodIn wsX4_init (wsX8_init) := ggX4_init_X8_init
theorem dX4_init_0 : decode cX4_init 0 = .ok (.aload_n 0, 1) := by decide +kernel
theorem dX4_init_1 : decode cX4_init 1 = .ok (.invokespecial 1, 3) := by decide +kernel
theorem dX4_init_4 : decode cX4_init 4 = .ok (.aload_n 0, 1) := by decide +kernel
theorem dX4_init_5 : decode cX4_init 5 = .ok (.new 7, 3) := by decide +kernel
theorem dX4_init_8 : decode cX4_init 8 = .ok (.dup, 1) := by decide +kernel
theorem dX4_init_9 : decode cX4_init 9 = .ok (.invokespecial 9, 3) := by decide +kernel
theorem dX4_init_12 : decode cX4_init 12 = .ok (.putfield 10, 3) := by decide +kernel
theorem dX4_init_15 : decode cX4_init 15 = .ok (.aload_n 0, 1) := by decide +kernel
theorem dX4_init_16 : decode cX4_init 16 = .ok (.new 16, 3) := by decide +kernel
theorem dX4_init_19 : decode cX4_init 19 = .ok (.dup, 1) := by decide +kernel
theorem dX4_init_20 : decode cX4_init 20 = .ok (.invokespecial 18, 3) := by decide +kernel
theorem dX4_init_23 : decode cX4_init 23 = .ok (.putfield 19, 3) := by decide +kernel
theorem dX4_init_26 : decode cX4_init 26 = .ok (.return_, 1) := by decide +kernel
set_option maxRecDepth 20000 in
theorem ggX4_take_X1_take : GoodIn wsX4_take wsX1_take := goodIn_r _ [7, 8, 9, 10, 11, 12, 13, 14, 15, 16, 17, 29, 30, 31, 32, 33, 34] rfl (by decide +kernel)
set_option maxRecDepth 20000 in
theorem gX4_take_X1_take : GoodIn wsX4_take (wsV RX4 23 RX1 yX1_take wsX1_take) := goodIn_app (goodIn_r _ [3, 4, 5, 6] rfl (by decide +kernel)) ggX4_take_X1_take
set_option maxRecDepth 20000 in
theorem ggX4_take_X8_take : GoodIn wsX4_take wsX8_take := goodIn_r _ [22, 23, 24, 10, 11, 12, 25, 26, 35, 36, 37] rfl (by decide +kernel)
set_option maxRecDepth 20000 in
theorem gX4_take_X8_take : GoodIn wsX4_take (wsV RX4 27 RX8 yX8_take wsX8_take) := goodIn_app (goodIn_r _ [18, 19, 20, 21] rfl (by decide +kernel)) ggX4_take_X8_take
theorem dX4_take_0 : decode cX4_take 0 = .ok (.aload_n 0, 1) := by decide +kernel
theorem dX4_take_1 : decode cX4_take 1 = .ok (.getfield 10, 3) := by decide +kernel
theorem dX4_take_4 : decode cX4_take 4 = .ok (.aload_n 1, 1) := by decide +kernel
theorem dX4_take_5 : decode cX4_take 5 = .ok (.getfield 10, 3) := by decide +kernel
theorem dX4_take_8 : decode cX4_take 8 = .ok (.invokevirtual 23, 3) := by decide +kernel
theorem dX4_take_11 : decode cX4_take 11 = .ok (.aload_n 0, 1) := by decide +kernel
theorem dX4_take_12 : decode cX4_take 12 = .ok (.getfield 19, 3) := by decide +kernel
theorem dX4_take_15 : decode cX4_take 15 = .ok (.aload_n 1, 1) := by decide +kernel
theorem dX4_take_16 : decode cX4_take 16 = .ok (.getfield 19, 3) := by decide +kernel
theorem dX4_take_19 : decode cX4_take 19 = .ok (.invokevirtual 27, 3) := by decide +kernel
theorem dX4_take_22 : decode cX4_take 22 = .ok (.return_, 1) := by decide +kernel
theorem dX5_init_0 : decode cX5_init 0 = .ok (.aload_n 0, 1) := by decide +kernel
theorem dX5_init_1 : decode cX5_init 1 = .ok (.invokespecial 3, 3) := by decide +kernel
theorem dX5_init_4 : decode cX5_init 4 = .ok (.aload_n 0, 1) := by decide +kernel
theorem dX5_init_5 : decode cX5_init 5 = .ok (.bipush 120, 2) := by decide +kernel
theorem dX5_init_7 : decode cX5_init 7 = .ok (.newarray .byte, 2) := by decide +kernel
theorem dX5_init_9 : decode cX5_init 9 = .ok (.putfield 9, 3) := by decide +kernel
theorem dX5_init_12 : decode cX5_init 12 = .ok (.return_, 1) := by decide +kernel
theorem dX6_init_0 : decode cX6_init 0 = .ok (.aload_n 0, 1) := by decide +kernel
theorem dX6_init_1 : decode cX6_init 1 = .ok (.invokespecial 3, 3) := by decide +kernel
theorem dX6_init_4 : decode cX6_init 4 = .ok (.aload_n 0, 1) := by decide +kernel
theorem dX6_init_5 : decode cX6_init 5 = .ok (.bipush 10, 2) := by decide +kernel
theorem dX6_init_7 : decode cX6_init 7 = .ok (.newarray .int, 2) := by decide +kernel
theorem dX6_init_9 : decode cX6_init 9 = .ok (.putfield 9, 3) := by decide +kernel
theorem dX6_init_12 : decode cX6_init 12 = .ok (.aload_n 0, 1) := by decide +kernel
theorem dX6_init_13 : decode cX6_init 13 = .ok (.bipush 80, 2) := by decide +kernel
theorem dX6_init_15 : decode cX6_init 15 = .ok (.newarray .int, 2) := by decide +kernel
theorem dX6_init_17 : decode cX6_init 17 = .ok (.putfield 15, 3) := by decide +kernel
theorem dX6_init_20 : decode cX6_init 20 = .ok (.aload_n 0, 1) := by decide +kernel
theorem dX6_init_21 : decode cX6_init 21 = .ok (.bipush 20, 2) := by decide +kernel
theorem dX6_init_23 : decode cX6_init 23 = .ok (.newarray .int, 2) := by decide +kernel
theorem dX6_init_25 : decode cX6_init 25 = .ok (.putfield 18, 3) := by decide +kernel
theorem dX6_init_28 : decode cX6_init 28 = .ok (.aload_n 0, 1) := by decide +kernel
theorem dX6_init_29 : decode cX6_init 29 = .ok (.bipush 10, 2) := by decide +kernel
theorem dX6_init_31 : decode cX6_init 31 = .ok (.newarray .int, 2) := by decide +kernel
theorem dX6_init_33 : decode cX6_init 33 = .ok (.putfield 21, 3) := by decide +kernel
theorem dX6_init_36 : decode cX6_init 36 = .ok (.aload_n 0, 1) := by decide +kernel
theorem dX6_init_37 : decode cX6_init 37 = .ok (.bipush 10, 2) := by decide +kernel
theorem dX6_init_39 : decode cX6_init 39 = .ok (.newarray .int, 2) := by decide +kernel
theorem dX6_init_41 : decode cX6_init 41 = .ok (.putfield 24, 3) := by decide +kernel
theorem dX6_init_44 : decode cX6_init 44 = .ok (.aload_n 0, 1) := by decide +kernel
theorem dX6_init_45 : decode cX6_init 45 = .ok (.bipush 10, 2) := by decide +kernel
theorem dX6_init_47 : decode cX6_init 47 = .ok (.newarray .int, 2) := by decide +kernel
theorem dX6_init_49 : decode cX6_init 49 = .ok (.putfield 27, 3) := by decide +kernel
theorem dX6_init_52 : decode cX6_init 52 = .ok (.return_, 1) := by decide +kernel
set_option maxRecDepth 20000 in
theorem ggX6_find_X6_findAlone : GoodIn wsX6_find wsX6_findAlone := goodIn_r _ [7, 8, 9, 10, 11, 6, 12, 13, 14, 15, 16, 17, 18, 19, 20, 1, 21, 22, 23, 24, 25, 26, 79, 80, 81, 82, 83, 84, 85, 86, 87, 88, 89, 90, 91, 92] rfl (by decide +kernel)
set_option maxRecDepth 20000 in
theorem gX6_find_X6_findAlone : GoodIn wsX6_find (wsV RX6 34 RX6 yX6_findAlone wsX6_findAlone) := goodIn_app (goodIn_r _ [3, 4, 5, 6] rfl (by decide +kernel)) ggX6_find_X6_findAlone
set_option maxRecDepth 20000 in
theorem ggX6_find_X6_findAlong : GoodIn wsX6_find wsX6_findAlong := goodIn_r _ [30, 31, 13, 14, 15, 8, 16, 32, 33, 34, 35, 17, 18, 19, 6, 20, 1, 21, 22, 23, 24, 25, 26, 79, 80, 81, 82, 83, 84, 85, 86, 87, 88, 89, 90, 91, 92] rfl (by decide +kernel)
set_option maxRecDepth 20000 in
theorem gX6_find_X6_findAlong : GoodIn wsX6_find (wsV RX6 38 RX6 yX6_findAlong wsX6_findAlong) := goodIn_app (goodIn_r _ [27, 28, 29, 6] rfl (by decide +kernel)) ggX6_find_X6_findAlong
set_option maxRecDepth 20000 in
theorem ggX6_find_X6_findPairs : GoodIn wsX6_find wsX6_findPairs := goodIn_r _ [39, 40, 8, 32, 33, 34, 35, 41, 42, 43, 6, 44, 13, 15, 14, 45, 46, 47, 24, 48, 26, 49, 50, 51, 52, 53, 54, 1, 31, 79, 80, 81, 82, 83, 84, 85, 86, 87, 88, 89, 90, 91, 92] rfl (by decide +kernel)
set_option maxRecDepth 20000 in
theorem gX6_find_X6_findPairs : GoodIn wsX6_find (wsV RX6 41 RX6 yX6_findPairs wsX6_findPairs) := goodIn_app (goodIn_r _ [36, 37, 38, 6] rfl (by decide +kernel)) ggX6_find_X6_findPairs
set_option maxRecDepth 20000 in
theorem ggX6_find_X6_findDelay : GoodIn wsX6_find wsX6_findDelay := goodIn_r _ [58, 40, 59, 60, 61, 62, 63, 64, 65, 66, 6, 67, 68, 69, 70, 71, 72, 73, 74, 75, 76, 77, 78, 13, 16, 14, 15, 32, 33, 34, 35, 51, 52, 53, 54, 1, 31, 79, 80, 81, 82, 83, 84, 85, 86, 87, 88, 89, 90, 91, 92] rfl (by decide +kernel)
set_option maxRecDepth 20000 in
theorem gX6_find_X6_findDelay : GoodIn wsX6_find (wsV RX6 44 RX6 yX6_findDelay wsX6_findDelay) := goodIn_app (goodIn_r _ [55, 56, 57, 6] rfl (by decide +kernel)) ggX6_find_X6_findDelay
theorem dX6_find_0 : decode cX6_find 0 = .ok (.aload_n 0, 1) := by decide +kernel
theorem dX6_find_1 : decode cX6_find 1 = .ok (.iload_n 2, 1) := by decide +kernel
theorem dX6_find_2 : decode cX6_find 2 = .ok (.putfield 30, 3) := by decide +kernel
theorem dX6_find_5 : decode cX6_find 5 = .ok (.aload_n 0, 1) := by decide +kernel
theorem dX6_find_6 : decode cX6_find 6 = .ok (.aload_n 1, 1) := by decide +kernel
theorem dX6_find_7 : decode cX6_find 7 = .ok (.invokevirtual 34, 3) := by decide +kernel
theorem dX6_find_10 : decode cX6_find 10 = .ok (.aload_n 0, 1) := by decide +kernel
theorem dX6_find_11 : decode cX6_find 11 = .ok (.aload_n 1, 1) := by decide +kernel
theorem dX6_find_12 : decode cX6_find 12 = .ok (.invokevirtual 38, 3) := by decide +kernel
theorem dX6_find_15 : decode cX6_find 15 = .ok (.aload_n 0, 1) := by decide +kernel
theorem dX6_find_16 : decode cX6_find 16 = .ok (.aload_n 1, 1) := by decide +kernel
theorem dX6_find_17 : decode cX6_find 17 = .ok (.invokevirtual 41, 3) := by decide +kernel
theorem dX6_find_20 : decode cX6_find 20 = .ok (.aload_n 0, 1) := by decide +kernel
theorem dX6_find_21 : decode cX6_find 21 = .ok (.aload_n 0, 1) := by decide +kernel
theorem dX6_find_22 : decode cX6_find 22 = .ok (.aload_n 1, 1) := by decide +kernel
theorem dX6_find_23 : decode cX6_find 23 = .ok (.invokevirtual 44, 3) := by decide +kernel
theorem dX6_find_26 : decode cX6_find 26 = .ok (.putfield 48, 3) := by decide +kernel
theorem dX6_find_29 : decode cX6_find 29 = .ok (.return_, 1) := by decide +kernel
theorem dX6_isSeen_0 : decode cX6_isSeen 0 = .ok (.aload_n 0, 1) := by decide +kernel
theorem dX6_isSeen_1 : decode cX6_isSeen 1 = .ok (.getfield 30, 3) := by decide +kernel
theorem dX6_isSeen_4 : decode cX6_isSeen 4 = .ok (.iload_n 1, 1) := by decide +kernel
theorem dX6_isSeen_5 : decode cX6_isSeen 5 = .ok (.ishr, 1) := by decide +kernel
theorem dX6_isSeen_6 : decode cX6_isSeen 6 = .ok (.iconst 1, 1) := by decide +kernel
theorem dX6_isSeen_7 : decode cX6_isSeen 7 = .ok (.iand, 1) := by decide +kernel
theorem dX6_isSeen_8 : decode cX6_isSeen 8 = .ok (.iconst 1, 1) := by decide +kernel
theorem dX6_isSeen_9 : decode cX6_isSeen 9 = .ok (.if_icmp .ne 7, 3) := by decide +kernel
theorem dX6_isSeen_12 : decode cX6_isSeen 12 = .ok (.iconst 1, 1) := by decide +kernel
theorem dX6_isSeen_13 : decode cX6_isSeen 13 = .ok (.goto 4, 3) := by decide +kernel
theorem dX6_isSeen_16 : decode cX6_isSeen 16 = .ok (.iconst 0, 1) := by decide +kernel
theorem dX6_isSeen_17 : decode cX6_isSeen 17 = .ok (.ireturn, 1) := by decide +kernel
set_option maxRecDepth 20000 in
theorem ggX6_findAlone_X6_growAlone : GoodIn wsX6_findAlone wsX6_growAlone := goodIn_r _ [6, 7, 8, 9, 1, 10, 11, 12, 13, 5, 14, 15, 16, 17, 18, 19, 20, 21, 30, 31, 32, 33, 34, 35, 22, 23, 24, 25, 26, 27, 28, 29] rfl (by decide +kernel)
set_option maxRecDepth 20000 in
theorem gX6_findAlone_X6_growAlone : GoodIn wsX6_findAlone (wsV RX6 51 RX6 yX6_growAlone wsX6_growAlone) := goodIn_app (goodIn_r _ [2, 3, 4, 5] rfl (by decide +kernel)) ggX6_findAlone_X6_growAlone
theorem dX6_findAlone_0 : decode cX6_findAlone 0 = .ok (.iconst 0, 1) := by decide +kernel
theorem dX6_findAlone_1 : decode cX6_findAlone 1 = .ok (.istore_n 2, 1) := by decide +kernel
theorem dX6_findAlone_2 : decode cX6_findAlone 2 = .ok (.iload_n 2, 1) := by decide +kernel
theorem dX6_findAlone_3 : decode cX6_findAlone 3 = .ok (.bipush 10, 2) := by decide +kernel
theorem dX6_findAlone_5 : decode cX6_findAlone 5 = .ok (.if_icmp .ge 18, 3) := by decide +kernel
theorem dX6_findAlone_8 : decode cX6_findAlone 8 = .ok (.aload_n 0, 1) := by decide +kernel
theorem dX6_findAlone_9 : decode cX6_findAlone 9 = .ok (.getfield 9, 3) := by decide +kernel
theorem dX6_findAlone_12 : decode cX6_findAlone 12 = .ok (.iload_n 2, 1) := by decide +kernel
theorem dX6_findAlone_13 : decode cX6_findAlone 13 = .ok (.iconst 1, 1) := by decide +kernel
theorem dX6_findAlone_14 : decode cX6_findAlone 14 = .ok (.iload_n 2, 1) := by decide +kernel
theorem dX6_findAlone_15 : decode cX6_findAlone 15 = .ok (.ishl, 1) := by decide +kernel
theorem dX6_findAlone_16 : decode cX6_findAlone 16 = .ok (.iastore, 1) := by decide +kernel
theorem dX6_findAlone_17 : decode cX6_findAlone 17 = .ok (.iinc 2 1, 3) := by decide +kernel
theorem dX6_findAlone_20 : decode cX6_findAlone 20 = .ok (.goto (-18), 3) := by decide +kernel
theorem dX6_findAlone_23 : decode cX6_findAlone 23 = .ok (.iconst 1, 1) := by decide +kernel
theorem dX6_findAlone_24 : decode cX6_findAlone 24 = .ok (.istore_n 2, 1) := by decide +kernel
theorem dX6_findAlone_25 : decode cX6_findAlone 25 = .ok (.iconst 0, 1) := by decide +kernel
theorem dX6_findAlone_26 : decode cX6_findAlone 26 = .ok (.istore_n 3, 1) := by decide +kernel
theorem dX6_findAlone_27 : decode cX6_findAlone 27 = .ok (.iload_n 3, 1) := by decide +kernel
theorem dX6_findAlone_28 : decode cX6_findAlone 28 = .ok (.bipush 10, 2) := by decide +kernel
theorem dX6_findAlone_30 : decode cX6_findAlone 30 = .ok (.if_icmp .ge 19, 3) := by decide +kernel
theorem dX6_findAlone_33 : decode cX6_findAlone 33 = .ok (.iload_n 2, 1) := by decide +kernel
theorem dX6_findAlone_34 : decode cX6_findAlone 34 = .ok (.ifCond .eq 15, 3) := by decide +kernel
theorem dX6_findAlone_37 : decode cX6_findAlone 37 = .ok (.aload_n 0, 1) := by decide +kernel
theorem dX6_findAlone_38 : decode cX6_findAlone 38 = .ok (.aload_n 1, 1) := by decide +kernel
theorem dX6_findAlone_39 : decode cX6_findAlone 39 = .ok (.invokevirtual 51, 3) := by decide +kernel
theorem dX6_findAlone_42 : decode cX6_findAlone 42 = .ok (.istore_n 2, 1) := by decide +kernel
theorem dX6_findAlone_43 : decode cX6_findAlone 43 = .ok (.iinc 3 1, 3) := by decide +kernel
theorem dX6_findAlone_46 : decode cX6_findAlone 46 = .ok (.goto (-19), 3) := by decide +kernel
theorem dX6_findAlone_49 : decode cX6_findAlone 49 = .ok (.return_, 1) := by decide +kernel
set_option maxRecDepth 20000 in
theorem ggX6_growAlone_X6_isSeen : GoodIn wsX6_growAlone wsX6_isSeen := goodIn_r _ [10, 11, 24, 25, 26, 27, 28, 29, 30, 31] rfl (by decide +kernel)
set_option maxRecDepth 20000 in
theorem gX6_growAlone_X6_isSeen : GoodIn wsX6_growAlone (wsV RX6 63 RX6 yX6_isSeen wsX6_isSeen) := goodIn_app (goodIn_r _ [6, 7, 8, 9] rfl (by decide +kernel)) ggX6_growAlone_X6_isSeen
set_option maxRecDepth 20000 in
theorem ggX6_growAlone_X1_isFault : GoodIn wsX6_growAlone wsX1_isFault := goodIn_r _ [16, 17, 18, 19, 20, 21, 22, 23] rfl (by decide +kernel)
set_option maxRecDepth 20000 in
theorem gX6_growAlone_X1_isFault : GoodIn wsX6_growAlone (wsV RX6 67 RX1 yX1_isFault wsX1_isFault) := goodIn_app (goodIn_r _ [12, 13, 14, 15] rfl (by decide +kernel)) ggX6_growAlone_X1_isFault
theorem dX6_growAlone_0 : decode cX6_growAlone 0 = .ok (.iconst 0, 1) := by decide +kernel
theorem dX6_growAlone_1 : decode cX6_growAlone 1 = .ok (.istore_n 2, 1) := by decide +kernel
theorem dX6_growAlone_2 : decode cX6_growAlone 2 = .ok (.iconst 0, 1) := by decide +kernel
theorem dX6_growAlone_3 : decode cX6_growAlone 3 = .ok (.istore_n 3, 1) := by decide +kernel
theorem dX6_growAlone_4 : decode cX6_growAlone 4 = .ok (.iload_n 3, 1) := by decide +kernel
theorem dX6_growAlone_5 : decode cX6_growAlone 5 = .ok (.aload_n 1, 1) := by decide +kernel
theorem dX6_growAlone_6 : decode cX6_growAlone 6 = .ok (.getfield 55, 3) := by decide +kernel
theorem dX6_growAlone_9 : decode cX6_growAlone 9 = .ok (.if_icmp .ge 95, 3) := by decide +kernel
theorem dX6_growAlone_12 : decode cX6_growAlone 12 = .ok (.aload_n 1, 1) := by decide +kernel
theorem dX6_growAlone_13 : decode cX6_growAlone 13 = .ok (.getfield 60, 3) := by decide +kernel
theorem dX6_growAlone_16 : decode cX6_growAlone 16 = .ok (.iload_n 3, 1) := by decide +kernel
theorem dX6_growAlone_17 : decode cX6_growAlone 17 = .ok (.iaload, 1) := by decide +kernel
theorem dX6_growAlone_18 : decode cX6_growAlone 18 = .ok (.istore 4, 2) := by decide +kernel
theorem dX6_growAlone_20 : decode cX6_growAlone 20 = .ok (.aload_n 0, 1) := by decide +kernel
theorem dX6_growAlone_21 : decode cX6_growAlone 21 = .ok (.iload 4, 2) := by decide +kernel
theorem dX6_growAlone_23 : decode cX6_growAlone 23 = .ok (.invokevirtual 63, 3) := by decide +kernel
theorem dX6_growAlone_26 : decode cX6_growAlone 26 = .ok (.ifCond .ne 72, 3) := by decide +kernel
theorem dX6_growAlone_29 : decode cX6_growAlone 29 = .ok (.aload_n 1, 1) := by decide +kernel
theorem dX6_growAlone_30 : decode cX6_growAlone 30 = .ok (.iload 4, 2) := by decide +kernel
theorem dX6_growAlone_32 : decode cX6_growAlone 32 = .ok (.invokevirtual 67, 3) := by decide +kernel
theorem dX6_growAlone_35 : decode cX6_growAlone 35 = .ok (.ifCond .ne 63, 3) := by decide +kernel
theorem dX6_growAlone_38 : decode cX6_growAlone 38 = .ok (.aload_n 1, 1) := by decide +kernel
theorem dX6_growAlone_39 : decode cX6_growAlone 39 = .ok (.getfield 70, 3) := by decide +kernel
theorem dX6_growAlone_42 : decode cX6_growAlone 42 = .ok (.iload_n 3, 1) := by decide +kernel
theorem dX6_growAlone_43 : decode cX6_growAlone 43 = .ok (.iaload, 1) := by decide +kernel
theorem dX6_growAlone_44 : decode cX6_growAlone 44 = .ok (.istore 5, 2) := by decide +kernel
theorem dX6_growAlone_46 : decode cX6_growAlone 46 = .ok (.aload_n 0, 1) := by decide +kernel
theorem dX6_growAlone_47 : decode cX6_growAlone 47 = .ok (.getfield 9, 3) := by decide +kernel
theorem dX6_growAlone_50 : decode cX6_growAlone 50 = .ok (.iload 5, 2) := by decide +kernel
theorem dX6_growAlone_52 : decode cX6_growAlone 52 = .ok (.iaload, 1) := by decide +kernel
theorem dX6_growAlone_53 : decode cX6_growAlone 53 = .ok (.aload_n 0, 1) := by decide +kernel
theorem dX6_growAlone_54 : decode cX6_growAlone 54 = .ok (.getfield 9, 3) := by decide +kernel
theorem dX6_growAlone_57 : decode cX6_growAlone 57 = .ok (.aload_n 1, 1) := by decide +kernel
theorem dX6_growAlone_58 : decode cX6_growAlone 58 = .ok (.getfield 73, 3) := by decide +kernel
theorem dX6_growAlone_61 : decode cX6_growAlone 61 = .ok (.iload_n 3, 1) := by decide +kernel
theorem dX6_growAlone_62 : decode cX6_growAlone 62 = .ok (.iaload, 1) := by decide +kernel
theorem dX6_growAlone_63 : decode cX6_growAlone 63 = .ok (.iaload, 1) := by decide +kernel
theorem dX6_growAlone_64 : decode cX6_growAlone 64 = .ok (.ior, 1) := by decide +kernel
theorem dX6_growAlone_65 : decode cX6_growAlone 65 = .ok (.istore 6, 2) := by decide +kernel
theorem dX6_growAlone_67 : decode cX6_growAlone 67 = .ok (.iload_n 2, 1) := by decide +kernel
theorem dX6_growAlone_68 : decode cX6_growAlone 68 = .ok (.ifCond .ne 15, 3) := by decide +kernel
theorem dX6_growAlone_71 : decode cX6_growAlone 71 = .ok (.iload 6, 2) := by decide +kernel
theorem dX6_growAlone_73 : decode cX6_growAlone 73 = .ok (.aload_n 0, 1) := by decide +kernel
theorem dX6_growAlone_74 : decode cX6_growAlone 74 = .ok (.getfield 9, 3) := by decide +kernel
theorem dX6_growAlone_77 : decode cX6_growAlone 77 = .ok (.iload 5, 2) := by decide +kernel
theorem dX6_growAlone_79 : decode cX6_growAlone 79 = .ok (.iaload, 1) := by decide +kernel
theorem dX6_growAlone_80 : decode cX6_growAlone 80 = .ok (.if_icmp .eq 7, 3) := by decide +kernel
theorem dX6_growAlone_83 : decode cX6_growAlone 83 = .ok (.iconst 1, 1) := by decide +kernel
theorem dX6_growAlone_84 : decode cX6_growAlone 84 = .ok (.goto 4, 3) := by decide +kernel
theorem dX6_growAlone_87 : decode cX6_growAlone 87 = .ok (.iconst 0, 1) := by decide +kernel
theorem dX6_growAlone_88 : decode cX6_growAlone 88 = .ok (.istore_n 2, 1) := by decide +kernel
theorem dX6_growAlone_89 : decode cX6_growAlone 89 = .ok (.aload_n 0, 1) := by decide +kernel
theorem dX6_growAlone_90 : decode cX6_growAlone 90 = .ok (.getfield 9, 3) := by decide +kernel
theorem dX6_growAlone_93 : decode cX6_growAlone 93 = .ok (.iload 5, 2) := by decide +kernel
theorem dX6_growAlone_95 : decode cX6_growAlone 95 = .ok (.iload 6, 2) := by decide +kernel
theorem dX6_growAlone_97 : decode cX6_growAlone 97 = .ok (.iastore, 1) := by decide +kernel
theorem dX6_growAlone_98 : decode cX6_growAlone 98 = .ok (.iinc 3 1, 3) := by decide +kernel
theorem dX6_growAlone_101 : decode cX6_growAlone 101 = .ok (.goto (-97), 3) := by decide +kernel
theorem dX6_growAlone_104 : decode cX6_growAlone 104 = .ok (.iload_n 2, 1) := by decide +kernel
theorem dX6_growAlone_105 : decode cX6_growAlone 105 = .ok (.ireturn, 1) := by decide +kernel
set_option maxRecDepth 20000 in
theorem ggX6_findAlong_J7_fill_53178 : GoodIn wsX6_findAlong wsJ7_fill_53178 := goodIn_r _ [10] rfl (by decide +kernel)
set_option maxRecDepth 20000 in
theorem gX6_findAlong_J7_fill_53178 : GoodIn wsX6_findAlong (va_wsS RX6 76 yJ7_fill_53178 wsJ7_fill_53178) := goodIn_app (goodIn_of _ (by decide +kernel)) ggX6_findAlong_J7_fill_53178
set_option maxRecDepth 20000 in
theorem ggX6_findAlong_X6_isSeen : GoodIn wsX6_findAlong wsX6_isSeen := goodIn_r _ [15, 16, 23, 24, 25, 26, 27, 28, 29, 30] rfl (by decide +kernel)
set_option maxRecDepth 20000 in
theorem gX6_findAlong_X6_isSeen : GoodIn wsX6_findAlong (wsV RX6 63 RX6 yX6_isSeen wsX6_isSeen) := goodIn_app (goodIn_r _ [11, 12, 13, 14] rfl (by decide +kernel)) ggX6_findAlong_X6_isSeen
set_option maxRecDepth 20000 in
theorem ggX6_findAlong_X1_isFault : GoodIn wsX6_findAlong wsX1_isFault := goodIn_r _ [21, 22, 31, 32, 33, 34, 35, 36] rfl (by decide +kernel)
set_option maxRecDepth 20000 in
theorem gX6_findAlong_X1_isFault : GoodIn wsX6_findAlong (wsV RX6 67 RX1 yX1_isFault wsX1_isFault) := goodIn_app (goodIn_r _ [17, 18, 19, 20] rfl (by decide +kernel)) ggX6_findAlong_X1_isFault
theorem dX6_findAlong_0 : decode cX6_findAlong 0 = .ok (.aload_n 0, 1) := by decide +kernel
theorem dX6_findAlong_1 : decode cX6_findAlong 1 = .ok (.getfield 15, 3) := by decide +kernel
theorem dX6_findAlong_4 : decode cX6_findAlong 4 = .ok (.iconst 0, 1) := by decide +kernel
theorem dX6_findAlong_5 : decode cX6_findAlong 5 = .ok (.invokestatic 76, 3) := by decide +kernel
theorem dX6_findAlong_8 : decode cX6_findAlong 8 = .ok (.iconst 0, 1) := by decide +kernel
theorem dX6_findAlong_9 : decode cX6_findAlong 9 = .ok (.istore_n 2, 1) := by decide +kernel
theorem dX6_findAlong_10 : decode cX6_findAlong 10 = .ok (.iload_n 2, 1) := by decide +kernel
theorem dX6_findAlong_11 : decode cX6_findAlong 11 = .ok (.aload_n 1, 1) := by decide +kernel
theorem dX6_findAlong_12 : decode cX6_findAlong 12 = .ok (.getfield 55, 3) := by decide +kernel
theorem dX6_findAlong_15 : decode cX6_findAlong 15 = .ok (.if_icmp .ge 62, 3) := by decide +kernel
theorem dX6_findAlong_18 : decode cX6_findAlong 18 = .ok (.aload_n 1, 1) := by decide +kernel
theorem dX6_findAlong_19 : decode cX6_findAlong 19 = .ok (.getfield 60, 3) := by decide +kernel
theorem dX6_findAlong_22 : decode cX6_findAlong 22 = .ok (.iload_n 2, 1) := by decide +kernel
theorem dX6_findAlong_23 : decode cX6_findAlong 23 = .ok (.iaload, 1) := by decide +kernel
theorem dX6_findAlong_24 : decode cX6_findAlong 24 = .ok (.istore_n 3, 1) := by decide +kernel
theorem dX6_findAlong_25 : decode cX6_findAlong 25 = .ok (.aload_n 0, 1) := by decide +kernel
theorem dX6_findAlong_26 : decode cX6_findAlong 26 = .ok (.iload_n 3, 1) := by decide +kernel
theorem dX6_findAlong_27 : decode cX6_findAlong 27 = .ok (.invokevirtual 63, 3) := by decide +kernel
theorem dX6_findAlong_30 : decode cX6_findAlong 30 = .ok (.ifCond .eq 41, 3) := by decide +kernel
theorem dX6_findAlong_33 : decode cX6_findAlong 33 = .ok (.aload_n 1, 1) := by decide +kernel
theorem dX6_findAlong_34 : decode cX6_findAlong 34 = .ok (.iload_n 3, 1) := by decide +kernel
theorem dX6_findAlong_35 : decode cX6_findAlong 35 = .ok (.invokevirtual 67, 3) := by decide +kernel
theorem dX6_findAlong_38 : decode cX6_findAlong 38 = .ok (.ifCond .ne 33, 3) := by decide +kernel
theorem dX6_findAlong_41 : decode cX6_findAlong 41 = .ok (.aload_n 0, 1) := by decide +kernel
theorem dX6_findAlong_42 : decode cX6_findAlong 42 = .ok (.getfield 15, 3) := by decide +kernel
theorem dX6_findAlong_45 : decode cX6_findAlong 45 = .ok (.iload_n 3, 1) := by decide +kernel
theorem dX6_findAlong_46 : decode cX6_findAlong 46 = .ok (.bipush 10, 2) := by decide +kernel
theorem dX6_findAlong_48 : decode cX6_findAlong 48 = .ok (.imul, 1) := by decide +kernel
theorem dX6_findAlong_49 : decode cX6_findAlong 49 = .ok (.aload_n 1, 1) := by decide +kernel
theorem dX6_findAlong_50 : decode cX6_findAlong 50 = .ok (.getfield 70, 3) := by decide +kernel
theorem dX6_findAlong_53 : decode cX6_findAlong 53 = .ok (.iload_n 2, 1) := by decide +kernel
theorem dX6_findAlong_54 : decode cX6_findAlong 54 = .ok (.iaload, 1) := by decide +kernel
theorem dX6_findAlong_55 : decode cX6_findAlong 55 = .ok (.iadd, 1) := by decide +kernel
theorem dX6_findAlong_56 : decode cX6_findAlong 56 = .ok (.dup2, 1) := by decide +kernel
theorem dX6_findAlong_57 : decode cX6_findAlong 57 = .ok (.iaload, 1) := by decide +kernel
theorem dX6_findAlong_58 : decode cX6_findAlong 58 = .ok (.aload_n 0, 1) := by decide +kernel
theorem dX6_findAlong_59 : decode cX6_findAlong 59 = .ok (.getfield 9, 3) := by decide +kernel
theorem dX6_findAlong_62 : decode cX6_findAlong 62 = .ok (.aload_n 1, 1) := by decide +kernel
theorem dX6_findAlong_63 : decode cX6_findAlong 63 = .ok (.getfield 73, 3) := by decide +kernel
theorem dX6_findAlong_66 : decode cX6_findAlong 66 = .ok (.iload_n 2, 1) := by decide +kernel
theorem dX6_findAlong_67 : decode cX6_findAlong 67 = .ok (.iaload, 1) := by decide +kernel
theorem dX6_findAlong_68 : decode cX6_findAlong 68 = .ok (.iaload, 1) := by decide +kernel
theorem dX6_findAlong_69 : decode cX6_findAlong 69 = .ok (.ior, 1) := by decide +kernel
theorem dX6_findAlong_70 : decode cX6_findAlong 70 = .ok (.iastore, 1) := by decide +kernel
theorem dX6_findAlong_71 : decode cX6_findAlong 71 = .ok (.iinc 2 1, 3) := by decide +kernel
theorem dX6_findAlong_74 : decode cX6_findAlong 74 = .ok (.goto (-64), 3) := by decide +kernel
theorem dX6_findAlong_77 : decode cX6_findAlong 77 = .ok (.return_, 1) := by decide +kernel
theorem dX6_partners_0 : decode cX6_partners 0 = .ok (.aload_n 0, 1) := by decide +kernel
theorem dX6_partners_1 : decode cX6_partners 1 = .ok (.getfield 30, 3) := by decide +kernel
theorem dX6_partners_4 : decode cX6_partners 4 = .ok (.iload_n 1, 1) := by decide +kernel
theorem dX6_partners_5 : decode cX6_partners 5 = .ok (.ishr, 1) := by decide +kernel
theorem dX6_partners_6 : decode cX6_partners 6 = .ok (.iconst 1, 1) := by decide +kernel
theorem dX6_partners_7 : decode cX6_partners 7 = .ok (.iand, 1) := by decide +kernel
theorem dX6_partners_8 : decode cX6_partners 8 = .ok (.ifCond .ne 5, 3) := by decide +kernel
theorem dX6_partners_11 : decode cX6_partners 11 = .ok (.iload_n 2, 1) := by decide +kernel
theorem dX6_partners_12 : decode cX6_partners 12 = .ok (.ireturn, 1) := by decide +kernel
theorem dX6_partners_13 : decode cX6_partners 13 = .ok (.iconst 0, 1) := by decide +kernel
theorem dX6_partners_14 : decode cX6_partners 14 = .ok (.istore_n 3, 1) := by decide +kernel
theorem dX6_partners_15 : decode cX6_partners 15 = .ok (.iconst 0, 1) := by decide +kernel
theorem dX6_partners_16 : decode cX6_partners 16 = .ok (.istore 4, 2) := by decide +kernel
theorem dX6_partners_18 : decode cX6_partners 18 = .ok (.iload 4, 2) := by decide +kernel
theorem dX6_partners_20 : decode cX6_partners 20 = .ok (.bipush 10, 2) := by decide +kernel
theorem dX6_partners_22 : decode cX6_partners 22 = .ok (.if_icmp .ge 34, 3) := by decide +kernel
theorem dX6_partners_25 : decode cX6_partners 25 = .ok (.iload_n 2, 1) := by decide +kernel
theorem dX6_partners_26 : decode cX6_partners 26 = .ok (.iload 4, 2) := by decide +kernel
theorem dX6_partners_28 : decode cX6_partners 28 = .ok (.ishr, 1) := by decide +kernel
theorem dX6_partners_29 : decode cX6_partners 29 = .ok (.iconst 1, 1) := by decide +kernel
theorem dX6_partners_30 : decode cX6_partners 30 = .ok (.iand, 1) := by decide +kernel
theorem dX6_partners_31 : decode cX6_partners 31 = .ok (.iconst 1, 1) := by decide +kernel
theorem dX6_partners_32 : decode cX6_partners 32 = .ok (.if_icmp .ne 18, 3) := by decide +kernel
theorem dX6_partners_35 : decode cX6_partners 35 = .ok (.iload_n 3, 1) := by decide +kernel
theorem dX6_partners_36 : decode cX6_partners 36 = .ok (.aload_n 0, 1) := by decide +kernel
theorem dX6_partners_37 : decode cX6_partners 37 = .ok (.getfield 15, 3) := by decide +kernel
theorem dX6_partners_40 : decode cX6_partners 40 = .ok (.iload_n 1, 1) := by decide +kernel
theorem dX6_partners_41 : decode cX6_partners 41 = .ok (.bipush 10, 2) := by decide +kernel
theorem dX6_partners_43 : decode cX6_partners 43 = .ok (.imul, 1) := by decide +kernel
theorem dX6_partners_44 : decode cX6_partners 44 = .ok (.iload 4, 2) := by decide +kernel
theorem dX6_partners_46 : decode cX6_partners 46 = .ok (.iadd, 1) := by decide +kernel
theorem dX6_partners_47 : decode cX6_partners 47 = .ok (.iaload, 1) := by decide +kernel
theorem dX6_partners_48 : decode cX6_partners 48 = .ok (.ior, 1) := by decide +kernel
theorem dX6_partners_49 : decode cX6_partners 49 = .ok (.istore_n 3, 1) := by decide +kernel
theorem dX6_partners_50 : decode cX6_partners 50 = .ok (.iinc 4 1, 3) := by decide +kernel
theorem dX6_partners_53 : decode cX6_partners 53 = .ok (.goto (-35), 3) := by decide +kernel
theorem dX6_partners_56 : decode cX6_partners 56 = .ok (.iload_n 3, 1) := by decide +kernel
theorem dX6_partners_57 : decode cX6_partners 57 = .ok (.ireturn, 1) := by decide +kernel
set_option maxRecDepth 20000 in
theorem ggX6_findPairs_J7_fill_53178 : GoodIn wsX6_findPairs wsJ7_fill_53178 := goodIn_r _ [6] rfl (by decide +kernel)
set_option maxRecDepth 20000 in
theorem gX6_findPairs_J7_fill_53178 : GoodIn wsX6_findPairs (va_wsS RX6 76 yJ7_fill_53178 wsJ7_fill_53178) := goodIn_app (goodIn_of _ (by decide +kernel)) ggX6_findPairs_J7_fill_53178
set_option maxRecDepth 20000 in
theorem ggX6_findPairs_X6_growPairs : GoodIn wsX6_findPairs wsX6_growPairs := goodIn_r _ [11, 12, 13, 1, 14, 15, 16, 17, 18, 19, 20, 21, 22, 23, 24, 25, 10, 26, 27, 28, 37, 38, 39, 40, 41, 42, 29, 30, 31, 32, 33, 34, 35, 36] rfl (by decide +kernel)
set_option maxRecDepth 20000 in
theorem gX6_findPairs_X6_growPairs : GoodIn wsX6_findPairs (wsV RX6 82 RX6 yX6_growPairs wsX6_growPairs) := goodIn_app (goodIn_r _ [7, 8, 9, 10] rfl (by decide +kernel)) ggX6_findPairs_X6_growPairs
theorem dX6_findPairs_0 : decode cX6_findPairs 0 = .ok (.aload_n 0, 1) := by decide +kernel
theorem dX6_findPairs_1 : decode cX6_findPairs 1 = .ok (.getfield 18, 3) := by decide +kernel
theorem dX6_findPairs_4 : decode cX6_findPairs 4 = .ok (.iconst 0, 1) := by decide +kernel
theorem dX6_findPairs_5 : decode cX6_findPairs 5 = .ok (.invokestatic 76, 3) := by decide +kernel
theorem dX6_findPairs_8 : decode cX6_findPairs 8 = .ok (.aload_n 0, 1) := by decide +kernel
theorem dX6_findPairs_9 : decode cX6_findPairs 9 = .ok (.getfield 18, 3) := by decide +kernel
theorem dX6_findPairs_12 : decode cX6_findPairs 12 = .ok (.iconst 0, 1) := by decide +kernel
theorem dX6_findPairs_13 : decode cX6_findPairs 13 = .ok (.aload_n 0, 1) := by decide +kernel
theorem dX6_findPairs_14 : decode cX6_findPairs 14 = .ok (.getfield 9, 3) := by decide +kernel
theorem dX6_findPairs_17 : decode cX6_findPairs 17 = .ok (.iconst 0, 1) := by decide +kernel
theorem dX6_findPairs_18 : decode cX6_findPairs 18 = .ok (.iaload, 1) := by decide +kernel
theorem dX6_findPairs_19 : decode cX6_findPairs 19 = .ok (.iastore, 1) := by decide +kernel
theorem dX6_findPairs_20 : decode cX6_findPairs 20 = .ok (.iconst 1, 1) := by decide +kernel
theorem dX6_findPairs_21 : decode cX6_findPairs 21 = .ok (.istore_n 2, 1) := by decide +kernel
theorem dX6_findPairs_22 : decode cX6_findPairs 22 = .ok (.iconst 0, 1) := by decide +kernel
theorem dX6_findPairs_23 : decode cX6_findPairs 23 = .ok (.istore_n 3, 1) := by decide +kernel
theorem dX6_findPairs_24 : decode cX6_findPairs 24 = .ok (.iload_n 3, 1) := by decide +kernel
theorem dX6_findPairs_25 : decode cX6_findPairs 25 = .ok (.sipush 200, 3) := by decide +kernel
theorem dX6_findPairs_28 : decode cX6_findPairs 28 = .ok (.if_icmp .ge 19, 3) := by decide +kernel
theorem dX6_findPairs_31 : decode cX6_findPairs 31 = .ok (.iload_n 2, 1) := by decide +kernel
theorem dX6_findPairs_32 : decode cX6_findPairs 32 = .ok (.ifCond .eq 15, 3) := by decide +kernel
theorem dX6_findPairs_35 : decode cX6_findPairs 35 = .ok (.aload_n 0, 1) := by decide +kernel
theorem dX6_findPairs_36 : decode cX6_findPairs 36 = .ok (.aload_n 1, 1) := by decide +kernel
theorem dX6_findPairs_37 : decode cX6_findPairs 37 = .ok (.invokevirtual 82, 3) := by decide +kernel
theorem dX6_findPairs_40 : decode cX6_findPairs 40 = .ok (.istore_n 2, 1) := by decide +kernel
theorem dX6_findPairs_41 : decode cX6_findPairs 41 = .ok (.iinc 3 1, 3) := by decide +kernel
theorem dX6_findPairs_44 : decode cX6_findPairs 44 = .ok (.goto (-20), 3) := by decide +kernel
theorem dX6_findPairs_47 : decode cX6_findPairs 47 = .ok (.return_, 1) := by decide +kernel
set_option maxRecDepth 20000 in
theorem ggX6_growPairs_X1_markBehind : GoodIn wsX6_growPairs wsX1_markBehind := goodIn_r _ [9, 10, 11, 12, 20, 21, 22, 23, 24, 25] rfl (by decide +kernel)
set_option maxRecDepth 20000 in
theorem gX6_growPairs_X1_markBehind : GoodIn wsX6_growPairs (wsV RX6 85 RX1 yX1_markBehind wsX1_markBehind) := goodIn_app (goodIn_r _ [5, 6, 7, 8] rfl (by decide +kernel)) ggX6_growPairs_X1_markBehind
set_option maxRecDepth 20000 in
theorem ggX6_growPairs_X6_partners : GoodIn wsX6_growPairs wsX6_partners := goodIn_r _ [17, 18, 19, 26, 27, 28, 29, 30, 31, 32, 33] rfl (by decide +kernel)
set_option maxRecDepth 20000 in
theorem gX6_growPairs_X6_partners : GoodIn wsX6_growPairs (wsV RX6 89 RX6 yX6_partners wsX6_partners) := goodIn_app (goodIn_r _ [13, 14, 15, 16] rfl (by decide +kernel)) ggX6_growPairs_X6_partners
theorem dX6_growPairs_0 : decode cX6_growPairs 0 = .ok (.iconst 0, 1) := by decide +kernel
theorem dX6_growPairs_1 : decode cX6_growPairs 1 = .ok (.istore_n 2, 1) := by decide +kernel
theorem dX6_growPairs_2 : decode cX6_growPairs 2 = .ok (.iconst 0, 1) := by decide +kernel
theorem dX6_growPairs_3 : decode cX6_growPairs 3 = .ok (.istore_n 3, 1) := by decide +kernel
theorem dX6_growPairs_4 : decode cX6_growPairs 4 = .ok (.iload_n 3, 1) := by decide +kernel
theorem dX6_growPairs_5 : decode cX6_growPairs 5 = .ok (.aload_n 1, 1) := by decide +kernel
theorem dX6_growPairs_6 : decode cX6_growPairs 6 = .ok (.getfield 55, 3) := by decide +kernel
theorem dX6_growPairs_9 : decode cX6_growPairs 9 = .ok (.if_icmp .ge 97, 3) := by decide +kernel
theorem dX6_growPairs_12 : decode cX6_growPairs 12 = .ok (.aload_n 1, 1) := by decide +kernel
theorem dX6_growPairs_13 : decode cX6_growPairs 13 = .ok (.getfield 70, 3) := by decide +kernel
theorem dX6_growPairs_16 : decode cX6_growPairs 16 = .ok (.iload_n 3, 1) := by decide +kernel
theorem dX6_growPairs_17 : decode cX6_growPairs 17 = .ok (.iaload, 1) := by decide +kernel
theorem dX6_growPairs_18 : decode cX6_growPairs 18 = .ok (.istore 4, 2) := by decide +kernel
theorem dX6_growPairs_20 : decode cX6_growPairs 20 = .ok (.iload 4, 2) := by decide +kernel
theorem dX6_growPairs_22 : decode cX6_growPairs 22 = .ok (.bipush 20, 2) := by decide +kernel
theorem dX6_growPairs_24 : decode cX6_growPairs 24 = .ok (.if_icmp .ge 76, 3) := by decide +kernel
theorem dX6_growPairs_27 : decode cX6_growPairs 27 = .ok (.aload_n 1, 1) := by decide +kernel
theorem dX6_growPairs_28 : decode cX6_growPairs 28 = .ok (.iload_n 3, 1) := by decide +kernel
theorem dX6_growPairs_29 : decode cX6_growPairs 29 = .ok (.iload 4, 2) := by decide +kernel
theorem dX6_growPairs_31 : decode cX6_growPairs 31 = .ok (.invokevirtual 85, 3) := by decide +kernel
theorem dX6_growPairs_34 : decode cX6_growPairs 34 = .ok (.istore 5, 2) := by decide +kernel
theorem dX6_growPairs_36 : decode cX6_growPairs 36 = .ok (.aload_n 0, 1) := by decide +kernel
theorem dX6_growPairs_37 : decode cX6_growPairs 37 = .ok (.getfield 18, 3) := by decide +kernel
theorem dX6_growPairs_40 : decode cX6_growPairs 40 = .ok (.iload 5, 2) := by decide +kernel
theorem dX6_growPairs_42 : decode cX6_growPairs 42 = .ok (.iaload, 1) := by decide +kernel
theorem dX6_growPairs_43 : decode cX6_growPairs 43 = .ok (.aload_n 0, 1) := by decide +kernel
theorem dX6_growPairs_44 : decode cX6_growPairs 44 = .ok (.aload_n 1, 1) := by decide +kernel
theorem dX6_growPairs_45 : decode cX6_growPairs 45 = .ok (.getfield 60, 3) := by decide +kernel
theorem dX6_growPairs_48 : decode cX6_growPairs 48 = .ok (.iload_n 3, 1) := by decide +kernel
theorem dX6_growPairs_49 : decode cX6_growPairs 49 = .ok (.iaload, 1) := by decide +kernel
theorem dX6_growPairs_50 : decode cX6_growPairs 50 = .ok (.aload_n 0, 1) := by decide +kernel
theorem dX6_growPairs_51 : decode cX6_growPairs 51 = .ok (.getfield 18, 3) := by decide +kernel
theorem dX6_growPairs_54 : decode cX6_growPairs 54 = .ok (.iload 4, 2) := by decide +kernel
theorem dX6_growPairs_56 : decode cX6_growPairs 56 = .ok (.iaload, 1) := by decide +kernel
theorem dX6_growPairs_57 : decode cX6_growPairs 57 = .ok (.invokevirtual 89, 3) := by decide +kernel
theorem dX6_growPairs_60 : decode cX6_growPairs 60 = .ok (.ior, 1) := by decide +kernel
theorem dX6_growPairs_61 : decode cX6_growPairs 61 = .ok (.istore 6, 2) := by decide +kernel
theorem dX6_growPairs_63 : decode cX6_growPairs 63 = .ok (.iload_n 2, 1) := by decide +kernel
theorem dX6_growPairs_64 : decode cX6_growPairs 64 = .ok (.ifCond .ne 15, 3) := by decide +kernel
theorem dX6_growPairs_67 : decode cX6_growPairs 67 = .ok (.iload 6, 2) := by decide +kernel
theorem dX6_growPairs_69 : decode cX6_growPairs 69 = .ok (.aload_n 0, 1) := by decide +kernel
theorem dX6_growPairs_70 : decode cX6_growPairs 70 = .ok (.getfield 18, 3) := by decide +kernel
theorem dX6_growPairs_73 : decode cX6_growPairs 73 = .ok (.iload 5, 2) := by decide +kernel
theorem dX6_growPairs_75 : decode cX6_growPairs 75 = .ok (.iaload, 1) := by decide +kernel
theorem dX6_growPairs_76 : decode cX6_growPairs 76 = .ok (.if_icmp .eq 7, 3) := by decide +kernel
theorem dX6_growPairs_79 : decode cX6_growPairs 79 = .ok (.iconst 1, 1) := by decide +kernel
theorem dX6_growPairs_80 : decode cX6_growPairs 80 = .ok (.goto 4, 3) := by decide +kernel
theorem dX6_growPairs_83 : decode cX6_growPairs 83 = .ok (.iconst 0, 1) := by decide +kernel
theorem dX6_growPairs_84 : decode cX6_growPairs 84 = .ok (.istore_n 2, 1) := by decide +kernel
theorem dX6_growPairs_85 : decode cX6_growPairs 85 = .ok (.aload_n 0, 1) := by decide +kernel
theorem dX6_growPairs_86 : decode cX6_growPairs 86 = .ok (.getfield 18, 3) := by decide +kernel
theorem dX6_growPairs_89 : decode cX6_growPairs 89 = .ok (.iload 5, 2) := by decide +kernel
theorem dX6_growPairs_91 : decode cX6_growPairs 91 = .ok (.iload 6, 2) := by decide +kernel
theorem dX6_growPairs_93 : decode cX6_growPairs 93 = .ok (.iastore, 1) := by decide +kernel
theorem dX6_growPairs_94 : decode cX6_growPairs 94 = .ok (.iinc 4 10, 3) := by decide +kernel
theorem dX6_growPairs_97 : decode cX6_growPairs 97 = .ok (.goto (-77), 3) := by decide +kernel
theorem dX6_growPairs_100 : decode cX6_growPairs 100 = .ok (.iinc 3 1, 3) := by decide +kernel
theorem dX6_growPairs_103 : decode cX6_growPairs 103 = .ok (.goto (-99), 3) := by decide +kernel
theorem dX6_growPairs_106 : decode cX6_growPairs 106 = .ok (.iload_n 2, 1) := by decide +kernel
theorem dX6_growPairs_107 : decode cX6_growPairs 107 = .ok (.ireturn, 1) := by decide +kernel
set_option maxRecDepth 20000 in
theorem ggX6_findDelay_X6_countOf : GoodIn wsX6_findDelay wsX6_countOf := goodIn_r _ [11, 12, 13, 14, 15, 16, 17, 18] rfl (by decide +kernel)
set_option maxRecDepth 20000 in
theorem gX6_findDelay_X6_countOf : GoodIn wsX6_findDelay (va_wsS RX6 98 yX6_countOf wsX6_countOf) := goodIn_app (goodIn_of _ (by decide +kernel)) ggX6_findDelay_X6_countOf
set_option maxRecDepth 20000 in
theorem ggX6_findDelay_X6_goOn : GoodIn wsX6_findDelay wsX6_goOn := goodIn_r _ [22, 23, 24, 25, 26, 27, 28, 29, 30, 31, 32, 33, 10, 34, 35, 36, 45, 46, 47, 48, 49, 50, 37, 38, 39, 40, 41, 42, 43, 44] rfl (by decide +kernel)
set_option maxRecDepth 20000 in
theorem gX6_findDelay_X6_goOn : GoodIn wsX6_findDelay (wsV RX6 102 RX6 yX6_goOn wsX6_goOn) := goodIn_app (goodIn_r _ [19, 20, 21, 10] rfl (by decide +kernel)) ggX6_findDelay_X6_goOn
theorem dX6_findDelay_0 : decode cX6_findDelay 0 = .ok (.aload_n 0, 1) := by decide +kernel
theorem dX6_findDelay_1 : decode cX6_findDelay 1 = .ok (.getfield 18, 3) := by decide +kernel
theorem dX6_findDelay_4 : decode cX6_findDelay 4 = .ok (.bipush 10, 2) := by decide +kernel
theorem dX6_findDelay_6 : decode cX6_findDelay 6 = .ok (.aload_n 0, 1) := by decide +kernel
theorem dX6_findDelay_7 : decode cX6_findDelay 7 = .ok (.getfield 21, 3) := by decide +kernel
theorem dX6_findDelay_10 : decode cX6_findDelay 10 = .ok (.iconst 0, 1) := by decide +kernel
theorem dX6_findDelay_11 : decode cX6_findDelay 11 = .ok (.bipush 10, 2) := by decide +kernel
theorem dX6_findDelay_13 : decode cX6_findDelay 13 = .ok (.invokestatic 92, 3) := by decide +kernel
theorem dX6_findDelay_16 : decode cX6_findDelay 16 = .ok (.aload_n 0, 1) := by decide +kernel
theorem dX6_findDelay_17 : decode cX6_findDelay 17 = .ok (.getfield 21, 3) := by decide +kernel
theorem dX6_findDelay_20 : decode cX6_findDelay 20 = .ok (.iconst 0, 1) := by decide +kernel
theorem dX6_findDelay_21 : decode cX6_findDelay 21 = .ok (.invokestatic 98, 3) := by decide +kernel
theorem dX6_findDelay_24 : decode cX6_findDelay 24 = .ok (.istore_n 2, 1) := by decide +kernel
theorem dX6_findDelay_25 : decode cX6_findDelay 25 = .ok (.iconst 0, 1) := by decide +kernel
theorem dX6_findDelay_26 : decode cX6_findDelay 26 = .ok (.istore_n 3, 1) := by decide +kernel
theorem dX6_findDelay_27 : decode cX6_findDelay 27 = .ok (.iload_n 3, 1) := by decide +kernel
theorem dX6_findDelay_28 : decode cX6_findDelay 28 = .ok (.bipush 100, 2) := by decide +kernel
theorem dX6_findDelay_30 : decode cX6_findDelay 30 = .ok (.if_icmp .gt 65, 3) := by decide +kernel
theorem dX6_findDelay_33 : decode cX6_findDelay 33 = .ok (.aload_n 0, 1) := by decide +kernel
theorem dX6_findDelay_34 : decode cX6_findDelay 34 = .ok (.aload_n 1, 1) := by decide +kernel
theorem dX6_findDelay_35 : decode cX6_findDelay 35 = .ok (.aload_n 0, 1) := by decide +kernel
theorem dX6_findDelay_36 : decode cX6_findDelay 36 = .ok (.getfield 21, 3) := by decide +kernel
theorem dX6_findDelay_39 : decode cX6_findDelay 39 = .ok (.aload_n 0, 1) := by decide +kernel
theorem dX6_findDelay_40 : decode cX6_findDelay 40 = .ok (.getfield 24, 3) := by decide +kernel
theorem dX6_findDelay_43 : decode cX6_findDelay 43 = .ok (.invokevirtual 102, 3) := by decide +kernel
theorem dX6_findDelay_46 : decode cX6_findDelay 46 = .ok (.aload_n 0, 1) := by decide +kernel
theorem dX6_findDelay_47 : decode cX6_findDelay 47 = .ok (.getfield 24, 3) := by decide +kernel
theorem dX6_findDelay_50 : decode cX6_findDelay 50 = .ok (.iconst 0, 1) := by decide +kernel
theorem dX6_findDelay_51 : decode cX6_findDelay 51 = .ok (.invokestatic 98, 3) := by decide +kernel
theorem dX6_findDelay_54 : decode cX6_findDelay 54 = .ok (.istore 4, 2) := by decide +kernel
theorem dX6_findDelay_56 : decode cX6_findDelay 56 = .ok (.iload 4, 2) := by decide +kernel
theorem dX6_findDelay_58 : decode cX6_findDelay 58 = .ok (.ifCond .ne 5, 3) := by decide +kernel
theorem dX6_findDelay_61 : decode cX6_findDelay 61 = .ok (.iload_n 3, 1) := by decide +kernel
theorem dX6_findDelay_62 : decode cX6_findDelay 62 = .ok (.ireturn, 1) := by decide +kernel
theorem dX6_findDelay_63 : decode cX6_findDelay 63 = .ok (.iload 4, 2) := by decide +kernel
theorem dX6_findDelay_65 : decode cX6_findDelay 65 = .ok (.iload_n 2, 1) := by decide +kernel
theorem dX6_findDelay_66 : decode cX6_findDelay 66 = .ok (.if_icmp .ne 5, 3) := by decide +kernel
theorem dX6_findDelay_69 : decode cX6_findDelay 69 = .ok (.iconst (-1), 1) := by decide +kernel
theorem dX6_findDelay_70 : decode cX6_findDelay 70 = .ok (.ireturn, 1) := by decide +kernel
theorem dX6_findDelay_71 : decode cX6_findDelay 71 = .ok (.aload_n 0, 1) := by decide +kernel
theorem dX6_findDelay_72 : decode cX6_findDelay 72 = .ok (.getfield 24, 3) := by decide +kernel
theorem dX6_findDelay_75 : decode cX6_findDelay 75 = .ok (.iconst 0, 1) := by decide +kernel
theorem dX6_findDelay_76 : decode cX6_findDelay 76 = .ok (.aload_n 0, 1) := by decide +kernel
theorem dX6_findDelay_77 : decode cX6_findDelay 77 = .ok (.getfield 21, 3) := by decide +kernel
theorem dX6_findDelay_80 : decode cX6_findDelay 80 = .ok (.iconst 0, 1) := by decide +kernel
theorem dX6_findDelay_81 : decode cX6_findDelay 81 = .ok (.bipush 10, 2) := by decide +kernel
theorem dX6_findDelay_83 : decode cX6_findDelay 83 = .ok (.invokestatic 92, 3) := by decide +kernel
theorem dX6_findDelay_86 : decode cX6_findDelay 86 = .ok (.iload 4, 2) := by decide +kernel
theorem dX6_findDelay_88 : decode cX6_findDelay 88 = .ok (.istore_n 2, 1) := by decide +kernel
theorem dX6_findDelay_89 : decode cX6_findDelay 89 = .ok (.iinc 3 1, 3) := by decide +kernel
theorem dX6_findDelay_92 : decode cX6_findDelay 92 = .ok (.goto (-65), 3) := by decide +kernel
theorem dX6_findDelay_95 : decode cX6_findDelay 95 = .ok (.iconst (-1), 1) := by decide +kernel
theorem dX6_findDelay_96 : decode cX6_findDelay 96 = .ok (.ireturn, 1) := by decide +kernel
set_option maxRecDepth 20000 in
theorem ggX6_goOn_J7_fill_53178 : GoodIn wsX6_goOn wsJ7_fill_53178 := goodIn_r _ [8] rfl (by decide +kernel)
set_option maxRecDepth 20000 in
theorem gX6_goOn_J7_fill_53178 : GoodIn wsX6_goOn (va_wsS RX6 76 yJ7_fill_53178 wsJ7_fill_53178) := goodIn_app (goodIn_of _ (by decide +kernel)) ggX6_goOn_J7_fill_53178
set_option maxRecDepth 20000 in
theorem ggX6_goOn_X6_partners : GoodIn wsX6_goOn wsX6_partners := goodIn_r _ [13, 14, 15, 22, 23, 24, 25, 26, 27, 28, 29] rfl (by decide +kernel)
set_option maxRecDepth 20000 in
theorem gX6_goOn_X6_partners : GoodIn wsX6_goOn (wsV RX6 89 RX6 yX6_partners wsX6_partners) := goodIn_app (goodIn_r _ [9, 10, 11, 12] rfl (by decide +kernel)) ggX6_goOn_X6_partners
theorem dX6_goOn_0 : decode cX6_goOn 0 = .ok (.aload_n 3, 1) := by decide +kernel
theorem dX6_goOn_1 : decode cX6_goOn 1 = .ok (.iconst 0, 1) := by decide +kernel
theorem dX6_goOn_2 : decode cX6_goOn 2 = .ok (.invokestatic 76, 3) := by decide +kernel
theorem dX6_goOn_5 : decode cX6_goOn 5 = .ok (.iconst 0, 1) := by decide +kernel
theorem dX6_goOn_6 : decode cX6_goOn 6 = .ok (.istore 4, 2) := by decide +kernel
theorem dX6_goOn_8 : decode cX6_goOn 8 = .ok (.iload 4, 2) := by decide +kernel
theorem dX6_goOn_10 : decode cX6_goOn 10 = .ok (.aload_n 1, 1) := by decide +kernel
theorem dX6_goOn_11 : decode cX6_goOn 11 = .ok (.getfield 55, 3) := by decide +kernel
theorem dX6_goOn_14 : decode cX6_goOn 14 = .ok (.if_icmp .ge 41, 3) := by decide +kernel
theorem dX6_goOn_17 : decode cX6_goOn 17 = .ok (.aload_n 3, 1) := by decide +kernel
theorem dX6_goOn_18 : decode cX6_goOn 18 = .ok (.aload_n 1, 1) := by decide +kernel
theorem dX6_goOn_19 : decode cX6_goOn 19 = .ok (.getfield 73, 3) := by decide +kernel
theorem dX6_goOn_22 : decode cX6_goOn 22 = .ok (.iload 4, 2) := by decide +kernel
theorem dX6_goOn_24 : decode cX6_goOn 24 = .ok (.iaload, 1) := by decide +kernel
theorem dX6_goOn_25 : decode cX6_goOn 25 = .ok (.dup2, 1) := by decide +kernel
theorem dX6_goOn_26 : decode cX6_goOn 26 = .ok (.iaload, 1) := by decide +kernel
theorem dX6_goOn_27 : decode cX6_goOn 27 = .ok (.aload_n 0, 1) := by decide +kernel
theorem dX6_goOn_28 : decode cX6_goOn 28 = .ok (.aload_n 1, 1) := by decide +kernel
theorem dX6_goOn_29 : decode cX6_goOn 29 = .ok (.getfield 60, 3) := by decide +kernel
theorem dX6_goOn_32 : decode cX6_goOn 32 = .ok (.iload 4, 2) := by decide +kernel
theorem dX6_goOn_34 : decode cX6_goOn 34 = .ok (.iaload, 1) := by decide +kernel
theorem dX6_goOn_35 : decode cX6_goOn 35 = .ok (.aload_n 2, 1) := by decide +kernel
theorem dX6_goOn_36 : decode cX6_goOn 36 = .ok (.aload_n 1, 1) := by decide +kernel
theorem dX6_goOn_37 : decode cX6_goOn 37 = .ok (.getfield 70, 3) := by decide +kernel
theorem dX6_goOn_40 : decode cX6_goOn 40 = .ok (.iload 4, 2) := by decide +kernel
theorem dX6_goOn_42 : decode cX6_goOn 42 = .ok (.iaload, 1) := by decide +kernel
theorem dX6_goOn_43 : decode cX6_goOn 43 = .ok (.iaload, 1) := by decide +kernel
theorem dX6_goOn_44 : decode cX6_goOn 44 = .ok (.invokevirtual 89, 3) := by decide +kernel
theorem dX6_goOn_47 : decode cX6_goOn 47 = .ok (.ior, 1) := by decide +kernel
theorem dX6_goOn_48 : decode cX6_goOn 48 = .ok (.iastore, 1) := by decide +kernel
theorem dX6_goOn_49 : decode cX6_goOn 49 = .ok (.iinc 4 1, 3) := by decide +kernel
theorem dX6_goOn_52 : decode cX6_goOn 52 = .ok (.goto (-44), 3) := by decide +kernel
theorem dX6_goOn_55 : decode cX6_goOn 55 = .ok (.return_, 1) := by decide +kernel
set_option maxRecDepth 20000 in
theorem ggX6_isOfRing_J7_fill_53178 : GoodIn wsX6_isOfRing wsJ7_fill_53178 := goodIn_r _ [8] rfl (by decide +kernel)
set_option maxRecDepth 20000 in
theorem gX6_isOfRing_J7_fill_53178 : GoodIn wsX6_isOfRing (va_wsS RX6 76 yJ7_fill_53178 wsJ7_fill_53178) := goodIn_app (goodIn_of _ (by decide +kernel)) ggX6_isOfRing_J7_fill_53178
set_option maxRecDepth 20000 in
theorem ggX6_isOfRing_X6_goOn : GoodIn wsX6_isOfRing wsX6_goOn := goodIn_r _ [13, 14, 15, 16, 17, 5, 6, 7, 8, 18, 19, 20, 12, 21, 22, 23, 36, 37, 38, 39, 40, 41, 28, 29, 30, 31, 32, 33, 34, 35] rfl (by decide +kernel)
set_option maxRecDepth 20000 in
theorem gX6_isOfRing_X6_goOn : GoodIn wsX6_isOfRing (wsV RX6 102 RX6 yX6_goOn wsX6_goOn) := goodIn_app (goodIn_r _ [9, 10, 11, 12] rfl (by decide +kernel)) ggX6_isOfRing_X6_goOn
set_option maxRecDepth 20000 in
theorem ggX6_isOfRing_X6_addAheadToGone : GoodIn wsX6_isOfRing wsX6_addAheadToGone := goodIn_r _ [27, 4, 3, 28, 29, 30, 31, 32, 33, 34, 35] rfl (by decide +kernel)
set_option maxRecDepth 20000 in
theorem gX6_isOfRing_X6_addAheadToGone : GoodIn wsX6_isOfRing (wsV RX6 106 RX6 yX6_addAheadToGone wsX6_addAheadToGone) := goodIn_app (goodIn_r _ [24, 25, 26, 12] rfl (by decide +kernel)) ggX6_isOfRing_X6_addAheadToGone
theorem dX6_isOfRing_0 : decode cX6_isOfRing 0 = .ok (.aload_n 0, 1) := by decide +kernel
theorem dX6_isOfRing_1 : decode cX6_isOfRing 1 = .ok (.getfield 21, 3) := by decide +kernel
theorem dX6_isOfRing_4 : decode cX6_isOfRing 4 = .ok (.iconst 0, 1) := by decide +kernel
theorem dX6_isOfRing_5 : decode cX6_isOfRing 5 = .ok (.invokestatic 76, 3) := by decide +kernel
theorem dX6_isOfRing_8 : decode cX6_isOfRing 8 = .ok (.aload_n 0, 1) := by decide +kernel
theorem dX6_isOfRing_9 : decode cX6_isOfRing 9 = .ok (.getfield 21, 3) := by decide +kernel
theorem dX6_isOfRing_12 : decode cX6_isOfRing 12 = .ok (.iload_n 2, 1) := by decide +kernel
theorem dX6_isOfRing_13 : decode cX6_isOfRing 13 = .ok (.aload_n 0, 1) := by decide +kernel
theorem dX6_isOfRing_14 : decode cX6_isOfRing 14 = .ok (.getfield 9, 3) := by decide +kernel
theorem dX6_isOfRing_17 : decode cX6_isOfRing 17 = .ok (.iload_n 3, 1) := by decide +kernel
theorem dX6_isOfRing_18 : decode cX6_isOfRing 18 = .ok (.iaload, 1) := by decide +kernel
theorem dX6_isOfRing_19 : decode cX6_isOfRing 19 = .ok (.iastore, 1) := by decide +kernel
theorem dX6_isOfRing_20 : decode cX6_isOfRing 20 = .ok (.aload_n 0, 1) := by decide +kernel
theorem dX6_isOfRing_21 : decode cX6_isOfRing 21 = .ok (.aload_n 1, 1) := by decide +kernel
theorem dX6_isOfRing_22 : decode cX6_isOfRing 22 = .ok (.aload_n 0, 1) := by decide +kernel
theorem dX6_isOfRing_23 : decode cX6_isOfRing 23 = .ok (.getfield 21, 3) := by decide +kernel
theorem dX6_isOfRing_26 : decode cX6_isOfRing 26 = .ok (.aload_n 0, 1) := by decide +kernel
theorem dX6_isOfRing_27 : decode cX6_isOfRing 27 = .ok (.getfield 27, 3) := by decide +kernel
theorem dX6_isOfRing_30 : decode cX6_isOfRing 30 = .ok (.invokevirtual 102, 3) := by decide +kernel
theorem dX6_isOfRing_33 : decode cX6_isOfRing 33 = .ok (.iconst 1, 1) := by decide +kernel
theorem dX6_isOfRing_34 : decode cX6_isOfRing 34 = .ok (.istore 4, 2) := by decide +kernel
theorem dX6_isOfRing_36 : decode cX6_isOfRing 36 = .ok (.iconst 0, 1) := by decide +kernel
theorem dX6_isOfRing_37 : decode cX6_isOfRing 37 = .ok (.istore 5, 2) := by decide +kernel
theorem dX6_isOfRing_39 : decode cX6_isOfRing 39 = .ok (.iload 5, 2) := by decide +kernel
theorem dX6_isOfRing_41 : decode cX6_isOfRing 41 = .ok (.bipush 100, 2) := by decide +kernel
theorem dX6_isOfRing_43 : decode cX6_isOfRing 43 = .ok (.if_icmp .ge 33, 3) := by decide +kernel
theorem dX6_isOfRing_46 : decode cX6_isOfRing 46 = .ok (.iload 4, 2) := by decide +kernel
theorem dX6_isOfRing_48 : decode cX6_isOfRing 48 = .ok (.ifCond .eq 28, 3) := by decide +kernel
theorem dX6_isOfRing_51 : decode cX6_isOfRing 51 = .ok (.aload_n 0, 1) := by decide +kernel
theorem dX6_isOfRing_52 : decode cX6_isOfRing 52 = .ok (.aload_n 1, 1) := by decide +kernel
theorem dX6_isOfRing_53 : decode cX6_isOfRing 53 = .ok (.aload_n 0, 1) := by decide +kernel
theorem dX6_isOfRing_54 : decode cX6_isOfRing 54 = .ok (.getfield 27, 3) := by decide +kernel
theorem dX6_isOfRing_57 : decode cX6_isOfRing 57 = .ok (.aload_n 0, 1) := by decide +kernel
theorem dX6_isOfRing_58 : decode cX6_isOfRing 58 = .ok (.getfield 24, 3) := by decide +kernel
theorem dX6_isOfRing_61 : decode cX6_isOfRing 61 = .ok (.invokevirtual 102, 3) := by decide +kernel
theorem dX6_isOfRing_64 : decode cX6_isOfRing 64 = .ok (.aload_n 0, 1) := by decide +kernel
theorem dX6_isOfRing_65 : decode cX6_isOfRing 65 = .ok (.invokevirtual 106, 3) := by decide +kernel
theorem dX6_isOfRing_68 : decode cX6_isOfRing 68 = .ok (.istore 4, 2) := by decide +kernel
theorem dX6_isOfRing_70 : decode cX6_isOfRing 70 = .ok (.iinc 5 1, 3) := by decide +kernel
theorem dX6_isOfRing_73 : decode cX6_isOfRing 73 = .ok (.goto (-34), 3) := by decide +kernel
theorem dX6_isOfRing_76 : decode cX6_isOfRing 76 = .ok (.aload_n 0, 1) := by decide +kernel
theorem dX6_isOfRing_77 : decode cX6_isOfRing 77 = .ok (.getfield 27, 3) := by decide +kernel
theorem dX6_isOfRing_80 : decode cX6_isOfRing 80 = .ok (.iload_n 2, 1) := by decide +kernel
theorem dX6_isOfRing_81 : decode cX6_isOfRing 81 = .ok (.iaload, 1) := by decide +kernel
theorem dX6_isOfRing_82 : decode cX6_isOfRing 82 = .ok (.iload_n 3, 1) := by decide +kernel
theorem dX6_isOfRing_83 : decode cX6_isOfRing 83 = .ok (.ishr, 1) := by decide +kernel
theorem dX6_isOfRing_84 : decode cX6_isOfRing 84 = .ok (.iconst 1, 1) := by decide +kernel
theorem dX6_isOfRing_85 : decode cX6_isOfRing 85 = .ok (.iand, 1) := by decide +kernel
theorem dX6_isOfRing_86 : decode cX6_isOfRing 86 = .ok (.iconst 1, 1) := by decide +kernel
theorem dX6_isOfRing_87 : decode cX6_isOfRing 87 = .ok (.if_icmp .ne 7, 3) := by decide +kernel
theorem dX6_isOfRing_90 : decode cX6_isOfRing 90 = .ok (.iconst 1, 1) := by decide +kernel
theorem dX6_isOfRing_91 : decode cX6_isOfRing 91 = .ok (.goto 4, 3) := by decide +kernel
theorem dX6_isOfRing_94 : decode cX6_isOfRing 94 = .ok (.iconst 0, 1) := by decide +kernel
theorem dX6_isOfRing_95 : decode cX6_isOfRing 95 = .ok (.ireturn, 1) := by decide +kernel
theorem dX6_addAheadToGone_0 : decode cX6_addAheadToGone 0 = .ok (.iconst 0, 1) := by decide +kernel
theorem dX6_addAheadToGone_1 : decode cX6_addAheadToGone 1 = .ok (.istore_n 1, 1) := by decide +kernel
theorem dX6_addAheadToGone_2 : decode cX6_addAheadToGone 2 = .ok (.iconst 0, 1) := by decide +kernel
theorem dX6_addAheadToGone_3 : decode cX6_addAheadToGone 3 = .ok (.istore_n 2, 1) := by decide +kernel
theorem dX6_addAheadToGone_4 : decode cX6_addAheadToGone 4 = .ok (.iload_n 2, 1) := by decide +kernel
theorem dX6_addAheadToGone_5 : decode cX6_addAheadToGone 5 = .ok (.bipush 10, 2) := by decide +kernel
theorem dX6_addAheadToGone_7 : decode cX6_addAheadToGone 7 = .ok (.if_icmp .ge 52, 3) := by decide +kernel
theorem dX6_addAheadToGone_10 : decode cX6_addAheadToGone 10 = .ok (.iload_n 1, 1) := by decide +kernel
theorem dX6_addAheadToGone_11 : decode cX6_addAheadToGone 11 = .ok (.ifCond .ne 21, 3) := by decide +kernel
theorem dX6_addAheadToGone_14 : decode cX6_addAheadToGone 14 = .ok (.aload_n 0, 1) := by decide +kernel
theorem dX6_addAheadToGone_15 : decode cX6_addAheadToGone 15 = .ok (.getfield 24, 3) := by decide +kernel
theorem dX6_addAheadToGone_18 : decode cX6_addAheadToGone 18 = .ok (.iload_n 2, 1) := by decide +kernel
theorem dX6_addAheadToGone_19 : decode cX6_addAheadToGone 19 = .ok (.iaload, 1) := by decide +kernel
theorem dX6_addAheadToGone_20 : decode cX6_addAheadToGone 20 = .ok (.aload_n 0, 1) := by decide +kernel
theorem dX6_addAheadToGone_21 : decode cX6_addAheadToGone 21 = .ok (.getfield 27, 3) := by decide +kernel
theorem dX6_addAheadToGone_24 : decode cX6_addAheadToGone 24 = .ok (.iload_n 2, 1) := by decide +kernel
theorem dX6_addAheadToGone_25 : decode cX6_addAheadToGone 25 = .ok (.iaload, 1) := by decide +kernel
theorem dX6_addAheadToGone_26 : decode cX6_addAheadToGone 26 = .ok (.iconst (-1), 1) := by decide +kernel
theorem dX6_addAheadToGone_27 : decode cX6_addAheadToGone 27 = .ok (.ixor, 1) := by decide +kernel
theorem dX6_addAheadToGone_28 : decode cX6_addAheadToGone 28 = .ok (.iand, 1) := by decide +kernel
theorem dX6_addAheadToGone_29 : decode cX6_addAheadToGone 29 = .ok (.ifCond .eq 7, 3) := by decide +kernel
theorem dX6_addAheadToGone_32 : decode cX6_addAheadToGone 32 = .ok (.iconst 1, 1) := by decide +kernel
theorem dX6_addAheadToGone_33 : decode cX6_addAheadToGone 33 = .ok (.goto 4, 3) := by decide +kernel
theorem dX6_addAheadToGone_36 : decode cX6_addAheadToGone 36 = .ok (.iconst 0, 1) := by decide +kernel
theorem dX6_addAheadToGone_37 : decode cX6_addAheadToGone 37 = .ok (.istore_n 1, 1) := by decide +kernel
theorem dX6_addAheadToGone_38 : decode cX6_addAheadToGone 38 = .ok (.aload_n 0, 1) := by decide +kernel
theorem dX6_addAheadToGone_39 : decode cX6_addAheadToGone 39 = .ok (.getfield 27, 3) := by decide +kernel
theorem dX6_addAheadToGone_42 : decode cX6_addAheadToGone 42 = .ok (.iload_n 2, 1) := by decide +kernel
theorem dX6_addAheadToGone_43 : decode cX6_addAheadToGone 43 = .ok (.dup2, 1) := by decide +kernel
theorem dX6_addAheadToGone_44 : decode cX6_addAheadToGone 44 = .ok (.iaload, 1) := by decide +kernel
theorem dX6_addAheadToGone_45 : decode cX6_addAheadToGone 45 = .ok (.aload_n 0, 1) := by decide +kernel
theorem dX6_addAheadToGone_46 : decode cX6_addAheadToGone 46 = .ok (.getfield 24, 3) := by decide +kernel
theorem dX6_addAheadToGone_49 : decode cX6_addAheadToGone 49 = .ok (.iload_n 2, 1) := by decide +kernel
theorem dX6_addAheadToGone_50 : decode cX6_addAheadToGone 50 = .ok (.iaload, 1) := by decide +kernel
theorem dX6_addAheadToGone_51 : decode cX6_addAheadToGone 51 = .ok (.ior, 1) := by decide +kernel
theorem dX6_addAheadToGone_52 : decode cX6_addAheadToGone 52 = .ok (.iastore, 1) := by decide +kernel
theorem dX6_addAheadToGone_53 : decode cX6_addAheadToGone 53 = .ok (.iinc 2 1, 3) := by decide +kernel
theorem dX6_addAheadToGone_56 : decode cX6_addAheadToGone 56 = .ok (.goto (-52), 3) := by decide +kernel
theorem dX6_addAheadToGone_59 : decode cX6_addAheadToGone 59 = .ok (.iload_n 1, 1) := by decide +kernel
theorem dX6_addAheadToGone_60 : decode cX6_addAheadToGone 60 = .ok (.ireturn, 1) := by decide +kernel
set_option maxRecDepth 20000 in
theorem ggX6_countFrom_X6_countOf : GoodIn wsX6_countFrom wsX6_countOf := goodIn_r _ [5, 6, 7, 8, 9, 10, 11, 12] rfl (by decide +kernel)
set_option maxRecDepth 20000 in
theorem gX6_countFrom_X6_countOf : GoodIn wsX6_countFrom (va_wsS RX6 98 yX6_countOf wsX6_countOf) := goodIn_app (goodIn_of _ (by decide +kernel)) ggX6_countFrom_X6_countOf
theorem dX6_countFrom_0 : decode cX6_countFrom 0 = .ok (.aload_n 0, 1) := by decide +kernel
theorem dX6_countFrom_1 : decode cX6_countFrom 1 = .ok (.getfield 18, 3) := by decide +kernel
theorem dX6_countFrom_4 : decode cX6_countFrom 4 = .ok (.iload_n 1, 1) := by decide +kernel
theorem dX6_countFrom_5 : decode cX6_countFrom 5 = .ok (.invokestatic 98, 3) := by decide +kernel
theorem dX6_countFrom_8 : decode cX6_countFrom 8 = .ok (.ireturn, 1) := by decide +kernel
set_option maxRecDepth 20000 in
theorem ggX6_countOf_J6_bitCount_0f7a4 : GoodIn wsX6_countOf wsJ6_bitCount_0f7a4 := goodIn_r _ [4, 5, 6, 7] rfl (by decide +kernel)
set_option maxRecDepth 20000 in
theorem gX6_countOf_J6_bitCount_0f7a4 : GoodIn wsX6_countOf (va_wsS RX6 110 yJ6_bitCount_0f7a4 wsJ6_bitCount_0f7a4) := goodIn_app (goodIn_of _ (by decide +kernel)) ggX6_countOf_J6_bitCount_0f7a4
theorem dX6_countOf_0 : decode cX6_countOf 0 = .ok (.iconst 0, 1) := by decide +kernel
theorem dX6_countOf_1 : decode cX6_countOf 1 = .ok (.istore_n 2, 1) := by decide +kernel
theorem dX6_countOf_2 : decode cX6_countOf 2 = .ok (.iload_n 1, 1) := by decide +kernel
theorem dX6_countOf_3 : decode cX6_countOf 3 = .ok (.istore_n 3, 1) := by decide +kernel
theorem dX6_countOf_4 : decode cX6_countOf 4 = .ok (.iload_n 3, 1) := by decide +kernel
theorem dX6_countOf_5 : decode cX6_countOf 5 = .ok (.aload_n 0, 1) := by decide +kernel
theorem dX6_countOf_6 : decode cX6_countOf 6 = .ok (.arraylength, 1) := by decide +kernel
theorem dX6_countOf_7 : decode cX6_countOf 7 = .ok (.if_icmp .ge 18, 3) := by decide +kernel
theorem dX6_countOf_10 : decode cX6_countOf 10 = .ok (.iload_n 2, 1) := by decide +kernel
theorem dX6_countOf_11 : decode cX6_countOf 11 = .ok (.aload_n 0, 1) := by decide +kernel
theorem dX6_countOf_12 : decode cX6_countOf 12 = .ok (.iload_n 3, 1) := by decide +kernel
theorem dX6_countOf_13 : decode cX6_countOf 13 = .ok (.iaload, 1) := by decide +kernel
theorem dX6_countOf_14 : decode cX6_countOf 14 = .ok (.invokestatic 110, 3) := by decide +kernel
theorem dX6_countOf_17 : decode cX6_countOf 17 = .ok (.iadd, 1) := by decide +kernel
theorem dX6_countOf_18 : decode cX6_countOf 18 = .ok (.istore_n 2, 1) := by decide +kernel
theorem dX6_countOf_19 : decode cX6_countOf 19 = .ok (.iinc 3 1, 3) := by decide +kernel
theorem dX6_countOf_22 : decode cX6_countOf 22 = .ok (.goto (-18), 3) := by decide +kernel
theorem dX6_countOf_25 : decode cX6_countOf 25 = .ok (.iload_n 2, 1) := by decide +kernel
theorem dX6_countOf_26 : decode cX6_countOf 26 = .ok (.ireturn, 1) := by decide +kernel
theorem dX7_init_0 : decode cX7_init 0 = .ok (.aload_n 0, 1) := by decide +kernel
theorem dX7_init_1 : decode cX7_init 1 = .ok (.invokespecial 3, 3) := by decide +kernel
theorem dX7_init_4 : decode cX7_init 4 = .ok (.aload_n 0, 1) := by decide +kernel
theorem dX7_init_5 : decode cX7_init 5 = .ok (.bipush 20, 2) := by decide +kernel
theorem dX7_init_7 : decode cX7_init 7 = .ok (.newarray .int, 2) := by decide +kernel
theorem dX7_init_9 : decode cX7_init 9 = .ok (.putfield 9, 3) := by decide +kernel
theorem dX7_init_12 : decode cX7_init 12 = .ok (.aload_n 0, 1) := by decide +kernel
theorem dX7_init_13 : decode cX7_init 13 = .ok (.sipush 160, 3) := by decide +kernel
theorem dX7_init_16 : decode cX7_init 16 = .ok (.newarray .int, 2) := by decide +kernel
theorem dX7_init_18 : decode cX7_init 18 = .ok (.putfield 15, 3) := by decide +kernel
theorem dX7_init_21 : decode cX7_init 21 = .ok (.return_, 1) := by decide +kernel
set_option maxRecDepth 20000 in
theorem ggX7_look_X7_findUnseen : GoodIn wsX7_look wsX7_findUnseen := goodIn_r _ [5, 6, 7, 8, 9, 4, 10, 11, 12, 13, 14, 15, 16, 17, 18, 19, 20, 21, 22, 23, 24, 25, 26, 41, 42, 43, 44, 45, 46, 47, 48, 49] rfl (by decide +kernel)
set_option maxRecDepth 20000 in
theorem gX7_look_X7_findUnseen : GoodIn wsX7_look (wsV RX7 18 RX7 yX7_findUnseen wsX7_findUnseen) := goodIn_app (goodIn_r _ [1, 2, 3, 4] rfl (by decide +kernel)) ggX7_look_X7_findUnseen
set_option maxRecDepth 20000 in
theorem ggX7_look_X7_findBehind : GoodIn wsX7_look wsX7_findBehind := goodIn_r _ [30, 31, 11, 12, 13, 6, 32, 33, 34, 35, 14, 15, 16, 17, 18, 19, 20, 21, 22, 23, 24, 25, 26, 41, 42, 43, 44, 45, 46, 47, 48, 49] rfl (by decide +kernel)
set_option maxRecDepth 20000 in
theorem gX7_look_X7_findBehind : GoodIn wsX7_look (wsV RX7 22 RX7 yX7_findBehind wsX7_findBehind) := goodIn_app (goodIn_r _ [27, 28, 29, 4] rfl (by decide +kernel)) ggX7_look_X7_findBehind
set_option maxRecDepth 20000 in
theorem ggX7_look_X7_findMarks : GoodIn wsX7_look wsX7_findMarks := goodIn_r _ [39, 40, 11, 13, 20, 21, 22, 17, 23, 24, 25, 26, 41, 42, 43, 44, 45, 46, 47, 48, 49] rfl (by decide +kernel)
set_option maxRecDepth 20000 in
theorem gX7_look_X7_findMarks : GoodIn wsX7_look (wsV RX7 25 RX7 yX7_findMarks wsX7_findMarks) := goodIn_app (goodIn_r _ [36, 37, 38, 4] rfl (by decide +kernel)) ggX7_look_X7_findMarks
theorem dX7_look_0 : decode cX7_look 0 = .ok (.aload_n 0, 1) := by decide +kernel
theorem dX7_look_1 : decode cX7_look 1 = .ok (.aload_n 1, 1) := by decide +kernel
theorem dX7_look_2 : decode cX7_look 2 = .ok (.invokevirtual 18, 3) := by decide +kernel
theorem dX7_look_5 : decode cX7_look 5 = .ok (.aload_n 0, 1) := by decide +kernel
theorem dX7_look_6 : decode cX7_look 6 = .ok (.aload_n 1, 1) := by decide +kernel
theorem dX7_look_7 : decode cX7_look 7 = .ok (.invokevirtual 22, 3) := by decide +kernel
theorem dX7_look_10 : decode cX7_look 10 = .ok (.aload_n 0, 1) := by decide +kernel
theorem dX7_look_11 : decode cX7_look 11 = .ok (.aload_n 1, 1) := by decide +kernel
theorem dX7_look_12 : decode cX7_look 12 = .ok (.invokevirtual 25, 3) := by decide +kernel
theorem dX7_look_15 : decode cX7_look 15 = .ok (.return_, 1) := by decide +kernel
theorem dX7_first_0 : decode cX7_first 0 = .ok (.aload_n 0, 1) := by decide +kernel
theorem dX7_first_1 : decode cX7_first 1 = .ok (.getfield 9, 3) := by decide +kernel
theorem dX7_first_4 : decode cX7_first 4 = .ok (.iconst 0, 1) := by decide +kernel
theorem dX7_first_5 : decode cX7_first 5 = .ok (.iaload, 1) := by decide +kernel
theorem dX7_first_6 : decode cX7_first 6 = .ok (.ireturn, 1) := by decide +kernel
theorem dX7_after_0 : decode cX7_after 0 = .ok (.iconst 0, 1) := by decide +kernel
theorem dX7_after_1 : decode cX7_after 1 = .ok (.istore_n 3, 1) := by decide +kernel
theorem dX7_after_2 : decode cX7_after 2 = .ok (.iconst 0, 1) := by decide +kernel
theorem dX7_after_3 : decode cX7_after 3 = .ok (.istore 4, 2) := by decide +kernel
theorem dX7_after_5 : decode cX7_after 5 = .ok (.iload 4, 2) := by decide +kernel
theorem dX7_after_7 : decode cX7_after 7 = .ok (.bipush 20, 2) := by decide +kernel
theorem dX7_after_9 : decode cX7_after 9 = .ok (.if_icmp .ge 34, 3) := by decide +kernel
theorem dX7_after_12 : decode cX7_after 12 = .ok (.iload_n 1, 1) := by decide +kernel
theorem dX7_after_13 : decode cX7_after 13 = .ok (.iload 4, 2) := by decide +kernel
theorem dX7_after_15 : decode cX7_after 15 = .ok (.ishr, 1) := by decide +kernel
theorem dX7_after_16 : decode cX7_after 16 = .ok (.iconst 1, 1) := by decide +kernel
theorem dX7_after_17 : decode cX7_after 17 = .ok (.iand, 1) := by decide +kernel
theorem dX7_after_18 : decode cX7_after 18 = .ok (.iconst 1, 1) := by decide +kernel
theorem dX7_after_19 : decode cX7_after 19 = .ok (.if_icmp .ne 18, 3) := by decide +kernel
theorem dX7_after_22 : decode cX7_after 22 = .ok (.iload_n 3, 1) := by decide +kernel
theorem dX7_after_23 : decode cX7_after 23 = .ok (.aload_n 0, 1) := by decide +kernel
theorem dX7_after_24 : decode cX7_after 24 = .ok (.getfield 15, 3) := by decide +kernel
theorem dX7_after_27 : decode cX7_after 27 = .ok (.iload_n 2, 1) := by decide +kernel
theorem dX7_after_28 : decode cX7_after 28 = .ok (.bipush 20, 2) := by decide +kernel
theorem dX7_after_30 : decode cX7_after 30 = .ok (.imul, 1) := by decide +kernel
theorem dX7_after_31 : decode cX7_after 31 = .ok (.iload 4, 2) := by decide +kernel
theorem dX7_after_33 : decode cX7_after 33 = .ok (.iadd, 1) := by decide +kernel
theorem dX7_after_34 : decode cX7_after 34 = .ok (.iaload, 1) := by decide +kernel
theorem dX7_after_35 : decode cX7_after 35 = .ok (.ior, 1) := by decide +kernel
theorem dX7_after_36 : decode cX7_after 36 = .ok (.istore_n 3, 1) := by decide +kernel
theorem dX7_after_37 : decode cX7_after 37 = .ok (.iinc 4 1, 3) := by decide +kernel
theorem dX7_after_40 : decode cX7_after 40 = .ok (.goto (-35), 3) := by decide +kernel
theorem dX7_after_43 : decode cX7_after 43 = .ok (.iload_n 3, 1) := by decide +kernel
theorem dX7_after_44 : decode cX7_after 44 = .ok (.ireturn, 1) := by decide +kernel
set_option maxRecDepth 20000 in
theorem ggX7_nextSights_X7_after : GoodIn wsX7_nextSights wsX7_after := goodIn_r _ [5, 6, 7, 8, 9] rfl (by decide +kernel)
set_option maxRecDepth 20000 in
theorem gX7_nextSights_X7_after : GoodIn wsX7_nextSights (wsV RX7 28 RX7 yX7_after wsX7_after) := goodIn_app (goodIn_r _ [1, 2, 3, 4] rfl (by decide +kernel)) ggX7_nextSights_X7_after
theorem dX7_nextSights_0 : decode cX7_nextSights 0 = .ok (.iconst 0, 1) := by decide +kernel
theorem dX7_nextSights_1 : decode cX7_nextSights 1 = .ok (.istore_n 2, 1) := by decide +kernel
theorem dX7_nextSights_2 : decode cX7_nextSights 2 = .ok (.iconst 0, 1) := by decide +kernel
theorem dX7_nextSights_3 : decode cX7_nextSights 3 = .ok (.istore_n 3, 1) := by decide +kernel
theorem dX7_nextSights_4 : decode cX7_nextSights 4 = .ok (.iload_n 3, 1) := by decide +kernel
theorem dX7_nextSights_5 : decode cX7_nextSights 5 = .ok (.bipush 8, 2) := by decide +kernel
theorem dX7_nextSights_7 : decode cX7_nextSights 7 = .ok (.if_icmp .ge 24, 3) := by decide +kernel
theorem dX7_nextSights_10 : decode cX7_nextSights 10 = .ok (.aload_n 0, 1) := by decide +kernel
theorem dX7_nextSights_11 : decode cX7_nextSights 11 = .ok (.iload_n 1, 1) := by decide +kernel
theorem dX7_nextSights_12 : decode cX7_nextSights 12 = .ok (.iload_n 3, 1) := by decide +kernel
theorem dX7_nextSights_13 : decode cX7_nextSights 13 = .ok (.invokevirtual 28, 3) := by decide +kernel
theorem dX7_nextSights_16 : decode cX7_nextSights 16 = .ok (.ifCond .eq 9, 3) := by decide +kernel
theorem dX7_nextSights_19 : decode cX7_nextSights 19 = .ok (.iload_n 2, 1) := by decide +kernel
theorem dX7_nextSights_20 : decode cX7_nextSights 20 = .ok (.iconst 1, 1) := by decide +kernel
theorem dX7_nextSights_21 : decode cX7_nextSights 21 = .ok (.iload_n 3, 1) := by decide +kernel
theorem dX7_nextSights_22 : decode cX7_nextSights 22 = .ok (.ishl, 1) := by decide +kernel
theorem dX7_nextSights_23 : decode cX7_nextSights 23 = .ok (.ior, 1) := by decide +kernel
theorem dX7_nextSights_24 : decode cX7_nextSights 24 = .ok (.istore_n 2, 1) := by decide +kernel
theorem dX7_nextSights_25 : decode cX7_nextSights 25 = .ok (.iinc 3 1, 3) := by decide +kernel
theorem dX7_nextSights_28 : decode cX7_nextSights 28 = .ok (.goto (-24), 3) := by decide +kernel
theorem dX7_nextSights_31 : decode cX7_nextSights 31 = .ok (.iload_n 2, 1) := by decide +kernel
theorem dX7_nextSights_32 : decode cX7_nextSights 32 = .ok (.ireturn, 1) := by decide +kernel
set_option maxRecDepth 20000 in
theorem ggX7_findUnseen_X7_growUnseen : GoodIn wsX7_findUnseen wsX7_growUnseen := goodIn_r _ [6, 7, 8, 9, 1, 10, 11, 12, 13, 14, 15, 16, 17, 18, 19, 20, 21, 22, 26, 27, 28, 29, 30, 31, 23, 24, 25] rfl (by decide +kernel)
set_option maxRecDepth 20000 in
theorem gX7_findUnseen_X7_growUnseen : GoodIn wsX7_findUnseen (wsV RX7 32 RX7 yX7_growUnseen wsX7_growUnseen) := goodIn_app (goodIn_r _ [2, 3, 4, 5] rfl (by decide +kernel)) ggX7_findUnseen_X7_growUnseen
theorem dX7_findUnseen_0 : decode cX7_findUnseen 0 = .ok (.iconst 0, 1) := by decide +kernel
theorem dX7_findUnseen_1 : decode cX7_findUnseen 1 = .ok (.istore_n 2, 1) := by decide +kernel
theorem dX7_findUnseen_2 : decode cX7_findUnseen 2 = .ok (.iload_n 2, 1) := by decide +kernel
theorem dX7_findUnseen_3 : decode cX7_findUnseen 3 = .ok (.bipush 20, 2) := by decide +kernel
theorem dX7_findUnseen_5 : decode cX7_findUnseen 5 = .ok (.if_icmp .ge 18, 3) := by decide +kernel
theorem dX7_findUnseen_8 : decode cX7_findUnseen 8 = .ok (.aload_n 0, 1) := by decide +kernel
theorem dX7_findUnseen_9 : decode cX7_findUnseen 9 = .ok (.getfield 9, 3) := by decide +kernel
theorem dX7_findUnseen_12 : decode cX7_findUnseen 12 = .ok (.iload_n 2, 1) := by decide +kernel
theorem dX7_findUnseen_13 : decode cX7_findUnseen 13 = .ok (.iconst 1, 1) := by decide +kernel
theorem dX7_findUnseen_14 : decode cX7_findUnseen 14 = .ok (.iload_n 2, 1) := by decide +kernel
theorem dX7_findUnseen_15 : decode cX7_findUnseen 15 = .ok (.ishl, 1) := by decide +kernel
theorem dX7_findUnseen_16 : decode cX7_findUnseen 16 = .ok (.iastore, 1) := by decide +kernel
theorem dX7_findUnseen_17 : decode cX7_findUnseen 17 = .ok (.iinc 2 1, 3) := by decide +kernel
theorem dX7_findUnseen_20 : decode cX7_findUnseen 20 = .ok (.goto (-18), 3) := by decide +kernel
theorem dX7_findUnseen_23 : decode cX7_findUnseen 23 = .ok (.iconst 1, 1) := by decide +kernel
theorem dX7_findUnseen_24 : decode cX7_findUnseen 24 = .ok (.istore_n 2, 1) := by decide +kernel
theorem dX7_findUnseen_25 : decode cX7_findUnseen 25 = .ok (.iconst 0, 1) := by decide +kernel
theorem dX7_findUnseen_26 : decode cX7_findUnseen 26 = .ok (.istore_n 3, 1) := by decide +kernel
theorem dX7_findUnseen_27 : decode cX7_findUnseen 27 = .ok (.iload_n 3, 1) := by decide +kernel
theorem dX7_findUnseen_28 : decode cX7_findUnseen 28 = .ok (.bipush 20, 2) := by decide +kernel
theorem dX7_findUnseen_30 : decode cX7_findUnseen 30 = .ok (.if_icmp .ge 19, 3) := by decide +kernel
theorem dX7_findUnseen_33 : decode cX7_findUnseen 33 = .ok (.iload_n 2, 1) := by decide +kernel
theorem dX7_findUnseen_34 : decode cX7_findUnseen 34 = .ok (.ifCond .eq 15, 3) := by decide +kernel
theorem dX7_findUnseen_37 : decode cX7_findUnseen 37 = .ok (.aload_n 0, 1) := by decide +kernel
theorem dX7_findUnseen_38 : decode cX7_findUnseen 38 = .ok (.aload_n 1, 1) := by decide +kernel
theorem dX7_findUnseen_39 : decode cX7_findUnseen 39 = .ok (.invokevirtual 32, 3) := by decide +kernel
theorem dX7_findUnseen_42 : decode cX7_findUnseen 42 = .ok (.istore_n 2, 1) := by decide +kernel
theorem dX7_findUnseen_43 : decode cX7_findUnseen 43 = .ok (.iinc 3 1, 3) := by decide +kernel
theorem dX7_findUnseen_46 : decode cX7_findUnseen 46 = .ok (.goto (-19), 3) := by decide +kernel
theorem dX7_findUnseen_49 : decode cX7_findUnseen 49 = .ok (.return_, 1) := by decide +kernel
set_option maxRecDepth 20000 in
theorem ggX7_growUnseen_X1_isSeen : GoodIn wsX7_growUnseen wsX1_isSeen := goodIn_r _ [9, 10, 18, 19, 20, 21, 22, 23] rfl (by decide +kernel)
set_option maxRecDepth 20000 in
theorem gX7_growUnseen_X1_isSeen : GoodIn wsX7_growUnseen (wsV RX7 45 RX1 yX1_isSeen wsX1_isSeen) := goodIn_app (goodIn_r _ [5, 6, 7, 8] rfl (by decide +kernel)) ggX7_growUnseen_X1_isSeen
set_option maxRecDepth 20000 in
theorem ggX7_growUnseen_X1_markBehind : GoodIn wsX7_growUnseen wsX1_markBehind := goodIn_r _ [14, 15, 16, 17, 18, 19, 20, 21, 22, 23] rfl (by decide +kernel)
set_option maxRecDepth 20000 in
theorem gX7_growUnseen_X1_markBehind : GoodIn wsX7_growUnseen (wsV RX7 52 RX1 yX1_markBehind wsX1_markBehind) := goodIn_app (goodIn_r _ [11, 12, 13, 8] rfl (by decide +kernel)) ggX7_growUnseen_X1_markBehind
theorem dX7_growUnseen_0 : decode cX7_growUnseen 0 = .ok (.iconst 0, 1) := by decide +kernel
theorem dX7_growUnseen_1 : decode cX7_growUnseen 1 = .ok (.istore_n 2, 1) := by decide +kernel
theorem dX7_growUnseen_2 : decode cX7_growUnseen 2 = .ok (.iconst 0, 1) := by decide +kernel
theorem dX7_growUnseen_3 : decode cX7_growUnseen 3 = .ok (.istore_n 3, 1) := by decide +kernel
theorem dX7_growUnseen_4 : decode cX7_growUnseen 4 = .ok (.iload_n 3, 1) := by decide +kernel
theorem dX7_growUnseen_5 : decode cX7_growUnseen 5 = .ok (.aload_n 1, 1) := by decide +kernel
theorem dX7_growUnseen_6 : decode cX7_growUnseen 6 = .ok (.getfield 36, 3) := by decide +kernel
theorem dX7_growUnseen_9 : decode cX7_growUnseen 9 = .ok (.if_icmp .ge 96, 3) := by decide +kernel
theorem dX7_growUnseen_12 : decode cX7_growUnseen 12 = .ok (.aload_n 1, 1) := by decide +kernel
theorem dX7_growUnseen_13 : decode cX7_growUnseen 13 = .ok (.aload_n 1, 1) := by decide +kernel
theorem dX7_growUnseen_14 : decode cX7_growUnseen 14 = .ok (.getfield 42, 3) := by decide +kernel
theorem dX7_growUnseen_17 : decode cX7_growUnseen 17 = .ok (.iload_n 3, 1) := by decide +kernel
theorem dX7_growUnseen_18 : decode cX7_growUnseen 18 = .ok (.iaload, 1) := by decide +kernel
theorem dX7_growUnseen_19 : decode cX7_growUnseen 19 = .ok (.invokevirtual 45, 3) := by decide +kernel
theorem dX7_growUnseen_22 : decode cX7_growUnseen 22 = .ok (.ifCond .ne 77, 3) := by decide +kernel
theorem dX7_growUnseen_25 : decode cX7_growUnseen 25 = .ok (.aload_n 1, 1) := by decide +kernel
theorem dX7_growUnseen_26 : decode cX7_growUnseen 26 = .ok (.getfield 49, 3) := by decide +kernel
theorem dX7_growUnseen_29 : decode cX7_growUnseen 29 = .ok (.iload_n 3, 1) := by decide +kernel
theorem dX7_growUnseen_30 : decode cX7_growUnseen 30 = .ok (.iaload, 1) := by decide +kernel
theorem dX7_growUnseen_31 : decode cX7_growUnseen 31 = .ok (.istore 4, 2) := by decide +kernel
theorem dX7_growUnseen_33 : decode cX7_growUnseen 33 = .ok (.iload 4, 2) := by decide +kernel
theorem dX7_growUnseen_35 : decode cX7_growUnseen 35 = .ok (.bipush 20, 2) := by decide +kernel
theorem dX7_growUnseen_37 : decode cX7_growUnseen 37 = .ok (.if_icmp .ge 62, 3) := by decide +kernel
theorem dX7_growUnseen_40 : decode cX7_growUnseen 40 = .ok (.aload_n 0, 1) := by decide +kernel
theorem dX7_growUnseen_41 : decode cX7_growUnseen 41 = .ok (.getfield 9, 3) := by decide +kernel
theorem dX7_growUnseen_44 : decode cX7_growUnseen 44 = .ok (.iload 4, 2) := by decide +kernel
theorem dX7_growUnseen_46 : decode cX7_growUnseen 46 = .ok (.iaload, 1) := by decide +kernel
theorem dX7_growUnseen_47 : decode cX7_growUnseen 47 = .ok (.aload_n 0, 1) := by decide +kernel
theorem dX7_growUnseen_48 : decode cX7_growUnseen 48 = .ok (.getfield 9, 3) := by decide +kernel
theorem dX7_growUnseen_51 : decode cX7_growUnseen 51 = .ok (.aload_n 1, 1) := by decide +kernel
theorem dX7_growUnseen_52 : decode cX7_growUnseen 52 = .ok (.iload_n 3, 1) := by decide +kernel
theorem dX7_growUnseen_53 : decode cX7_growUnseen 53 = .ok (.iload 4, 2) := by decide +kernel
theorem dX7_growUnseen_55 : decode cX7_growUnseen 55 = .ok (.invokevirtual 52, 3) := by decide +kernel
theorem dX7_growUnseen_58 : decode cX7_growUnseen 58 = .ok (.iaload, 1) := by decide +kernel
theorem dX7_growUnseen_59 : decode cX7_growUnseen 59 = .ok (.ior, 1) := by decide +kernel
theorem dX7_growUnseen_60 : decode cX7_growUnseen 60 = .ok (.istore 5, 2) := by decide +kernel
theorem dX7_growUnseen_62 : decode cX7_growUnseen 62 = .ok (.iload_n 2, 1) := by decide +kernel
theorem dX7_growUnseen_63 : decode cX7_growUnseen 63 = .ok (.ifCond .ne 15, 3) := by decide +kernel
theorem dX7_growUnseen_66 : decode cX7_growUnseen 66 = .ok (.iload 5, 2) := by decide +kernel
theorem dX7_growUnseen_68 : decode cX7_growUnseen 68 = .ok (.aload_n 0, 1) := by decide +kernel
theorem dX7_growUnseen_69 : decode cX7_growUnseen 69 = .ok (.getfield 9, 3) := by decide +kernel
theorem dX7_growUnseen_72 : decode cX7_growUnseen 72 = .ok (.iload 4, 2) := by decide +kernel
theorem dX7_growUnseen_74 : decode cX7_growUnseen 74 = .ok (.iaload, 1) := by decide +kernel
theorem dX7_growUnseen_75 : decode cX7_growUnseen 75 = .ok (.if_icmp .eq 7, 3) := by decide +kernel
theorem dX7_growUnseen_78 : decode cX7_growUnseen 78 = .ok (.iconst 1, 1) := by decide +kernel
theorem dX7_growUnseen_79 : decode cX7_growUnseen 79 = .ok (.goto 4, 3) := by decide +kernel
theorem dX7_growUnseen_82 : decode cX7_growUnseen 82 = .ok (.iconst 0, 1) := by decide +kernel
theorem dX7_growUnseen_83 : decode cX7_growUnseen 83 = .ok (.istore_n 2, 1) := by decide +kernel
theorem dX7_growUnseen_84 : decode cX7_growUnseen 84 = .ok (.aload_n 0, 1) := by decide +kernel
theorem dX7_growUnseen_85 : decode cX7_growUnseen 85 = .ok (.getfield 9, 3) := by decide +kernel
theorem dX7_growUnseen_88 : decode cX7_growUnseen 88 = .ok (.iload 4, 2) := by decide +kernel
theorem dX7_growUnseen_90 : decode cX7_growUnseen 90 = .ok (.iload 5, 2) := by decide +kernel
theorem dX7_growUnseen_92 : decode cX7_growUnseen 92 = .ok (.iastore, 1) := by decide +kernel
theorem dX7_growUnseen_93 : decode cX7_growUnseen 93 = .ok (.iinc 4 10, 3) := by decide +kernel
theorem dX7_growUnseen_96 : decode cX7_growUnseen 96 = .ok (.goto (-63), 3) := by decide +kernel
theorem dX7_growUnseen_99 : decode cX7_growUnseen 99 = .ok (.iinc 3 1, 3) := by decide +kernel
theorem dX7_growUnseen_102 : decode cX7_growUnseen 102 = .ok (.goto (-98), 3) := by decide +kernel
theorem dX7_growUnseen_105 : decode cX7_growUnseen 105 = .ok (.iload_n 2, 1) := by decide +kernel
theorem dX7_growUnseen_106 : decode cX7_growUnseen 106 = .ok (.ireturn, 1) := by decide +kernel
set_option maxRecDepth 20000 in
theorem ggX7_findBehind_J7_fill_53178 : GoodIn wsX7_findBehind wsJ7_fill_53178 := goodIn_r _ [9] rfl (by decide +kernel)
set_option maxRecDepth 20000 in
theorem gX7_findBehind_J7_fill_53178 : GoodIn wsX7_findBehind (va_wsS RX7 55 yJ7_fill_53178 wsJ7_fill_53178) := goodIn_app (goodIn_of _ (by decide +kernel)) ggX7_findBehind_J7_fill_53178
set_option maxRecDepth 20000 in
theorem ggX7_findBehind_X1_isSeen : GoodIn wsX7_findBehind wsX1_isSeen := goodIn_r _ [14, 15, 26, 27, 28, 29, 30, 31] rfl (by decide +kernel)
set_option maxRecDepth 20000 in
theorem gX7_findBehind_X1_isSeen : GoodIn wsX7_findBehind (wsV RX7 45 RX1 yX1_isSeen wsX1_isSeen) := goodIn_app (goodIn_r _ [10, 11, 12, 13] rfl (by decide +kernel)) ggX7_findBehind_X1_isSeen
set_option maxRecDepth 20000 in
theorem ggX7_findBehind_X1_markBehind : GoodIn wsX7_findBehind wsX1_markBehind := goodIn_r _ [19, 20, 21, 22, 26, 27, 28, 29, 30, 31] rfl (by decide +kernel)
set_option maxRecDepth 20000 in
theorem gX7_findBehind_X1_markBehind : GoodIn wsX7_findBehind (wsV RX7 52 RX1 yX1_markBehind wsX1_markBehind) := goodIn_app (goodIn_r _ [16, 17, 18, 13] rfl (by decide +kernel)) ggX7_findBehind_X1_markBehind
theorem dX7_findBehind_0 : decode cX7_findBehind 0 = .ok (.aload_n 0, 1) := by decide +kernel
theorem dX7_findBehind_1 : decode cX7_findBehind 1 = .ok (.getfield 15, 3) := by decide +kernel
theorem dX7_findBehind_4 : decode cX7_findBehind 4 = .ok (.iconst 0, 1) := by decide +kernel
theorem dX7_findBehind_5 : decode cX7_findBehind 5 = .ok (.invokestatic 55, 3) := by decide +kernel
theorem dX7_findBehind_8 : decode cX7_findBehind 8 = .ok (.iconst 0, 1) := by decide +kernel
theorem dX7_findBehind_9 : decode cX7_findBehind 9 = .ok (.istore_n 2, 1) := by decide +kernel
theorem dX7_findBehind_10 : decode cX7_findBehind 10 = .ok (.iload_n 2, 1) := by decide +kernel
theorem dX7_findBehind_11 : decode cX7_findBehind 11 = .ok (.aload_n 1, 1) := by decide +kernel
theorem dX7_findBehind_12 : decode cX7_findBehind 12 = .ok (.getfield 36, 3) := by decide +kernel
theorem dX7_findBehind_15 : decode cX7_findBehind 15 = .ok (.if_icmp .ge 72, 3) := by decide +kernel
theorem dX7_findBehind_18 : decode cX7_findBehind 18 = .ok (.aload_n 1, 1) := by decide +kernel
theorem dX7_findBehind_19 : decode cX7_findBehind 19 = .ok (.getfield 42, 3) := by decide +kernel
theorem dX7_findBehind_22 : decode cX7_findBehind 22 = .ok (.iload_n 2, 1) := by decide +kernel
theorem dX7_findBehind_23 : decode cX7_findBehind 23 = .ok (.iaload, 1) := by decide +kernel
theorem dX7_findBehind_24 : decode cX7_findBehind 24 = .ok (.istore_n 3, 1) := by decide +kernel
theorem dX7_findBehind_25 : decode cX7_findBehind 25 = .ok (.aload_n 1, 1) := by decide +kernel
theorem dX7_findBehind_26 : decode cX7_findBehind 26 = .ok (.iload_n 3, 1) := by decide +kernel
theorem dX7_findBehind_27 : decode cX7_findBehind 27 = .ok (.invokevirtual 45, 3) := by decide +kernel
theorem dX7_findBehind_30 : decode cX7_findBehind 30 = .ok (.ifCond .eq 51, 3) := by decide +kernel
theorem dX7_findBehind_33 : decode cX7_findBehind 33 = .ok (.aload_n 1, 1) := by decide +kernel
theorem dX7_findBehind_34 : decode cX7_findBehind 34 = .ok (.getfield 49, 3) := by decide +kernel
theorem dX7_findBehind_37 : decode cX7_findBehind 37 = .ok (.iload_n 2, 1) := by decide +kernel
theorem dX7_findBehind_38 : decode cX7_findBehind 38 = .ok (.iaload, 1) := by decide +kernel
theorem dX7_findBehind_39 : decode cX7_findBehind 39 = .ok (.istore 4, 2) := by decide +kernel
theorem dX7_findBehind_41 : decode cX7_findBehind 41 = .ok (.iload 4, 2) := by decide +kernel
theorem dX7_findBehind_43 : decode cX7_findBehind 43 = .ok (.bipush 20, 2) := by decide +kernel
theorem dX7_findBehind_45 : decode cX7_findBehind 45 = .ok (.if_icmp .ge 36, 3) := by decide +kernel
theorem dX7_findBehind_48 : decode cX7_findBehind 48 = .ok (.aload_n 0, 1) := by decide +kernel
theorem dX7_findBehind_49 : decode cX7_findBehind 49 = .ok (.getfield 15, 3) := by decide +kernel
theorem dX7_findBehind_52 : decode cX7_findBehind 52 = .ok (.iload_n 3, 1) := by decide +kernel
theorem dX7_findBehind_53 : decode cX7_findBehind 53 = .ok (.bipush 20, 2) := by decide +kernel
theorem dX7_findBehind_55 : decode cX7_findBehind 55 = .ok (.imul, 1) := by decide +kernel
theorem dX7_findBehind_56 : decode cX7_findBehind 56 = .ok (.iload 4, 2) := by decide +kernel
theorem dX7_findBehind_58 : decode cX7_findBehind 58 = .ok (.iadd, 1) := by decide +kernel
theorem dX7_findBehind_59 : decode cX7_findBehind 59 = .ok (.dup2, 1) := by decide +kernel
theorem dX7_findBehind_60 : decode cX7_findBehind 60 = .ok (.iaload, 1) := by decide +kernel
theorem dX7_findBehind_61 : decode cX7_findBehind 61 = .ok (.aload_n 0, 1) := by decide +kernel
theorem dX7_findBehind_62 : decode cX7_findBehind 62 = .ok (.getfield 9, 3) := by decide +kernel
theorem dX7_findBehind_65 : decode cX7_findBehind 65 = .ok (.aload_n 1, 1) := by decide +kernel
theorem dX7_findBehind_66 : decode cX7_findBehind 66 = .ok (.iload_n 2, 1) := by decide +kernel
theorem dX7_findBehind_67 : decode cX7_findBehind 67 = .ok (.iload 4, 2) := by decide +kernel
theorem dX7_findBehind_69 : decode cX7_findBehind 69 = .ok (.invokevirtual 52, 3) := by decide +kernel
theorem dX7_findBehind_72 : decode cX7_findBehind 72 = .ok (.iaload, 1) := by decide +kernel
theorem dX7_findBehind_73 : decode cX7_findBehind 73 = .ok (.ior, 1) := by decide +kernel
theorem dX7_findBehind_74 : decode cX7_findBehind 74 = .ok (.iastore, 1) := by decide +kernel
theorem dX7_findBehind_75 : decode cX7_findBehind 75 = .ok (.iinc 4 10, 3) := by decide +kernel
theorem dX7_findBehind_78 : decode cX7_findBehind 78 = .ok (.goto (-37), 3) := by decide +kernel
theorem dX7_findBehind_81 : decode cX7_findBehind 81 = .ok (.iinc 2 1, 3) := by decide +kernel
theorem dX7_findBehind_84 : decode cX7_findBehind 84 = .ok (.goto (-74), 3) := by decide +kernel
theorem dX7_findBehind_87 : decode cX7_findBehind 87 = .ok (.return_, 1) := by decide +kernel
set_option maxRecDepth 20000 in
theorem ggX7_findMarks_X1_markBehind : GoodIn wsX7_findMarks wsX1_markBehind := goodIn_r _ [8, 9, 10, 11, 15, 16, 17, 18, 19, 20] rfl (by decide +kernel)
set_option maxRecDepth 20000 in
theorem gX7_findMarks_X1_markBehind : GoodIn wsX7_findMarks (wsV RX7 52 RX1 yX1_markBehind wsX1_markBehind) := goodIn_app (goodIn_r _ [4, 5, 6, 7] rfl (by decide +kernel)) ggX7_findMarks_X1_markBehind
theorem dX7_findMarks_0 : decode cX7_findMarks 0 = .ok (.aload_n 0, 1) := by decide +kernel
theorem dX7_findMarks_1 : decode cX7_findMarks 1 = .ok (.iconst 1, 1) := by decide +kernel
theorem dX7_findMarks_2 : decode cX7_findMarks 2 = .ok (.putfield 61, 3) := by decide +kernel
theorem dX7_findMarks_5 : decode cX7_findMarks 5 = .ok (.iconst 1, 1) := by decide +kernel
theorem dX7_findMarks_6 : decode cX7_findMarks 6 = .ok (.istore_n 2, 1) := by decide +kernel
theorem dX7_findMarks_7 : decode cX7_findMarks 7 = .ok (.iconst 0, 1) := by decide +kernel
theorem dX7_findMarks_8 : decode cX7_findMarks 8 = .ok (.istore_n 3, 1) := by decide +kernel
theorem dX7_findMarks_9 : decode cX7_findMarks 9 = .ok (.iload_n 3, 1) := by decide +kernel
theorem dX7_findMarks_10 : decode cX7_findMarks 10 = .ok (.bipush 20, 2) := by decide +kernel
theorem dX7_findMarks_12 : decode cX7_findMarks 12 = .ok (.if_icmp .ge 106, 3) := by decide +kernel
theorem dX7_findMarks_15 : decode cX7_findMarks 15 = .ok (.iload_n 2, 1) := by decide +kernel
theorem dX7_findMarks_16 : decode cX7_findMarks 16 = .ok (.ifCond .eq 102, 3) := by decide +kernel
theorem dX7_findMarks_19 : decode cX7_findMarks 19 = .ok (.aload_n 0, 1) := by decide +kernel
theorem dX7_findMarks_20 : decode cX7_findMarks 20 = .ok (.getfield 61, 3) := by decide +kernel
theorem dX7_findMarks_23 : decode cX7_findMarks 23 = .ok (.istore 4, 2) := by decide +kernel
theorem dX7_findMarks_25 : decode cX7_findMarks 25 = .ok (.iconst 0, 1) := by decide +kernel
theorem dX7_findMarks_26 : decode cX7_findMarks 26 = .ok (.istore 5, 2) := by decide +kernel
theorem dX7_findMarks_28 : decode cX7_findMarks 28 = .ok (.iload 5, 2) := by decide +kernel
theorem dX7_findMarks_30 : decode cX7_findMarks 30 = .ok (.aload_n 1, 1) := by decide +kernel
theorem dX7_findMarks_31 : decode cX7_findMarks 31 = .ok (.getfield 36, 3) := by decide +kernel
theorem dX7_findMarks_34 : decode cX7_findMarks 34 = .ok (.if_icmp .ge 63, 3) := by decide +kernel
theorem dX7_findMarks_37 : decode cX7_findMarks 37 = .ok (.aload_n 1, 1) := by decide +kernel
theorem dX7_findMarks_38 : decode cX7_findMarks 38 = .ok (.getfield 49, 3) := by decide +kernel
theorem dX7_findMarks_41 : decode cX7_findMarks 41 = .ok (.iload 5, 2) := by decide +kernel
theorem dX7_findMarks_43 : decode cX7_findMarks 43 = .ok (.iaload, 1) := by decide +kernel
theorem dX7_findMarks_44 : decode cX7_findMarks 44 = .ok (.istore 6, 2) := by decide +kernel
theorem dX7_findMarks_46 : decode cX7_findMarks 46 = .ok (.iload 6, 2) := by decide +kernel
theorem dX7_findMarks_48 : decode cX7_findMarks 48 = .ok (.bipush 20, 2) := by decide +kernel
theorem dX7_findMarks_50 : decode cX7_findMarks 50 = .ok (.if_icmp .ge 41, 3) := by decide +kernel
theorem dX7_findMarks_53 : decode cX7_findMarks 53 = .ok (.aload_n 0, 1) := by decide +kernel
theorem dX7_findMarks_54 : decode cX7_findMarks 54 = .ok (.getfield 61, 3) := by decide +kernel
theorem dX7_findMarks_57 : decode cX7_findMarks 57 = .ok (.iload 6, 2) := by decide +kernel
theorem dX7_findMarks_59 : decode cX7_findMarks 59 = .ok (.ishr, 1) := by decide +kernel
theorem dX7_findMarks_60 : decode cX7_findMarks 60 = .ok (.iconst 1, 1) := by decide +kernel
theorem dX7_findMarks_61 : decode cX7_findMarks 61 = .ok (.iand, 1) := by decide +kernel
theorem dX7_findMarks_62 : decode cX7_findMarks 62 = .ok (.iconst 1, 1) := by decide +kernel
theorem dX7_findMarks_63 : decode cX7_findMarks 63 = .ok (.if_icmp .ne 22, 3) := by decide +kernel
theorem dX7_findMarks_66 : decode cX7_findMarks 66 = .ok (.aload_n 0, 1) := by decide +kernel
theorem dX7_findMarks_67 : decode cX7_findMarks 67 = .ok (.dup, 1) := by decide +kernel
theorem dX7_findMarks_68 : decode cX7_findMarks 68 = .ok (.getfield 61, 3) := by decide +kernel
theorem dX7_findMarks_71 : decode cX7_findMarks 71 = .ok (.iconst 1, 1) := by decide +kernel
theorem dX7_findMarks_72 : decode cX7_findMarks 72 = .ok (.aload_n 1, 1) := by decide +kernel
theorem dX7_findMarks_73 : decode cX7_findMarks 73 = .ok (.iload 5, 2) := by decide +kernel
theorem dX7_findMarks_75 : decode cX7_findMarks 75 = .ok (.iload 6, 2) := by decide +kernel
theorem dX7_findMarks_77 : decode cX7_findMarks 77 = .ok (.invokevirtual 52, 3) := by decide +kernel
theorem dX7_findMarks_80 : decode cX7_findMarks 80 = .ok (.ishl, 1) := by decide +kernel
theorem dX7_findMarks_81 : decode cX7_findMarks 81 = .ok (.ior, 1) := by decide +kernel
theorem dX7_findMarks_82 : decode cX7_findMarks 82 = .ok (.putfield 61, 3) := by decide +kernel
theorem dX7_findMarks_85 : decode cX7_findMarks 85 = .ok (.iinc 6 10, 3) := by decide +kernel
theorem dX7_findMarks_88 : decode cX7_findMarks 88 = .ok (.goto (-42), 3) := by decide +kernel
theorem dX7_findMarks_91 : decode cX7_findMarks 91 = .ok (.iinc 5 1, 3) := by decide +kernel
theorem dX7_findMarks_94 : decode cX7_findMarks 94 = .ok (.goto (-66), 3) := by decide +kernel
theorem dX7_findMarks_97 : decode cX7_findMarks 97 = .ok (.aload_n 0, 1) := by decide +kernel
theorem dX7_findMarks_98 : decode cX7_findMarks 98 = .ok (.getfield 61, 3) := by decide +kernel
theorem dX7_findMarks_101 : decode cX7_findMarks 101 = .ok (.iload 4, 2) := by decide +kernel
theorem dX7_findMarks_103 : decode cX7_findMarks 103 = .ok (.if_icmp .eq 7, 3) := by decide +kernel
theorem dX7_findMarks_106 : decode cX7_findMarks 106 = .ok (.iconst 1, 1) := by decide +kernel
theorem dX7_findMarks_107 : decode cX7_findMarks 107 = .ok (.goto 4, 3) := by decide +kernel
theorem dX7_findMarks_110 : decode cX7_findMarks 110 = .ok (.iconst 0, 1) := by decide +kernel
theorem dX7_findMarks_111 : decode cX7_findMarks 111 = .ok (.istore_n 2, 1) := by decide +kernel
theorem dX7_findMarks_112 : decode cX7_findMarks 112 = .ok (.iinc 3 1, 3) := by decide +kernel
theorem dX7_findMarks_115 : decode cX7_findMarks 115 = .ok (.goto (-106), 3) := by decide +kernel
theorem dX7_findMarks_118 : decode cX7_findMarks 118 = .ok (.return_, 1) := by decide +kernel
theorem dX8_init_0 : decode cX8_init 0 = .ok (.aload_n 0, 1) := by decide +kernel
theorem dX8_init_1 : decode cX8_init 1 = .ok (.invokespecial 3, 3) := by decide +kernel
theorem dX8_init_4 : decode cX8_init 4 = .ok (.aload_n 0, 1) := by decide +kernel
theorem dX8_init_5 : decode cX8_init 5 = .ok (.bipush 8, 2) := by decide +kernel
theorem dX8_init_7 : decode cX8_init 7 = .ok (.newarray .int, 2) := by decide +kernel
theorem dX8_init_9 : decode cX8_init 9 = .ok (.putfield 9, 3) := by decide +kernel
theorem dX8_init_12 : decode cX8_init 12 = .ok (.return_, 1) := by decide +kernel
theorem dX8_begin_0 : decode cX8_begin 0 = .ok (.aload_n 0, 1) := by decide +kernel
theorem dX8_begin_1 : decode cX8_begin 1 = .ok (.iconst 0, 1) := by decide +kernel
theorem dX8_begin_2 : decode cX8_begin 2 = .ok (.putfield 15, 3) := by decide +kernel
theorem dX8_begin_5 : decode cX8_begin 5 = .ok (.aload_n 0, 1) := by decide +kernel
theorem dX8_begin_6 : decode cX8_begin 6 = .ok (.iload_n 1, 1) := by decide +kernel
theorem dX8_begin_7 : decode cX8_begin 7 = .ok (.putfield 19, 3) := by decide +kernel
theorem dX8_begin_10 : decode cX8_begin 10 = .ok (.return_, 1) := by decide +kernel
theorem dX8_add_0 : decode cX8_add 0 = .ok (.bipush 7, 2) := by decide +kernel
theorem dX8_add_2 : decode cX8_add 2 = .ok (.istore_n 3, 1) := by decide +kernel
theorem dX8_add_3 : decode cX8_add 3 = .ok (.iload_n 3, 1) := by decide +kernel
theorem dX8_add_4 : decode cX8_add 4 = .ok (.ifCond .le 23, 3) := by decide +kernel
theorem dX8_add_7 : decode cX8_add 7 = .ok (.aload_n 0, 1) := by decide +kernel
theorem dX8_add_8 : decode cX8_add 8 = .ok (.getfield 9, 3) := by decide +kernel
theorem dX8_add_11 : decode cX8_add 11 = .ok (.iload_n 3, 1) := by decide +kernel
theorem dX8_add_12 : decode cX8_add 12 = .ok (.aload_n 0, 1) := by decide +kernel
theorem dX8_add_13 : decode cX8_add 13 = .ok (.getfield 9, 3) := by decide +kernel
theorem dX8_add_16 : decode cX8_add 16 = .ok (.iload_n 3, 1) := by decide +kernel
theorem dX8_add_17 : decode cX8_add 17 = .ok (.iconst 1, 1) := by decide +kernel
theorem dX8_add_18 : decode cX8_add 18 = .ok (.isub, 1) := by decide +kernel
theorem dX8_add_19 : decode cX8_add 19 = .ok (.iaload, 1) := by decide +kernel
theorem dX8_add_20 : decode cX8_add 20 = .ok (.iastore, 1) := by decide +kernel
theorem dX8_add_21 : decode cX8_add 21 = .ok (.iinc 3 (-1), 3) := by decide +kernel
theorem dX8_add_24 : decode cX8_add 24 = .ok (.goto (-21), 3) := by decide +kernel
theorem dX8_add_27 : decode cX8_add 27 = .ok (.aload_n 0, 1) := by decide +kernel
theorem dX8_add_28 : decode cX8_add 28 = .ok (.getfield 9, 3) := by decide +kernel
theorem dX8_add_31 : decode cX8_add 31 = .ok (.iconst 0, 1) := by decide +kernel
theorem dX8_add_32 : decode cX8_add 32 = .ok (.iload_n 1, 1) := by decide +kernel
theorem dX8_add_33 : decode cX8_add 33 = .ok (.iastore, 1) := by decide +kernel
theorem dX8_add_34 : decode cX8_add 34 = .ok (.aload_n 0, 1) := by decide +kernel
theorem dX8_add_35 : decode cX8_add 35 = .ok (.aload_n 0, 1) := by decide +kernel
theorem dX8_add_36 : decode cX8_add 36 = .ok (.getfield 15, 3) := by decide +kernel
theorem dX8_add_39 : decode cX8_add 39 = .ok (.iconst 1, 1) := by decide +kernel
theorem dX8_add_40 : decode cX8_add 40 = .ok (.iadd, 1) := by decide +kernel
theorem dX8_add_41 : decode cX8_add 41 = .ok (.bipush 8, 2) := by decide +kernel
theorem dX8_add_43 : decode cX8_add 43 = .ok (.invokestatic 22, 3) := by decide +kernel
theorem dX8_add_46 : decode cX8_add 46 = .ok (.putfield 15, 3) := by decide +kernel
theorem dX8_add_49 : decode cX8_add 49 = .ok (.aload_n 0, 1) := by decide +kernel
theorem dX8_add_50 : decode cX8_add 50 = .ok (.iload_n 2, 1) := by decide +kernel
theorem dX8_add_51 : decode cX8_add 51 = .ok (.putfield 19, 3) := by decide +kernel
theorem dX8_add_54 : decode cX8_add 54 = .ok (.return_, 1) := by decide +kernel
theorem dX8_take_0 : decode cX8_take 0 = .ok (.aload_n 1, 1) := by decide +kernel
theorem dX8_take_1 : decode cX8_take 1 = .ok (.getfield 9, 3) := by decide +kernel
theorem dX8_take_4 : decode cX8_take 4 = .ok (.iconst 0, 1) := by decide +kernel
theorem dX8_take_5 : decode cX8_take 5 = .ok (.aload_n 0, 1) := by decide +kernel
theorem dX8_take_6 : decode cX8_take 6 = .ok (.getfield 9, 3) := by decide +kernel
theorem dX8_take_9 : decode cX8_take 9 = .ok (.iconst 0, 1) := by decide +kernel
theorem dX8_take_10 : decode cX8_take 10 = .ok (.bipush 8, 2) := by decide +kernel
theorem dX8_take_12 : decode cX8_take 12 = .ok (.invokestatic 28, 3) := by decide +kernel
theorem dX8_take_15 : decode cX8_take 15 = .ok (.aload_n 0, 1) := by decide +kernel
theorem dX8_take_16 : decode cX8_take 16 = .ok (.aload_n 1, 1) := by decide +kernel
theorem dX8_take_17 : decode cX8_take 17 = .ok (.getfield 15, 3) := by decide +kernel
theorem dX8_take_20 : decode cX8_take 20 = .ok (.putfield 15, 3) := by decide +kernel
theorem dX8_take_23 : decode cX8_take 23 = .ok (.aload_n 0, 1) := by decide +kernel
theorem dX8_take_24 : decode cX8_take 24 = .ok (.aload_n 1, 1) := by decide +kernel
theorem dX8_take_25 : decode cX8_take 25 = .ok (.getfield 19, 3) := by decide +kernel
theorem dX8_take_28 : decode cX8_take 28 = .ok (.putfield 19, 3) := by decide +kernel
theorem dX8_take_31 : decode cX8_take 31 = .ok (.return_, 1) := by decide +kernel
