theorem dX10_init_0 : decode cX10_init 0 = .ok (.aload_n 0, 1) := by decide +kernel
theorem dX10_init_1 : decode cX10_init 1 = .ok (.invokespecial 1, 3) := by decide +kernel
theorem dX10_init_4 : decode cX10_init 4 = .ok (.aload_n 0, 1) := by decide +kernel
theorem dX10_init_5 : decode cX10_init 5 = .ok (.iconst 3, 1) := by decide +kernel
theorem dX10_init_6 : decode cX10_init 6 = .ok (.newarray .int, 2) := by decide +kernel
theorem dX10_init_8 : decode cX10_init 8 = .ok (.putfield 7, 3) := by decide +kernel
theorem dX10_init_11 : decode cX10_init 11 = .ok (.aload_n 0, 1) := by decide +kernel
theorem dX10_init_12 : decode cX10_init 12 = .ok (.bipush 24, 2) := by decide +kernel
theorem dX10_init_14 : decode cX10_init 14 = .ok (.newarray .int, 2) := by decide +kernel
theorem dX10_init_16 : decode cX10_init 16 = .ok (.putfield 13, 3) := by decide +kernel
theorem dX10_init_19 : decode cX10_init 19 = .ok (.aload_n 0, 1) := by decide +kernel
theorem dX10_init_20 : decode cX10_init 20 = .ok (.bipush 24, 2) := by decide +kernel
theorem dX10_init_22 : decode cX10_init 22 = .ok (.newarray .int, 2) := by decide +kernel
theorem dX10_init_24 : decode cX10_init 24 = .ok (.putfield 16, 3) := by decide +kernel
theorem dX10_init_27 : decode cX10_init 27 = .ok (.aload_n 0, 1) := by decide +kernel
theorem dX10_init_28 : decode cX10_init 28 = .ok (.bipush 24, 2) := by decide +kernel
theorem dX10_init_30 : decode cX10_init 30 = .ok (.newarray .int, 2) := by decide +kernel
theorem dX10_init_32 : decode cX10_init 32 = .ok (.putfield 19, 3) := by decide +kernel
theorem dX10_init_35 : decode cX10_init 35 = .ok (.aload_n 0, 1) := by decide +kernel
theorem dX10_init_36 : decode cX10_init 36 = .ok (.sipush 255, 3) := by decide +kernel
theorem dX10_init_39 : decode cX10_init 39 = .ok (.putfield 22, 3) := by decide +kernel
theorem dX10_init_42 : decode cX10_init 42 = .ok (.aload_n 0, 1) := by decide +kernel
theorem dX10_init_43 : decode cX10_init 43 = .ok (.iconst 1, 1) := by decide +kernel
theorem dX10_init_44 : decode cX10_init 44 = .ok (.putfield 26, 3) := by decide +kernel
theorem dX10_init_47 : decode cX10_init 47 = .ok (.aload_n 0, 1) := by decide +kernel
theorem dX10_init_48 : decode cX10_init 48 = .ok (.bipush 8, 2) := by decide +kernel
theorem dX10_init_50 : decode cX10_init 50 = .ok (.newarray .int, 2) := by decide +kernel
theorem dX10_init_52 : decode cX10_init 52 = .ok (.putfield 29, 3) := by decide +kernel
theorem dX10_init_55 : decode cX10_init 55 = .ok (.aload_n 0, 1) := by decide +kernel
theorem dX10_init_56 : decode cX10_init 56 = .ok (.sipush 510, 3) := by decide +kernel
theorem dX10_init_59 : decode cX10_init 59 = .ok (.newarray .int, 2) := by decide +kernel
theorem dX10_init_61 : decode cX10_init 61 = .ok (.putfield 32, 3) := by decide +kernel
theorem dX10_init_64 : decode cX10_init 64 = .ok (.aload_n 0, 1) := by decide +kernel
theorem dX10_init_65 : decode cX10_init 65 = .ok (.sipush 500, 3) := by decide +kernel
theorem dX10_init_68 : decode cX10_init 68 = .ok (.newarray .int, 2) := by decide +kernel
theorem dX10_init_70 : decode cX10_init 70 = .ok (.putfield 35, 3) := by decide +kernel
theorem dX10_init_73 : decode cX10_init 73 = .ok (.aload_n 0, 1) := by decide +kernel
theorem dX10_init_74 : decode cX10_init 74 = .ok (.sipush 500, 3) := by decide +kernel
theorem dX10_init_77 : decode cX10_init 77 = .ok (.newarray .int, 2) := by decide +kernel
theorem dX10_init_79 : decode cX10_init 79 = .ok (.putfield 38, 3) := by decide +kernel
theorem dX10_init_82 : decode cX10_init 82 = .ok (.aload_n 0, 1) := by decide +kernel
theorem dX10_init_83 : decode cX10_init 83 = .ok (.sipush 200, 3) := by decide +kernel
theorem dX10_init_86 : decode cX10_init 86 = .ok (.newarray .int, 2) := by decide +kernel
theorem dX10_init_88 : decode cX10_init 88 = .ok (.putfield 41, 3) := by decide +kernel
theorem dX10_init_91 : decode cX10_init 91 = .ok (.aload_n 0, 1) := by decide +kernel
theorem dX10_init_92 : decode cX10_init 92 = .ok (.bipush 100, 2) := by decide +kernel
theorem dX10_init_94 : decode cX10_init 94 = .ok (.newarray .long, 2) := by decide +kernel
theorem dX10_init_96 : decode cX10_init 96 = .ok (.putfield 44, 3) := by decide +kernel
theorem dX10_init_99 : decode cX10_init 99 = .ok (.aload_n 0, 1) := by decide +kernel
theorem dX10_init_100 : decode cX10_init 100 = .ok (.bipush 100, 2) := by decide +kernel
theorem dX10_init_102 : decode cX10_init 102 = .ok (.newarray .long, 2) := by decide +kernel
theorem dX10_init_104 : decode cX10_init 104 = .ok (.putfield 48, 3) := by decide +kernel
theorem dX10_init_107 : decode cX10_init 107 = .ok (.aload_n 0, 1) := by decide +kernel
theorem dX10_init_108 : decode cX10_init 108 = .ok (.bipush 100, 2) := by decide +kernel
theorem dX10_init_110 : decode cX10_init 110 = .ok (.newarray .long, 2) := by decide +kernel
theorem dX10_init_112 : decode cX10_init 112 = .ok (.putfield 51, 3) := by decide +kernel
theorem dX10_init_115 : decode cX10_init 115 = .ok (.aload_n 0, 1) := by decide +kernel
theorem dX10_init_116 : decode cX10_init 116 = .ok (.bipush 100, 2) := by decide +kernel
theorem dX10_init_118 : decode cX10_init 118 = .ok (.newarray .long, 2) := by decide +kernel
theorem dX10_init_120 : decode cX10_init 120 = .ok (.putfield 54, 3) := by decide +kernel
theorem dX10_init_123 : decode cX10_init 123 = .ok (.aload_n 0, 1) := by decide +kernel
theorem dX10_init_124 : decode cX10_init 124 = .ok (.bipush 100, 2) := by decide +kernel
theorem dX10_init_126 : decode cX10_init 126 = .ok (.newarray .int, 2) := by decide +kernel
theorem dX10_init_128 : decode cX10_init 128 = .ok (.putfield 57, 3) := by decide +kernel
theorem dX10_init_131 : decode cX10_init 131 = .ok (.aload_n 0, 1) := by decide +kernel
theorem dX10_init_132 : decode cX10_init 132 = .ok (.bipush 120, 2) := by decide +kernel
theorem dX10_init_134 : decode cX10_init 134 = .ok (.newarray .int, 2) := by decide +kernel
theorem dX10_init_136 : decode cX10_init 136 = .ok (.putfield 60, 3) := by decide +kernel
theorem dX10_init_139 : decode cX10_init 139 = .ok (.return_, 1) := by decide +kernel
theorem dX10_bad_0 : decode cX10_bad 0 = .ok (.aload_n 0, 1) := by decide +kernel
theorem dX10_bad_1 : decode cX10_bad 1 = .ok (.getfield 7, 3) := by decide +kernel
theorem dX10_bad_4 : decode cX10_bad 4 = .ok (.iconst 0, 1) := by decide +kernel
theorem dX10_bad_5 : decode cX10_bad 5 = .ok (.dup2, 1) := by decide +kernel
theorem dX10_bad_6 : decode cX10_bad 6 = .ok (.iaload, 1) := by decide +kernel
theorem dX10_bad_7 : decode cX10_bad 7 = .ok (.iconst 1, 1) := by decide +kernel
theorem dX10_bad_8 : decode cX10_bad 8 = .ok (.iadd, 1) := by decide +kernel
theorem dX10_bad_9 : decode cX10_bad 9 = .ok (.iastore, 1) := by decide +kernel
theorem dX10_bad_10 : decode cX10_bad 10 = .ok (.bipush (-2), 2) := by decide +kernel
theorem dX10_bad_12 : decode cX10_bad 12 = .ok (.ireturn, 1) := by decide +kernel
theorem dX10_no_0 : decode cX10_no 0 = .ok (.aload_n 0, 1) := by decide +kernel
theorem dX10_no_1 : decode cX10_no 1 = .ok (.getfield 7, 3) := by decide +kernel
theorem dX10_no_4 : decode cX10_no 4 = .ok (.iconst 1, 1) := by decide +kernel
theorem dX10_no_5 : decode cX10_no 5 = .ok (.dup2, 1) := by decide +kernel
theorem dX10_no_6 : decode cX10_no 6 = .ok (.iaload, 1) := by decide +kernel
theorem dX10_no_7 : decode cX10_no 7 = .ok (.iconst 1, 1) := by decide +kernel
theorem dX10_no_8 : decode cX10_no 8 = .ok (.iadd, 1) := by decide +kernel
theorem dX10_no_9 : decode cX10_no 9 = .ok (.iastore, 1) := by decide +kernel
theorem dX10_no_10 : decode cX10_no 10 = .ok (.bipush (-3), 2) := by decide +kernel
theorem dX10_no_12 : decode cX10_no 12 = .ok (.ireturn, 1) := by decide +kernel
theorem dX10_full_0 : decode cX10_full 0 = .ok (.aload_n 0, 1) := by decide +kernel
theorem dX10_full_1 : decode cX10_full 1 = .ok (.getfield 7, 3) := by decide +kernel
theorem dX10_full_4 : decode cX10_full 4 = .ok (.iconst 2, 1) := by decide +kernel
theorem dX10_full_5 : decode cX10_full 5 = .ok (.dup2, 1) := by decide +kernel
theorem dX10_full_6 : decode cX10_full 6 = .ok (.iaload, 1) := by decide +kernel
theorem dX10_full_7 : decode cX10_full 7 = .ok (.iconst 1, 1) := by decide +kernel
theorem dX10_full_8 : decode cX10_full 8 = .ok (.iadd, 1) := by decide +kernel
theorem dX10_full_9 : decode cX10_full 9 = .ok (.iastore, 1) := by decide +kernel
theorem dX10_full_10 : decode cX10_full 10 = .ok (.bipush (-4), 2) := by decide +kernel
theorem dX10_full_12 : decode cX10_full 12 = .ok (.ireturn, 1) := by decide +kernel
theorem dX10_in_0 : decode cX10_in 0 = .ok (.iload_n 0, 1) := by decide +kernel
theorem dX10_in_1 : decode cX10_in 1 = .ok (.iload_n 1, 1) := by decide +kernel
theorem dX10_in_2 : decode cX10_in 2 = .ok (.if_icmp .lt 12, 3) := by decide +kernel
theorem dX10_in_5 : decode cX10_in 5 = .ok (.iload_n 0, 1) := by decide +kernel
theorem dX10_in_6 : decode cX10_in 6 = .ok (.iload_n 2, 1) := by decide +kernel
theorem dX10_in_7 : decode cX10_in 7 = .ok (.if_icmp .gt 7, 3) := by decide +kernel
theorem dX10_in_10 : decode cX10_in 10 = .ok (.iconst 1, 1) := by decide +kernel
theorem dX10_in_11 : decode cX10_in 11 = .ok (.goto 4, 3) := by decide +kernel
theorem dX10_in_14 : decode cX10_in 14 = .ok (.iconst 0, 1) := by decide +kernel
theorem dX10_in_15 : decode cX10_in 15 = .ok (.ireturn, 1) := by decide +kernel
set_option maxRecDepth 20000 in
theorem ggX10_isPlace_X10_in : GoodIn wsX10_isPlace wsX10_in := goodIn_r _ [4] rfl (by decide +kernel)
set_option maxRecDepth 20000 in
theorem gX10_isPlace_X10_in : GoodIn wsX10_isPlace (va_wsS RX10 63 yX10_in wsX10_in) := goodIn_app (goodIn_of _ (by decide +kernel)) ggX10_isPlace_X10_in
theorem dX10_isPlace_0 : decode cX10_isPlace 0 = .ok (.iload_n 0, 1) := by decide +kernel
theorem dX10_isPlace_1 : decode cX10_isPlace 1 = .ok (.iconst 0, 1) := by decide +kernel
theorem dX10_isPlace_2 : decode cX10_isPlace 2 = .ok (.bipush 9, 2) := by decide +kernel
theorem dX10_isPlace_4 : decode cX10_isPlace 4 = .ok (.invokestatic 63, 3) := by decide +kernel
theorem dX10_isPlace_7 : decode cX10_isPlace 7 = .ok (.ireturn, 1) := by decide +kernel
set_option maxRecDepth 20000 in
theorem ggX10_isDeed_X10_in : GoodIn wsX10_isDeed wsX10_in := goodIn_r _ [4] rfl (by decide +kernel)
set_option maxRecDepth 20000 in
theorem gX10_isDeed_X10_in : GoodIn wsX10_isDeed (va_wsS RX10 63 yX10_in wsX10_in) := goodIn_app (goodIn_of _ (by decide +kernel)) ggX10_isDeed_X10_in
theorem dX10_isDeed_0 : decode cX10_isDeed 0 = .ok (.iload_n 0, 1) := by decide +kernel
theorem dX10_isDeed_1 : decode cX10_isDeed 1 = .ok (.iconst 0, 1) := by decide +kernel
theorem dX10_isDeed_2 : decode cX10_isDeed 2 = .ok (.bipush 7, 2) := by decide +kernel
theorem dX10_isDeed_4 : decode cX10_isDeed 4 = .ok (.invokestatic 63, 3) := by decide +kernel
theorem dX10_isDeed_7 : decode cX10_isDeed 7 = .ok (.ireturn, 1) := by decide +kernel
theorem dX10_leavesState_0 : decode cX10_leavesState 0 = .ok (.aload_n 0, 1) := by decide +kernel
theorem dX10_leavesState_1 : decode cX10_leavesState 1 = .ok (.getfield 67, 3) := by decide +kernel
theorem dX10_leavesState_4 : decode cX10_leavesState 4 = .ok (.bipush 6, 2) := by decide +kernel
theorem dX10_leavesState_6 : decode cX10_leavesState 6 = .ok (.if_icmp .ne 43, 3) := by decide +kernel
theorem dX10_leavesState_9 : decode cX10_leavesState 9 = .ok (.iconst 0, 1) := by decide +kernel
theorem dX10_leavesState_10 : decode cX10_leavesState 10 = .ok (.istore_n 1, 1) := by decide +kernel
theorem dX10_leavesState_11 : decode cX10_leavesState 11 = .ok (.iload_n 1, 1) := by decide +kernel
theorem dX10_leavesState_12 : decode cX10_leavesState 12 = .ok (.sipush 425, 3) := by decide +kernel
theorem dX10_leavesState_15 : decode cX10_leavesState 15 = .ok (.if_icmp .ge 24, 3) := by decide +kernel
theorem dX10_leavesState_18 : decode cX10_leavesState 18 = .ok (.aload_n 0, 1) := by decide +kernel
theorem dX10_leavesState_19 : decode cX10_leavesState 19 = .ok (.getfield 32, 3) := by decide +kernel
theorem dX10_leavesState_22 : decode cX10_leavesState 22 = .ok (.iload_n 1, 1) := by decide +kernel
theorem dX10_leavesState_23 : decode cX10_leavesState 23 = .ok (.aload_n 0, 1) := by decide +kernel
theorem dX10_leavesState_24 : decode cX10_leavesState 24 = .ok (.getfield 32, 3) := by decide +kernel
theorem dX10_leavesState_27 : decode cX10_leavesState 27 = .ok (.iload_n 1, 1) := by decide +kernel
theorem dX10_leavesState_28 : decode cX10_leavesState 28 = .ok (.bipush 85, 2) := by decide +kernel
theorem dX10_leavesState_30 : decode cX10_leavesState 30 = .ok (.iadd, 1) := by decide +kernel
theorem dX10_leavesState_31 : decode cX10_leavesState 31 = .ok (.iaload, 1) := by decide +kernel
theorem dX10_leavesState_32 : decode cX10_leavesState 32 = .ok (.iastore, 1) := by decide +kernel
theorem dX10_leavesState_33 : decode cX10_leavesState 33 = .ok (.iinc 1 1, 3) := by decide +kernel
theorem dX10_leavesState_36 : decode cX10_leavesState 36 = .ok (.goto (-25), 3) := by decide +kernel
theorem dX10_leavesState_39 : decode cX10_leavesState 39 = .ok (.aload_n 0, 1) := by decide +kernel
theorem dX10_leavesState_40 : decode cX10_leavesState 40 = .ok (.dup, 1) := by decide +kernel
theorem dX10_leavesState_41 : decode cX10_leavesState 41 = .ok (.getfield 67, 3) := by decide +kernel
theorem dX10_leavesState_44 : decode cX10_leavesState 44 = .ok (.iconst 1, 1) := by decide +kernel
theorem dX10_leavesState_45 : decode cX10_leavesState 45 = .ok (.isub, 1) := by decide +kernel
theorem dX10_leavesState_46 : decode cX10_leavesState 46 = .ok (.putfield 67, 3) := by decide +kernel
theorem dX10_leavesState_49 : decode cX10_leavesState 49 = .ok (.bipush 85, 2) := by decide +kernel
theorem dX10_leavesState_51 : decode cX10_leavesState 51 = .ok (.aload_n 0, 1) := by decide +kernel
theorem dX10_leavesState_52 : decode cX10_leavesState 52 = .ok (.getfield 67, 3) := by decide +kernel
theorem dX10_leavesState_55 : decode cX10_leavesState 55 = .ok (.imul, 1) := by decide +kernel
theorem dX10_leavesState_56 : decode cX10_leavesState 56 = .ok (.istore_n 1, 1) := by decide +kernel
theorem dX10_leavesState_57 : decode cX10_leavesState 57 = .ok (.aload_n 0, 1) := by decide +kernel
theorem dX10_leavesState_58 : decode cX10_leavesState 58 = .ok (.getfield 32, 3) := by decide +kernel
theorem dX10_leavesState_61 : decode cX10_leavesState 61 = .ok (.iload_n 1, 1) := by decide +kernel
theorem dX10_leavesState_62 : decode cX10_leavesState 62 = .ok (.aload_n 0, 1) := by decide +kernel
theorem dX10_leavesState_63 : decode cX10_leavesState 63 = .ok (.getfield 70, 3) := by decide +kernel
theorem dX10_leavesState_66 : decode cX10_leavesState 66 = .ok (.iastore, 1) := by decide +kernel
theorem dX10_leavesState_67 : decode cX10_leavesState 67 = .ok (.aload_n 0, 1) := by decide +kernel
theorem dX10_leavesState_68 : decode cX10_leavesState 68 = .ok (.getfield 32, 3) := by decide +kernel
theorem dX10_leavesState_71 : decode cX10_leavesState 71 = .ok (.iload_n 1, 1) := by decide +kernel
theorem dX10_leavesState_72 : decode cX10_leavesState 72 = .ok (.iconst 1, 1) := by decide +kernel
theorem dX10_leavesState_73 : decode cX10_leavesState 73 = .ok (.iadd, 1) := by decide +kernel
theorem dX10_leavesState_74 : decode cX10_leavesState 74 = .ok (.aload_n 0, 1) := by decide +kernel
theorem dX10_leavesState_75 : decode cX10_leavesState 75 = .ok (.getfield 22, 3) := by decide +kernel
theorem dX10_leavesState_78 : decode cX10_leavesState 78 = .ok (.iastore, 1) := by decide +kernel
theorem dX10_leavesState_79 : decode cX10_leavesState 79 = .ok (.aload_n 0, 1) := by decide +kernel
theorem dX10_leavesState_80 : decode cX10_leavesState 80 = .ok (.getfield 32, 3) := by decide +kernel
theorem dX10_leavesState_83 : decode cX10_leavesState 83 = .ok (.iload_n 1, 1) := by decide +kernel
theorem dX10_leavesState_84 : decode cX10_leavesState 84 = .ok (.iconst 2, 1) := by decide +kernel
theorem dX10_leavesState_85 : decode cX10_leavesState 85 = .ok (.iadd, 1) := by decide +kernel
theorem dX10_leavesState_86 : decode cX10_leavesState 86 = .ok (.aload_n 0, 1) := by decide +kernel
theorem dX10_leavesState_87 : decode cX10_leavesState 87 = .ok (.getfield 73, 3) := by decide +kernel
theorem dX10_leavesState_90 : decode cX10_leavesState 90 = .ok (.iastore, 1) := by decide +kernel
theorem dX10_leavesState_91 : decode cX10_leavesState 91 = .ok (.aload_n 0, 1) := by decide +kernel
theorem dX10_leavesState_92 : decode cX10_leavesState 92 = .ok (.getfield 32, 3) := by decide +kernel
theorem dX10_leavesState_95 : decode cX10_leavesState 95 = .ok (.iload_n 1, 1) := by decide +kernel
theorem dX10_leavesState_96 : decode cX10_leavesState 96 = .ok (.iconst 3, 1) := by decide +kernel
theorem dX10_leavesState_97 : decode cX10_leavesState 97 = .ok (.iadd, 1) := by decide +kernel
theorem dX10_leavesState_98 : decode cX10_leavesState 98 = .ok (.aload_n 0, 1) := by decide +kernel
theorem dX10_leavesState_99 : decode cX10_leavesState 99 = .ok (.getfield 26, 3) := by decide +kernel
theorem dX10_leavesState_102 : decode cX10_leavesState 102 = .ok (.iastore, 1) := by decide +kernel
theorem dX10_leavesState_103 : decode cX10_leavesState 103 = .ok (.aload_n 0, 1) := by decide +kernel
theorem dX10_leavesState_104 : decode cX10_leavesState 104 = .ok (.getfield 32, 3) := by decide +kernel
theorem dX10_leavesState_107 : decode cX10_leavesState 107 = .ok (.iload_n 1, 1) := by decide +kernel
theorem dX10_leavesState_108 : decode cX10_leavesState 108 = .ok (.iconst 4, 1) := by decide +kernel
theorem dX10_leavesState_109 : decode cX10_leavesState 109 = .ok (.iadd, 1) := by decide +kernel
theorem dX10_leavesState_110 : decode cX10_leavesState 110 = .ok (.aload_n 0, 1) := by decide +kernel
theorem dX10_leavesState_111 : decode cX10_leavesState 111 = .ok (.getfield 76, 3) := by decide +kernel
theorem dX10_leavesState_114 : decode cX10_leavesState 114 = .ok (.iastore, 1) := by decide +kernel
theorem dX10_leavesState_115 : decode cX10_leavesState 115 = .ok (.iconst 0, 1) := by decide +kernel
theorem dX10_leavesState_116 : decode cX10_leavesState 116 = .ok (.istore_n 2, 1) := by decide +kernel
theorem dX10_leavesState_117 : decode cX10_leavesState 117 = .ok (.iload_n 2, 1) := by decide +kernel
theorem dX10_leavesState_118 : decode cX10_leavesState 118 = .ok (.bipush 24, 2) := by decide +kernel
theorem dX10_leavesState_120 : decode cX10_leavesState 120 = .ok (.if_icmp .ge 59, 3) := by decide +kernel
theorem dX10_leavesState_123 : decode cX10_leavesState 123 = .ok (.aload_n 0, 1) := by decide +kernel
theorem dX10_leavesState_124 : decode cX10_leavesState 124 = .ok (.getfield 32, 3) := by decide +kernel
theorem dX10_leavesState_127 : decode cX10_leavesState 127 = .ok (.iload_n 1, 1) := by decide +kernel
theorem dX10_leavesState_128 : decode cX10_leavesState 128 = .ok (.iconst 5, 1) := by decide +kernel
theorem dX10_leavesState_129 : decode cX10_leavesState 129 = .ok (.iadd, 1) := by decide +kernel
theorem dX10_leavesState_130 : decode cX10_leavesState 130 = .ok (.iload_n 2, 1) := by decide +kernel
theorem dX10_leavesState_131 : decode cX10_leavesState 131 = .ok (.iadd, 1) := by decide +kernel
theorem dX10_leavesState_132 : decode cX10_leavesState 132 = .ok (.aload_n 0, 1) := by decide +kernel
theorem dX10_leavesState_133 : decode cX10_leavesState 133 = .ok (.getfield 13, 3) := by decide +kernel
theorem dX10_leavesState_136 : decode cX10_leavesState 136 = .ok (.iload_n 2, 1) := by decide +kernel
theorem dX10_leavesState_137 : decode cX10_leavesState 137 = .ok (.iaload, 1) := by decide +kernel
theorem dX10_leavesState_138 : decode cX10_leavesState 138 = .ok (.iastore, 1) := by decide +kernel
theorem dX10_leavesState_139 : decode cX10_leavesState 139 = .ok (.aload_n 0, 1) := by decide +kernel
theorem dX10_leavesState_140 : decode cX10_leavesState 140 = .ok (.getfield 32, 3) := by decide +kernel
theorem dX10_leavesState_143 : decode cX10_leavesState 143 = .ok (.iload_n 1, 1) := by decide +kernel
theorem dX10_leavesState_144 : decode cX10_leavesState 144 = .ok (.bipush 29, 2) := by decide +kernel
theorem dX10_leavesState_146 : decode cX10_leavesState 146 = .ok (.iadd, 1) := by decide +kernel
theorem dX10_leavesState_147 : decode cX10_leavesState 147 = .ok (.iload_n 2, 1) := by decide +kernel
theorem dX10_leavesState_148 : decode cX10_leavesState 148 = .ok (.iadd, 1) := by decide +kernel
theorem dX10_leavesState_149 : decode cX10_leavesState 149 = .ok (.aload_n 0, 1) := by decide +kernel
theorem dX10_leavesState_150 : decode cX10_leavesState 150 = .ok (.getfield 16, 3) := by decide +kernel
theorem dX10_leavesState_153 : decode cX10_leavesState 153 = .ok (.iload_n 2, 1) := by decide +kernel
theorem dX10_leavesState_154 : decode cX10_leavesState 154 = .ok (.iaload, 1) := by decide +kernel
theorem dX10_leavesState_155 : decode cX10_leavesState 155 = .ok (.iastore, 1) := by decide +kernel
theorem dX10_leavesState_156 : decode cX10_leavesState 156 = .ok (.aload_n 0, 1) := by decide +kernel
theorem dX10_leavesState_157 : decode cX10_leavesState 157 = .ok (.getfield 32, 3) := by decide +kernel
theorem dX10_leavesState_160 : decode cX10_leavesState 160 = .ok (.iload_n 1, 1) := by decide +kernel
theorem dX10_leavesState_161 : decode cX10_leavesState 161 = .ok (.bipush 53, 2) := by decide +kernel
theorem dX10_leavesState_163 : decode cX10_leavesState 163 = .ok (.iadd, 1) := by decide +kernel
theorem dX10_leavesState_164 : decode cX10_leavesState 164 = .ok (.iload_n 2, 1) := by decide +kernel
theorem dX10_leavesState_165 : decode cX10_leavesState 165 = .ok (.iadd, 1) := by decide +kernel
theorem dX10_leavesState_166 : decode cX10_leavesState 166 = .ok (.aload_n 0, 1) := by decide +kernel
theorem dX10_leavesState_167 : decode cX10_leavesState 167 = .ok (.getfield 19, 3) := by decide +kernel
theorem dX10_leavesState_170 : decode cX10_leavesState 170 = .ok (.iload_n 2, 1) := by decide +kernel
theorem dX10_leavesState_171 : decode cX10_leavesState 171 = .ok (.iaload, 1) := by decide +kernel
theorem dX10_leavesState_172 : decode cX10_leavesState 172 = .ok (.iastore, 1) := by decide +kernel
theorem dX10_leavesState_173 : decode cX10_leavesState 173 = .ok (.iinc 2 1, 3) := by decide +kernel
theorem dX10_leavesState_176 : decode cX10_leavesState 176 = .ok (.goto (-59), 3) := by decide +kernel
theorem dX10_leavesState_179 : decode cX10_leavesState 179 = .ok (.iconst 0, 1) := by decide +kernel
theorem dX10_leavesState_180 : decode cX10_leavesState 180 = .ok (.istore_n 2, 1) := by decide +kernel
theorem dX10_leavesState_181 : decode cX10_leavesState 181 = .ok (.iload_n 2, 1) := by decide +kernel
theorem dX10_leavesState_182 : decode cX10_leavesState 182 = .ok (.bipush 8, 2) := by decide +kernel
theorem dX10_leavesState_184 : decode cX10_leavesState 184 = .ok (.if_icmp .ge 26, 3) := by decide +kernel
theorem dX10_leavesState_187 : decode cX10_leavesState 187 = .ok (.aload_n 0, 1) := by decide +kernel
theorem dX10_leavesState_188 : decode cX10_leavesState 188 = .ok (.getfield 32, 3) := by decide +kernel
theorem dX10_leavesState_191 : decode cX10_leavesState 191 = .ok (.iload_n 1, 1) := by decide +kernel
theorem dX10_leavesState_192 : decode cX10_leavesState 192 = .ok (.bipush 77, 2) := by decide +kernel
theorem dX10_leavesState_194 : decode cX10_leavesState 194 = .ok (.iadd, 1) := by decide +kernel
theorem dX10_leavesState_195 : decode cX10_leavesState 195 = .ok (.iload_n 2, 1) := by decide +kernel
theorem dX10_leavesState_196 : decode cX10_leavesState 196 = .ok (.iadd, 1) := by decide +kernel
theorem dX10_leavesState_197 : decode cX10_leavesState 197 = .ok (.aload_n 0, 1) := by decide +kernel
theorem dX10_leavesState_198 : decode cX10_leavesState 198 = .ok (.getfield 29, 3) := by decide +kernel
theorem dX10_leavesState_201 : decode cX10_leavesState 201 = .ok (.iload_n 2, 1) := by decide +kernel
theorem dX10_leavesState_202 : decode cX10_leavesState 202 = .ok (.iaload, 1) := by decide +kernel
theorem dX10_leavesState_203 : decode cX10_leavesState 203 = .ok (.iastore, 1) := by decide +kernel
theorem dX10_leavesState_204 : decode cX10_leavesState 204 = .ok (.iinc 2 1, 3) := by decide +kernel
theorem dX10_leavesState_207 : decode cX10_leavesState 207 = .ok (.goto (-26), 3) := by decide +kernel
theorem dX10_leavesState_210 : decode cX10_leavesState 210 = .ok (.aload_n 0, 1) := by decide +kernel
theorem dX10_leavesState_211 : decode cX10_leavesState 211 = .ok (.dup, 1) := by decide +kernel
theorem dX10_leavesState_212 : decode cX10_leavesState 212 = .ok (.getfield 67, 3) := by decide +kernel
theorem dX10_leavesState_215 : decode cX10_leavesState 215 = .ok (.iconst 1, 1) := by decide +kernel
theorem dX10_leavesState_216 : decode cX10_leavesState 216 = .ok (.iadd, 1) := by decide +kernel
theorem dX10_leavesState_217 : decode cX10_leavesState 217 = .ok (.putfield 67, 3) := by decide +kernel
theorem dX10_leavesState_220 : decode cX10_leavesState 220 = .ok (.return_, 1) := by decide +kernel
set_option maxRecDepth 20000 in
theorem ggX10_back_X10_no : GoodIn wsX10_back wsX10_no := goodIn_r _ [16, 17, 18, 19, 20, 21, 22, 23, 24, 25, 26, 27, 28, 29, 30, 31, 32, 33, 34, 35, 36, 37, 38, 39, 40, 41, 42] rfl (by decide +kernel)
set_option maxRecDepth 20000 in
theorem gX10_back_X10_no : GoodIn wsX10_back (wsV RX10 79 RX10 yX10_no wsX10_no) := goodIn_app (goodIn_r _ [12, 13, 14, 15] rfl (by decide +kernel)) ggX10_back_X10_no
theorem dX10_back_0 : decode cX10_back 0 = .ok (.aload_n 0, 1) := by decide +kernel
theorem dX10_back_1 : decode cX10_back 1 = .ok (.getfield 67, 3) := by decide +kernel
theorem dX10_back_4 : decode cX10_back 4 = .ok (.ifCond .ne 8, 3) := by decide +kernel
theorem dX10_back_7 : decode cX10_back 7 = .ok (.aload_n 0, 1) := by decide +kernel
theorem dX10_back_8 : decode cX10_back 8 = .ok (.invokevirtual 79, 3) := by decide +kernel
theorem dX10_back_11 : decode cX10_back 11 = .ok (.ireturn, 1) := by decide +kernel
theorem dX10_back_12 : decode cX10_back 12 = .ok (.aload_n 0, 1) := by decide +kernel
theorem dX10_back_13 : decode cX10_back 13 = .ok (.dup, 1) := by decide +kernel
theorem dX10_back_14 : decode cX10_back 14 = .ok (.getfield 67, 3) := by decide +kernel
theorem dX10_back_17 : decode cX10_back 17 = .ok (.iconst 1, 1) := by decide +kernel
theorem dX10_back_18 : decode cX10_back 18 = .ok (.isub, 1) := by decide +kernel
theorem dX10_back_19 : decode cX10_back 19 = .ok (.putfield 67, 3) := by decide +kernel
theorem dX10_back_22 : decode cX10_back 22 = .ok (.bipush 85, 2) := by decide +kernel
theorem dX10_back_24 : decode cX10_back 24 = .ok (.aload_n 0, 1) := by decide +kernel
theorem dX10_back_25 : decode cX10_back 25 = .ok (.getfield 67, 3) := by decide +kernel
theorem dX10_back_28 : decode cX10_back 28 = .ok (.imul, 1) := by decide +kernel
theorem dX10_back_29 : decode cX10_back 29 = .ok (.istore_n 1, 1) := by decide +kernel
theorem dX10_back_30 : decode cX10_back 30 = .ok (.aload_n 0, 1) := by decide +kernel
theorem dX10_back_31 : decode cX10_back 31 = .ok (.aload_n 0, 1) := by decide +kernel
theorem dX10_back_32 : decode cX10_back 32 = .ok (.getfield 32, 3) := by decide +kernel
theorem dX10_back_35 : decode cX10_back 35 = .ok (.iload_n 1, 1) := by decide +kernel
theorem dX10_back_36 : decode cX10_back 36 = .ok (.iaload, 1) := by decide +kernel
theorem dX10_back_37 : decode cX10_back 37 = .ok (.putfield 70, 3) := by decide +kernel
theorem dX10_back_40 : decode cX10_back 40 = .ok (.aload_n 0, 1) := by decide +kernel
theorem dX10_back_41 : decode cX10_back 41 = .ok (.aload_n 0, 1) := by decide +kernel
theorem dX10_back_42 : decode cX10_back 42 = .ok (.getfield 32, 3) := by decide +kernel
theorem dX10_back_45 : decode cX10_back 45 = .ok (.iload_n 1, 1) := by decide +kernel
theorem dX10_back_46 : decode cX10_back 46 = .ok (.iconst 1, 1) := by decide +kernel
theorem dX10_back_47 : decode cX10_back 47 = .ok (.iadd, 1) := by decide +kernel
theorem dX10_back_48 : decode cX10_back 48 = .ok (.iaload, 1) := by decide +kernel
theorem dX10_back_49 : decode cX10_back 49 = .ok (.putfield 22, 3) := by decide +kernel
theorem dX10_back_52 : decode cX10_back 52 = .ok (.aload_n 0, 1) := by decide +kernel
theorem dX10_back_53 : decode cX10_back 53 = .ok (.aload_n 0, 1) := by decide +kernel
theorem dX10_back_54 : decode cX10_back 54 = .ok (.getfield 32, 3) := by decide +kernel
theorem dX10_back_57 : decode cX10_back 57 = .ok (.iload_n 1, 1) := by decide +kernel
theorem dX10_back_58 : decode cX10_back 58 = .ok (.iconst 2, 1) := by decide +kernel
theorem dX10_back_59 : decode cX10_back 59 = .ok (.iadd, 1) := by decide +kernel
theorem dX10_back_60 : decode cX10_back 60 = .ok (.iaload, 1) := by decide +kernel
theorem dX10_back_61 : decode cX10_back 61 = .ok (.putfield 73, 3) := by decide +kernel
theorem dX10_back_64 : decode cX10_back 64 = .ok (.aload_n 0, 1) := by decide +kernel
theorem dX10_back_65 : decode cX10_back 65 = .ok (.aload_n 0, 1) := by decide +kernel
theorem dX10_back_66 : decode cX10_back 66 = .ok (.getfield 32, 3) := by decide +kernel
theorem dX10_back_69 : decode cX10_back 69 = .ok (.iload_n 1, 1) := by decide +kernel
theorem dX10_back_70 : decode cX10_back 70 = .ok (.iconst 3, 1) := by decide +kernel
theorem dX10_back_71 : decode cX10_back 71 = .ok (.iadd, 1) := by decide +kernel
theorem dX10_back_72 : decode cX10_back 72 = .ok (.iaload, 1) := by decide +kernel
theorem dX10_back_73 : decode cX10_back 73 = .ok (.putfield 26, 3) := by decide +kernel
theorem dX10_back_76 : decode cX10_back 76 = .ok (.aload_n 0, 1) := by decide +kernel
theorem dX10_back_77 : decode cX10_back 77 = .ok (.aload_n 0, 1) := by decide +kernel
theorem dX10_back_78 : decode cX10_back 78 = .ok (.getfield 32, 3) := by decide +kernel
theorem dX10_back_81 : decode cX10_back 81 = .ok (.iload_n 1, 1) := by decide +kernel
theorem dX10_back_82 : decode cX10_back 82 = .ok (.iconst 4, 1) := by decide +kernel
theorem dX10_back_83 : decode cX10_back 83 = .ok (.iadd, 1) := by decide +kernel
theorem dX10_back_84 : decode cX10_back 84 = .ok (.iaload, 1) := by decide +kernel
theorem dX10_back_85 : decode cX10_back 85 = .ok (.putfield 76, 3) := by decide +kernel
theorem dX10_back_88 : decode cX10_back 88 = .ok (.iconst 0, 1) := by decide +kernel
theorem dX10_back_89 : decode cX10_back 89 = .ok (.istore_n 2, 1) := by decide +kernel
theorem dX10_back_90 : decode cX10_back 90 = .ok (.iload_n 2, 1) := by decide +kernel
theorem dX10_back_91 : decode cX10_back 91 = .ok (.bipush 24, 2) := by decide +kernel
theorem dX10_back_93 : decode cX10_back 93 = .ok (.if_icmp .ge 59, 3) := by decide +kernel
theorem dX10_back_96 : decode cX10_back 96 = .ok (.aload_n 0, 1) := by decide +kernel
theorem dX10_back_97 : decode cX10_back 97 = .ok (.getfield 13, 3) := by decide +kernel
theorem dX10_back_100 : decode cX10_back 100 = .ok (.iload_n 2, 1) := by decide +kernel
theorem dX10_back_101 : decode cX10_back 101 = .ok (.aload_n 0, 1) := by decide +kernel
theorem dX10_back_102 : decode cX10_back 102 = .ok (.getfield 32, 3) := by decide +kernel
theorem dX10_back_105 : decode cX10_back 105 = .ok (.iload_n 1, 1) := by decide +kernel
theorem dX10_back_106 : decode cX10_back 106 = .ok (.iconst 5, 1) := by decide +kernel
theorem dX10_back_107 : decode cX10_back 107 = .ok (.iadd, 1) := by decide +kernel
theorem dX10_back_108 : decode cX10_back 108 = .ok (.iload_n 2, 1) := by decide +kernel
theorem dX10_back_109 : decode cX10_back 109 = .ok (.iadd, 1) := by decide +kernel
theorem dX10_back_110 : decode cX10_back 110 = .ok (.iaload, 1) := by decide +kernel
theorem dX10_back_111 : decode cX10_back 111 = .ok (.iastore, 1) := by decide +kernel
theorem dX10_back_112 : decode cX10_back 112 = .ok (.aload_n 0, 1) := by decide +kernel
theorem dX10_back_113 : decode cX10_back 113 = .ok (.getfield 16, 3) := by decide +kernel
theorem dX10_back_116 : decode cX10_back 116 = .ok (.iload_n 2, 1) := by decide +kernel
theorem dX10_back_117 : decode cX10_back 117 = .ok (.aload_n 0, 1) := by decide +kernel
theorem dX10_back_118 : decode cX10_back 118 = .ok (.getfield 32, 3) := by decide +kernel
theorem dX10_back_121 : decode cX10_back 121 = .ok (.iload_n 1, 1) := by decide +kernel
theorem dX10_back_122 : decode cX10_back 122 = .ok (.bipush 29, 2) := by decide +kernel
theorem dX10_back_124 : decode cX10_back 124 = .ok (.iadd, 1) := by decide +kernel
theorem dX10_back_125 : decode cX10_back 125 = .ok (.iload_n 2, 1) := by decide +kernel
theorem dX10_back_126 : decode cX10_back 126 = .ok (.iadd, 1) := by decide +kernel
theorem dX10_back_127 : decode cX10_back 127 = .ok (.iaload, 1) := by decide +kernel
theorem dX10_back_128 : decode cX10_back 128 = .ok (.iastore, 1) := by decide +kernel
theorem dX10_back_129 : decode cX10_back 129 = .ok (.aload_n 0, 1) := by decide +kernel
theorem dX10_back_130 : decode cX10_back 130 = .ok (.getfield 19, 3) := by decide +kernel
theorem dX10_back_133 : decode cX10_back 133 = .ok (.iload_n 2, 1) := by decide +kernel
theorem dX10_back_134 : decode cX10_back 134 = .ok (.aload_n 0, 1) := by decide +kernel
theorem dX10_back_135 : decode cX10_back 135 = .ok (.getfield 32, 3) := by decide +kernel
theorem dX10_back_138 : decode cX10_back 138 = .ok (.iload_n 1, 1) := by decide +kernel
theorem dX10_back_139 : decode cX10_back 139 = .ok (.bipush 53, 2) := by decide +kernel
theorem dX10_back_141 : decode cX10_back 141 = .ok (.iadd, 1) := by decide +kernel
theorem dX10_back_142 : decode cX10_back 142 = .ok (.iload_n 2, 1) := by decide +kernel
theorem dX10_back_143 : decode cX10_back 143 = .ok (.iadd, 1) := by decide +kernel
theorem dX10_back_144 : decode cX10_back 144 = .ok (.iaload, 1) := by decide +kernel
theorem dX10_back_145 : decode cX10_back 145 = .ok (.iastore, 1) := by decide +kernel
theorem dX10_back_146 : decode cX10_back 146 = .ok (.iinc 2 1, 3) := by decide +kernel
theorem dX10_back_149 : decode cX10_back 149 = .ok (.goto (-59), 3) := by decide +kernel
theorem dX10_back_152 : decode cX10_back 152 = .ok (.iconst 0, 1) := by decide +kernel
theorem dX10_back_153 : decode cX10_back 153 = .ok (.istore_n 2, 1) := by decide +kernel
theorem dX10_back_154 : decode cX10_back 154 = .ok (.iload_n 2, 1) := by decide +kernel
theorem dX10_back_155 : decode cX10_back 155 = .ok (.bipush 8, 2) := by decide +kernel
theorem dX10_back_157 : decode cX10_back 157 = .ok (.if_icmp .ge 26, 3) := by decide +kernel
theorem dX10_back_160 : decode cX10_back 160 = .ok (.aload_n 0, 1) := by decide +kernel
theorem dX10_back_161 : decode cX10_back 161 = .ok (.getfield 29, 3) := by decide +kernel
theorem dX10_back_164 : decode cX10_back 164 = .ok (.iload_n 2, 1) := by decide +kernel
theorem dX10_back_165 : decode cX10_back 165 = .ok (.aload_n 0, 1) := by decide +kernel
theorem dX10_back_166 : decode cX10_back 166 = .ok (.getfield 32, 3) := by decide +kernel
theorem dX10_back_169 : decode cX10_back 169 = .ok (.iload_n 1, 1) := by decide +kernel
theorem dX10_back_170 : decode cX10_back 170 = .ok (.bipush 77, 2) := by decide +kernel
theorem dX10_back_172 : decode cX10_back 172 = .ok (.iadd, 1) := by decide +kernel
theorem dX10_back_173 : decode cX10_back 173 = .ok (.iload_n 2, 1) := by decide +kernel
theorem dX10_back_174 : decode cX10_back 174 = .ok (.iadd, 1) := by decide +kernel
theorem dX10_back_175 : decode cX10_back 175 = .ok (.iaload, 1) := by decide +kernel
theorem dX10_back_176 : decode cX10_back 176 = .ok (.iastore, 1) := by decide +kernel
theorem dX10_back_177 : decode cX10_back 177 = .ok (.iinc 2 1, 3) := by decide +kernel
theorem dX10_back_180 : decode cX10_back 180 = .ok (.goto (-26), 3) := by decide +kernel
theorem dX10_back_183 : decode cX10_back 183 = .ok (.aload_n 0, 1) := by decide +kernel
theorem dX10_back_184 : decode cX10_back 184 = .ok (.getfield 67, 3) := by decide +kernel
theorem dX10_back_187 : decode cX10_back 187 = .ok (.ireturn, 1) := by decide +kernel
theorem dX10_isThere_0 : decode cX10_isThere 0 = .ok (.iconst 0, 1) := by decide +kernel
theorem dX10_isThere_1 : decode cX10_isThere 1 = .ok (.istore 4, 2) := by decide +kernel
theorem dX10_isThere_3 : decode cX10_isThere 3 = .ok (.iconst 0, 1) := by decide +kernel
theorem dX10_isThere_4 : decode cX10_isThere 4 = .ok (.istore 5, 2) := by decide +kernel
theorem dX10_isThere_6 : decode cX10_isThere 6 = .ok (.iload 5, 2) := by decide +kernel
theorem dX10_isThere_8 : decode cX10_isThere 8 = .ok (.aload_n 0, 1) := by decide +kernel
theorem dX10_isThere_9 : decode cX10_isThere 9 = .ok (.getfield 70, 3) := by decide +kernel
theorem dX10_isThere_12 : decode cX10_isThere 12 = .ok (.if_icmp .ge 54, 3) := by decide +kernel
theorem dX10_isThere_15 : decode cX10_isThere 15 = .ok (.iload 4, 2) := by decide +kernel
theorem dX10_isThere_17 : decode cX10_isThere 17 = .ok (.ifCond .ne 36, 3) := by decide +kernel
theorem dX10_isThere_20 : decode cX10_isThere 20 = .ok (.aload_n 0, 1) := by decide +kernel
theorem dX10_isThere_21 : decode cX10_isThere 21 = .ok (.getfield 13, 3) := by decide +kernel
theorem dX10_isThere_24 : decode cX10_isThere 24 = .ok (.iload 5, 2) := by decide +kernel
theorem dX10_isThere_26 : decode cX10_isThere 26 = .ok (.iaload, 1) := by decide +kernel
theorem dX10_isThere_27 : decode cX10_isThere 27 = .ok (.iload_n 1, 1) := by decide +kernel
theorem dX10_isThere_28 : decode cX10_isThere 28 = .ok (.if_icmp .ne 29, 3) := by decide +kernel
theorem dX10_isThere_31 : decode cX10_isThere 31 = .ok (.aload_n 0, 1) := by decide +kernel
theorem dX10_isThere_32 : decode cX10_isThere 32 = .ok (.getfield 16, 3) := by decide +kernel
theorem dX10_isThere_35 : decode cX10_isThere 35 = .ok (.iload 5, 2) := by decide +kernel
theorem dX10_isThere_37 : decode cX10_isThere 37 = .ok (.iaload, 1) := by decide +kernel
theorem dX10_isThere_38 : decode cX10_isThere 38 = .ok (.iload_n 2, 1) := by decide +kernel
theorem dX10_isThere_39 : decode cX10_isThere 39 = .ok (.if_icmp .ne 18, 3) := by decide +kernel
theorem dX10_isThere_42 : decode cX10_isThere 42 = .ok (.aload_n 0, 1) := by decide +kernel
theorem dX10_isThere_43 : decode cX10_isThere 43 = .ok (.getfield 19, 3) := by decide +kernel
theorem dX10_isThere_46 : decode cX10_isThere 46 = .ok (.iload 5, 2) := by decide +kernel
theorem dX10_isThere_48 : decode cX10_isThere 48 = .ok (.iaload, 1) := by decide +kernel
theorem dX10_isThere_49 : decode cX10_isThere 49 = .ok (.iload_n 3, 1) := by decide +kernel
theorem dX10_isThere_50 : decode cX10_isThere 50 = .ok (.if_icmp .ne 7, 3) := by decide +kernel
theorem dX10_isThere_53 : decode cX10_isThere 53 = .ok (.iconst 1, 1) := by decide +kernel
theorem dX10_isThere_54 : decode cX10_isThere 54 = .ok (.goto 4, 3) := by decide +kernel
theorem dX10_isThere_57 : decode cX10_isThere 57 = .ok (.iconst 0, 1) := by decide +kernel
theorem dX10_isThere_58 : decode cX10_isThere 58 = .ok (.istore 4, 2) := by decide +kernel
theorem dX10_isThere_60 : decode cX10_isThere 60 = .ok (.iinc 5 1, 3) := by decide +kernel
theorem dX10_isThere_63 : decode cX10_isThere 63 = .ok (.goto (-57), 3) := by decide +kernel
theorem dX10_isThere_66 : decode cX10_isThere 66 = .ok (.iload 4, 2) := by decide +kernel
theorem dX10_isThere_68 : decode cX10_isThere 68 = .ok (.ireturn, 1) := by decide +kernel
theorem dX10_isSeen_0 : decode cX10_isSeen 0 = .ok (.aload_n 0, 1) := by decide +kernel
theorem dX10_isSeen_1 : decode cX10_isSeen 1 = .ok (.getfield 22, 3) := by decide +kernel
theorem dX10_isSeen_4 : decode cX10_isSeen 4 = .ok (.iload_n 1, 1) := by decide +kernel
theorem dX10_isSeen_5 : decode cX10_isSeen 5 = .ok (.ishr, 1) := by decide +kernel
theorem dX10_isSeen_6 : decode cX10_isSeen 6 = .ok (.iconst 1, 1) := by decide +kernel
theorem dX10_isSeen_7 : decode cX10_isSeen 7 = .ok (.iand, 1) := by decide +kernel
theorem dX10_isSeen_8 : decode cX10_isSeen 8 = .ok (.iconst 1, 1) := by decide +kernel
theorem dX10_isSeen_9 : decode cX10_isSeen 9 = .ok (.if_icmp .ne 7, 3) := by decide +kernel
theorem dX10_isSeen_12 : decode cX10_isSeen 12 = .ok (.iconst 1, 1) := by decide +kernel
theorem dX10_isSeen_13 : decode cX10_isSeen 13 = .ok (.goto 4, 3) := by decide +kernel
theorem dX10_isSeen_16 : decode cX10_isSeen 16 = .ok (.iconst 0, 1) := by decide +kernel
theorem dX10_isSeen_17 : decode cX10_isSeen 17 = .ok (.ireturn, 1) := by decide +kernel
theorem dX10_isFault_0 : decode cX10_isFault 0 = .ok (.aload_n 0, 1) := by decide +kernel
theorem dX10_isFault_1 : decode cX10_isFault 1 = .ok (.getfield 73, 3) := by decide +kernel
theorem dX10_isFault_4 : decode cX10_isFault 4 = .ok (.iload_n 1, 1) := by decide +kernel
theorem dX10_isFault_5 : decode cX10_isFault 5 = .ok (.ishr, 1) := by decide +kernel
theorem dX10_isFault_6 : decode cX10_isFault 6 = .ok (.iconst 1, 1) := by decide +kernel
theorem dX10_isFault_7 : decode cX10_isFault 7 = .ok (.iand, 1) := by decide +kernel
theorem dX10_isFault_8 : decode cX10_isFault 8 = .ok (.iconst 1, 1) := by decide +kernel
theorem dX10_isFault_9 : decode cX10_isFault 9 = .ok (.if_icmp .ne 7, 3) := by decide +kernel
theorem dX10_isFault_12 : decode cX10_isFault 12 = .ok (.iconst 1, 1) := by decide +kernel
theorem dX10_isFault_13 : decode cX10_isFault 13 = .ok (.goto 4, 3) := by decide +kernel
theorem dX10_isFault_16 : decode cX10_isFault 16 = .ok (.iconst 0, 1) := by decide +kernel
theorem dX10_isFault_17 : decode cX10_isFault 17 = .ok (.ireturn, 1) := by decide +kernel
set_option maxRecDepth 20000 in
theorem ggX10_begins_X10_closed : GoodIn wsX10_begins wsX10_closed := goodIn_r _ [7, 8, 9, 10, 11, 6, 12, 13, 14, 15, 16, 17, 18, 19, 20, 21, 22, 23, 24, 25, 26, 27, 28, 29, 30, 31, 32, 33, 34, 35, 36, 37, 38, 39, 40, 41, 42, 43, 44, 45, 46] rfl (by decide +kernel)
set_option maxRecDepth 20000 in
theorem gX10_begins_X10_closed : GoodIn wsX10_begins (wsV RX10 83 RX10 yX10_closed wsX10_closed) := goodIn_app (goodIn_r _ [3, 4, 5, 6] rfl (by decide +kernel)) ggX10_begins_X10_closed
theorem dX10_begins_0 : decode cX10_begins 0 = .ok (.aload_n 0, 1) := by decide +kernel
theorem dX10_begins_1 : decode cX10_begins 1 = .ok (.aload_n 0, 1) := by decide +kernel
theorem dX10_begins_2 : decode cX10_begins 2 = .ok (.iconst 1, 1) := by decide +kernel
theorem dX10_begins_3 : decode cX10_begins 3 = .ok (.invokevirtual 83, 3) := by decide +kernel
theorem dX10_begins_6 : decode cX10_begins 6 = .ok (.putfield 26, 3) := by decide +kernel
theorem dX10_begins_9 : decode cX10_begins 9 = .ok (.aload_n 0, 1) := by decide +kernel
theorem dX10_begins_10 : decode cX10_begins 10 = .ok (.iconst 0, 1) := by decide +kernel
theorem dX10_begins_11 : decode cX10_begins 11 = .ok (.putfield 76, 3) := by decide +kernel
theorem dX10_begins_14 : decode cX10_begins 14 = .ok (.return_, 1) := by decide +kernel
theorem dX10_comesWay_0 : decode cX10_comesWay 0 = .ok (.aload_n 0, 1) := by decide +kernel
theorem dX10_comesWay_1 : decode cX10_comesWay 1 = .ok (.getfield 13, 3) := by decide +kernel
theorem dX10_comesWay_4 : decode cX10_comesWay 4 = .ok (.aload_n 0, 1) := by decide +kernel
theorem dX10_comesWay_5 : decode cX10_comesWay 5 = .ok (.getfield 70, 3) := by decide +kernel
theorem dX10_comesWay_8 : decode cX10_comesWay 8 = .ok (.iload_n 1, 1) := by decide +kernel
theorem dX10_comesWay_9 : decode cX10_comesWay 9 = .ok (.iastore, 1) := by decide +kernel
theorem dX10_comesWay_10 : decode cX10_comesWay 10 = .ok (.aload_n 0, 1) := by decide +kernel
theorem dX10_comesWay_11 : decode cX10_comesWay 11 = .ok (.getfield 16, 3) := by decide +kernel
theorem dX10_comesWay_14 : decode cX10_comesWay 14 = .ok (.aload_n 0, 1) := by decide +kernel
theorem dX10_comesWay_15 : decode cX10_comesWay 15 = .ok (.getfield 70, 3) := by decide +kernel
theorem dX10_comesWay_18 : decode cX10_comesWay 18 = .ok (.iload_n 2, 1) := by decide +kernel
theorem dX10_comesWay_19 : decode cX10_comesWay 19 = .ok (.iastore, 1) := by decide +kernel
theorem dX10_comesWay_20 : decode cX10_comesWay 20 = .ok (.aload_n 0, 1) := by decide +kernel
theorem dX10_comesWay_21 : decode cX10_comesWay 21 = .ok (.getfield 19, 3) := by decide +kernel
theorem dX10_comesWay_24 : decode cX10_comesWay 24 = .ok (.aload_n 0, 1) := by decide +kernel
theorem dX10_comesWay_25 : decode cX10_comesWay 25 = .ok (.getfield 70, 3) := by decide +kernel
theorem dX10_comesWay_28 : decode cX10_comesWay 28 = .ok (.iload_n 3, 1) := by decide +kernel
theorem dX10_comesWay_29 : decode cX10_comesWay 29 = .ok (.iastore, 1) := by decide +kernel
theorem dX10_comesWay_30 : decode cX10_comesWay 30 = .ok (.aload_n 0, 1) := by decide +kernel
theorem dX10_comesWay_31 : decode cX10_comesWay 31 = .ok (.dup, 1) := by decide +kernel
theorem dX10_comesWay_32 : decode cX10_comesWay 32 = .ok (.getfield 70, 3) := by decide +kernel
theorem dX10_comesWay_35 : decode cX10_comesWay 35 = .ok (.iconst 1, 1) := by decide +kernel
theorem dX10_comesWay_36 : decode cX10_comesWay 36 = .ok (.iadd, 1) := by decide +kernel
theorem dX10_comesWay_37 : decode cX10_comesWay 37 = .ok (.putfield 70, 3) := by decide +kernel
theorem dX10_comesWay_40 : decode cX10_comesWay 40 = .ok (.return_, 1) := by decide +kernel
set_option maxRecDepth 20000 in
theorem ggX10_way_X10_isPlace : GoodIn wsX10_way wsX10_isPlace := goodIn_r _ [5, 6, 7, 4, 8] rfl (by decide +kernel)
set_option maxRecDepth 20000 in
theorem gX10_way_X10_isPlace : GoodIn wsX10_way (va_wsS RX10 87 yX10_isPlace wsX10_isPlace) := goodIn_app (goodIn_of _ (by decide +kernel)) ggX10_way_X10_isPlace
set_option maxRecDepth 20000 in
theorem ggX10_way_X10_isDeed : GoodIn wsX10_way wsX10_isDeed := goodIn_r _ [11, 6, 7, 4, 8] rfl (by decide +kernel)
set_option maxRecDepth 20000 in
theorem gX10_way_X10_isDeed : GoodIn wsX10_way (va_wsS RX10 91 yX10_isDeed wsX10_isDeed) := goodIn_app (goodIn_of _ (by decide +kernel)) ggX10_way_X10_isDeed
set_option maxRecDepth 20000 in
theorem ggX10_way_X10_bad : GoodIn wsX10_way wsX10_bad := goodIn_r _ [15, 16, 63, 64, 65, 66, 67, 68, 69, 70, 71, 72, 73, 74, 75, 76, 77, 78, 79, 80, 81, 82, 83, 84, 85, 86, 87] rfl (by decide +kernel)
set_option maxRecDepth 20000 in
theorem gX10_way_X10_bad : GoodIn wsX10_way (wsV RX10 94 RX10 yX10_bad wsX10_bad) := goodIn_app (goodIn_r _ [12, 13, 14, 4] rfl (by decide +kernel)) ggX10_way_X10_bad
set_option maxRecDepth 20000 in
theorem ggX10_way_X10_isThere : GoodIn wsX10_way wsX10_isThere := goodIn_r _ [20, 1, 21, 22, 23, 63, 64, 65, 66, 67, 68, 69, 70, 71, 72, 73, 74, 75, 76, 77, 78, 79, 80, 81, 82, 83, 84, 85, 86, 87] rfl (by decide +kernel)
set_option maxRecDepth 20000 in
theorem gX10_way_X10_isThere : GoodIn wsX10_way (wsV RX10 97 RX10 yX10_isThere wsX10_isThere) := goodIn_app (goodIn_r _ [17, 18, 19, 4] rfl (by decide +kernel)) ggX10_way_X10_isThere
set_option maxRecDepth 20000 in
theorem ggX10_way_X10_no : GoodIn wsX10_way wsX10_no := goodIn_r _ [27, 16, 63, 64, 65, 66, 67, 68, 69, 70, 71, 72, 73, 74, 75, 76, 77, 78, 79, 80, 81, 82, 83, 84, 85, 86, 87] rfl (by decide +kernel)
set_option maxRecDepth 20000 in
theorem gX10_way_X10_no : GoodIn wsX10_way (wsV RX10 79 RX10 yX10_no wsX10_no) := goodIn_app (goodIn_r _ [24, 25, 26, 4] rfl (by decide +kernel)) ggX10_way_X10_no
set_option maxRecDepth 20000 in
theorem ggX10_way_X10_full : GoodIn wsX10_way wsX10_full := goodIn_r _ [31, 16, 63, 64, 65, 66, 67, 68, 69, 70, 71, 72, 73, 74, 75, 76, 77, 78, 79, 80, 81, 82, 83, 84, 85, 86, 87] rfl (by decide +kernel)
set_option maxRecDepth 20000 in
theorem gX10_way_X10_full : GoodIn wsX10_way (wsV RX10 100 RX10 yX10_full wsX10_full) := goodIn_app (goodIn_r _ [28, 29, 30, 4] rfl (by decide +kernel)) ggX10_way_X10_full
set_option maxRecDepth 20000 in
theorem ggX10_way_X10_leavesState : GoodIn wsX10_way wsX10_leavesState := goodIn_r _ [35, 36, 37, 1, 38, 39, 40, 41, 21, 22, 23, 42, 63, 64, 65, 66, 67, 68, 69, 70, 71, 72, 73, 74, 75, 76, 77, 78, 79, 80, 81, 82, 83, 84, 85, 86, 87] rfl (by decide +kernel)
set_option maxRecDepth 20000 in
theorem gX10_way_X10_leavesState : GoodIn wsX10_way (wsV RX10 103 RX10 yX10_leavesState wsX10_leavesState) := goodIn_app (goodIn_r _ [32, 33, 34, 4] rfl (by decide +kernel)) ggX10_way_X10_leavesState
set_option maxRecDepth 20000 in
theorem ggX10_way_X10_comesWay : GoodIn wsX10_way wsX10_comesWay := goodIn_r _ [46, 21, 1, 22, 23, 63, 64, 65, 66, 67, 68, 69, 70, 71, 72, 73, 74, 75, 76, 77, 78, 79, 80, 81, 82, 83, 84, 85, 86, 87] rfl (by decide +kernel)
set_option maxRecDepth 20000 in
theorem gX10_way_X10_comesWay : GoodIn wsX10_way (wsV RX10 106 RX10 yX10_comesWay wsX10_comesWay) := goodIn_app (goodIn_r _ [43, 44, 45, 4] rfl (by decide +kernel)) ggX10_way_X10_comesWay
set_option maxRecDepth 20000 in
theorem ggX10_way_X10_begins : GoodIn wsX10_way wsX10_begins := goodIn_r _ [50, 40, 41, 51, 52, 53, 4, 54, 38, 55, 56, 57, 58, 1, 22, 21, 23, 59, 60, 61, 62, 39, 63, 64, 65, 66, 67, 68, 69, 70, 71, 72, 73, 74, 75, 76, 77, 78, 79, 80, 81, 82, 83, 84, 85, 86, 87] rfl (by decide +kernel)
set_option maxRecDepth 20000 in
theorem gX10_way_X10_begins : GoodIn wsX10_way (wsV RX10 110 RX10 yX10_begins wsX10_begins) := goodIn_app (goodIn_r _ [47, 48, 49, 4] rfl (by decide +kernel)) ggX10_way_X10_begins
theorem dX10_way_0 : decode cX10_way 0 = .ok (.iload_n 1, 1) := by decide +kernel
theorem dX10_way_1 : decode cX10_way 1 = .ok (.invokestatic 87, 3) := by decide +kernel
theorem dX10_way_4 : decode cX10_way 4 = .ok (.ifCond .eq 17, 3) := by decide +kernel
theorem dX10_way_7 : decode cX10_way 7 = .ok (.iload_n 2, 1) := by decide +kernel
theorem dX10_way_8 : decode cX10_way 8 = .ok (.invokestatic 91, 3) := by decide +kernel
theorem dX10_way_11 : decode cX10_way 11 = .ok (.ifCond .eq 10, 3) := by decide +kernel
theorem dX10_way_14 : decode cX10_way 14 = .ok (.iload_n 3, 1) := by decide +kernel
theorem dX10_way_15 : decode cX10_way 15 = .ok (.invokestatic 87, 3) := by decide +kernel
theorem dX10_way_18 : decode cX10_way 18 = .ok (.ifCond .ne 8, 3) := by decide +kernel
theorem dX10_way_21 : decode cX10_way 21 = .ok (.aload_n 0, 1) := by decide +kernel
theorem dX10_way_22 : decode cX10_way 22 = .ok (.invokevirtual 94, 3) := by decide +kernel
theorem dX10_way_25 : decode cX10_way 25 = .ok (.ireturn, 1) := by decide +kernel
theorem dX10_way_26 : decode cX10_way 26 = .ok (.aload_n 0, 1) := by decide +kernel
theorem dX10_way_27 : decode cX10_way 27 = .ok (.iload_n 1, 1) := by decide +kernel
theorem dX10_way_28 : decode cX10_way 28 = .ok (.iload_n 2, 1) := by decide +kernel
theorem dX10_way_29 : decode cX10_way 29 = .ok (.iload_n 3, 1) := by decide +kernel
theorem dX10_way_30 : decode cX10_way 30 = .ok (.invokevirtual 97, 3) := by decide +kernel
theorem dX10_way_33 : decode cX10_way 33 = .ok (.ifCond .eq 8, 3) := by decide +kernel
theorem dX10_way_36 : decode cX10_way 36 = .ok (.aload_n 0, 1) := by decide +kernel
theorem dX10_way_37 : decode cX10_way 37 = .ok (.invokevirtual 79, 3) := by decide +kernel
theorem dX10_way_40 : decode cX10_way 40 = .ok (.ireturn, 1) := by decide +kernel
theorem dX10_way_41 : decode cX10_way 41 = .ok (.aload_n 0, 1) := by decide +kernel
theorem dX10_way_42 : decode cX10_way 42 = .ok (.getfield 70, 3) := by decide +kernel
theorem dX10_way_45 : decode cX10_way 45 = .ok (.bipush 24, 2) := by decide +kernel
theorem dX10_way_47 : decode cX10_way 47 = .ok (.if_icmp .ne 8, 3) := by decide +kernel
theorem dX10_way_50 : decode cX10_way 50 = .ok (.aload_n 0, 1) := by decide +kernel
theorem dX10_way_51 : decode cX10_way 51 = .ok (.invokevirtual 100, 3) := by decide +kernel
theorem dX10_way_54 : decode cX10_way 54 = .ok (.ireturn, 1) := by decide +kernel
theorem dX10_way_55 : decode cX10_way 55 = .ok (.aload_n 0, 1) := by decide +kernel
theorem dX10_way_56 : decode cX10_way 56 = .ok (.invokevirtual 103, 3) := by decide +kernel
theorem dX10_way_59 : decode cX10_way 59 = .ok (.aload_n 0, 1) := by decide +kernel
theorem dX10_way_60 : decode cX10_way 60 = .ok (.iload_n 1, 1) := by decide +kernel
theorem dX10_way_61 : decode cX10_way 61 = .ok (.iload_n 2, 1) := by decide +kernel
theorem dX10_way_62 : decode cX10_way 62 = .ok (.iload_n 3, 1) := by decide +kernel
theorem dX10_way_63 : decode cX10_way 63 = .ok (.invokevirtual 106, 3) := by decide +kernel
theorem dX10_way_66 : decode cX10_way 66 = .ok (.aload_n 0, 1) := by decide +kernel
theorem dX10_way_67 : decode cX10_way 67 = .ok (.invokevirtual 110, 3) := by decide +kernel
theorem dX10_way_70 : decode cX10_way 70 = .ok (.aload_n 0, 1) := by decide +kernel
theorem dX10_way_71 : decode cX10_way 71 = .ok (.getfield 70, 3) := by decide +kernel
theorem dX10_way_74 : decode cX10_way 74 = .ok (.iconst 1, 1) := by decide +kernel
theorem dX10_way_75 : decode cX10_way 75 = .ok (.isub, 1) := by decide +kernel
theorem dX10_way_76 : decode cX10_way 76 = .ok (.ireturn, 1) := by decide +kernel
set_option maxRecDepth 20000 in
theorem ggX10_drop_X10_in : GoodIn wsX10_drop wsX10_in := goodIn_r _ [8] rfl (by decide +kernel)
set_option maxRecDepth 20000 in
theorem gX10_drop_X10_in : GoodIn wsX10_drop (va_wsS RX10 63 yX10_in wsX10_in) := goodIn_app (goodIn_of _ (by decide +kernel)) ggX10_drop_X10_in
set_option maxRecDepth 20000 in
theorem ggX10_drop_X10_bad : GoodIn wsX10_drop wsX10_bad := goodIn_r _ [12, 13, 41, 42, 43, 44, 45, 46, 47, 48, 49, 50, 51, 52, 53, 54, 55, 56, 57, 58, 59, 60, 61, 62, 63, 64, 65] rfl (by decide +kernel)
set_option maxRecDepth 20000 in
theorem gX10_drop_X10_bad : GoodIn wsX10_drop (wsV RX10 94 RX10 yX10_bad wsX10_bad) := goodIn_app (goodIn_r _ [9, 10, 11, 7] rfl (by decide +kernel)) ggX10_drop_X10_bad
set_option maxRecDepth 20000 in
theorem ggX10_drop_X10_leavesState : GoodIn wsX10_drop wsX10_leavesState := goodIn_r _ [17, 18, 19, 1, 20, 21, 22, 23, 2, 3, 4, 24, 41, 42, 43, 44, 45, 46, 47, 48, 49, 50, 51, 52, 53, 54, 55, 56, 57, 58, 59, 60, 61, 62, 63, 64, 65] rfl (by decide +kernel)
set_option maxRecDepth 20000 in
theorem gX10_drop_X10_leavesState : GoodIn wsX10_drop (wsV RX10 103 RX10 yX10_leavesState wsX10_leavesState) := goodIn_app (goodIn_r _ [14, 15, 16, 7] rfl (by decide +kernel)) ggX10_drop_X10_leavesState
set_option maxRecDepth 20000 in
theorem ggX10_drop_X10_begins : GoodIn wsX10_drop wsX10_begins := goodIn_r _ [28, 22, 23, 29, 30, 31, 7, 32, 20, 33, 34, 35, 36, 1, 3, 2, 4, 37, 38, 39, 40, 21, 41, 42, 43, 44, 45, 46, 47, 48, 49, 50, 51, 52, 53, 54, 55, 56, 57, 58, 59, 60, 61, 62, 63, 64, 65] rfl (by decide +kernel)
set_option maxRecDepth 20000 in
theorem gX10_drop_X10_begins : GoodIn wsX10_drop (wsV RX10 110 RX10 yX10_begins wsX10_begins) := goodIn_app (goodIn_r _ [25, 26, 27, 7] rfl (by decide +kernel)) ggX10_drop_X10_begins
theorem dX10_drop_0 : decode cX10_drop 0 = .ok (.iload_n 1, 1) := by decide +kernel
theorem dX10_drop_1 : decode cX10_drop 1 = .ok (.iconst 0, 1) := by decide +kernel
theorem dX10_drop_2 : decode cX10_drop 2 = .ok (.aload_n 0, 1) := by decide +kernel
theorem dX10_drop_3 : decode cX10_drop 3 = .ok (.getfield 70, 3) := by decide +kernel
theorem dX10_drop_6 : decode cX10_drop 6 = .ok (.iconst 1, 1) := by decide +kernel
theorem dX10_drop_7 : decode cX10_drop 7 = .ok (.isub, 1) := by decide +kernel
theorem dX10_drop_8 : decode cX10_drop 8 = .ok (.invokestatic 63, 3) := by decide +kernel
theorem dX10_drop_11 : decode cX10_drop 11 = .ok (.ifCond .ne 8, 3) := by decide +kernel
theorem dX10_drop_14 : decode cX10_drop 14 = .ok (.aload_n 0, 1) := by decide +kernel
theorem dX10_drop_15 : decode cX10_drop 15 = .ok (.invokevirtual 94, 3) := by decide +kernel
theorem dX10_drop_18 : decode cX10_drop 18 = .ok (.ireturn, 1) := by decide +kernel
theorem dX10_drop_19 : decode cX10_drop 19 = .ok (.aload_n 0, 1) := by decide +kernel
theorem dX10_drop_20 : decode cX10_drop 20 = .ok (.invokevirtual 103, 3) := by decide +kernel
theorem dX10_drop_23 : decode cX10_drop 23 = .ok (.aload_n 0, 1) := by decide +kernel
theorem dX10_drop_24 : decode cX10_drop 24 = .ok (.dup, 1) := by decide +kernel
theorem dX10_drop_25 : decode cX10_drop 25 = .ok (.getfield 70, 3) := by decide +kernel
theorem dX10_drop_28 : decode cX10_drop 28 = .ok (.iconst 1, 1) := by decide +kernel
theorem dX10_drop_29 : decode cX10_drop 29 = .ok (.isub, 1) := by decide +kernel
theorem dX10_drop_30 : decode cX10_drop 30 = .ok (.putfield 70, 3) := by decide +kernel
theorem dX10_drop_33 : decode cX10_drop 33 = .ok (.iload_n 1, 1) := by decide +kernel
theorem dX10_drop_34 : decode cX10_drop 34 = .ok (.istore_n 2, 1) := by decide +kernel
theorem dX10_drop_35 : decode cX10_drop 35 = .ok (.iload_n 2, 1) := by decide +kernel
theorem dX10_drop_36 : decode cX10_drop 36 = .ok (.aload_n 0, 1) := by decide +kernel
theorem dX10_drop_37 : decode cX10_drop 37 = .ok (.getfield 70, 3) := by decide +kernel
theorem dX10_drop_40 : decode cX10_drop 40 = .ok (.if_icmp .ge 51, 3) := by decide +kernel
theorem dX10_drop_43 : decode cX10_drop 43 = .ok (.aload_n 0, 1) := by decide +kernel
theorem dX10_drop_44 : decode cX10_drop 44 = .ok (.getfield 13, 3) := by decide +kernel
theorem dX10_drop_47 : decode cX10_drop 47 = .ok (.iload_n 2, 1) := by decide +kernel
theorem dX10_drop_48 : decode cX10_drop 48 = .ok (.aload_n 0, 1) := by decide +kernel
theorem dX10_drop_49 : decode cX10_drop 49 = .ok (.getfield 13, 3) := by decide +kernel
theorem dX10_drop_52 : decode cX10_drop 52 = .ok (.iload_n 2, 1) := by decide +kernel
theorem dX10_drop_53 : decode cX10_drop 53 = .ok (.iconst 1, 1) := by decide +kernel
theorem dX10_drop_54 : decode cX10_drop 54 = .ok (.iadd, 1) := by decide +kernel
theorem dX10_drop_55 : decode cX10_drop 55 = .ok (.iaload, 1) := by decide +kernel
theorem dX10_drop_56 : decode cX10_drop 56 = .ok (.iastore, 1) := by decide +kernel
theorem dX10_drop_57 : decode cX10_drop 57 = .ok (.aload_n 0, 1) := by decide +kernel
theorem dX10_drop_58 : decode cX10_drop 58 = .ok (.getfield 16, 3) := by decide +kernel
theorem dX10_drop_61 : decode cX10_drop 61 = .ok (.iload_n 2, 1) := by decide +kernel
theorem dX10_drop_62 : decode cX10_drop 62 = .ok (.aload_n 0, 1) := by decide +kernel
theorem dX10_drop_63 : decode cX10_drop 63 = .ok (.getfield 16, 3) := by decide +kernel
theorem dX10_drop_66 : decode cX10_drop 66 = .ok (.iload_n 2, 1) := by decide +kernel
theorem dX10_drop_67 : decode cX10_drop 67 = .ok (.iconst 1, 1) := by decide +kernel
theorem dX10_drop_68 : decode cX10_drop 68 = .ok (.iadd, 1) := by decide +kernel
theorem dX10_drop_69 : decode cX10_drop 69 = .ok (.iaload, 1) := by decide +kernel
theorem dX10_drop_70 : decode cX10_drop 70 = .ok (.iastore, 1) := by decide +kernel
theorem dX10_drop_71 : decode cX10_drop 71 = .ok (.aload_n 0, 1) := by decide +kernel
theorem dX10_drop_72 : decode cX10_drop 72 = .ok (.getfield 19, 3) := by decide +kernel
theorem dX10_drop_75 : decode cX10_drop 75 = .ok (.iload_n 2, 1) := by decide +kernel
theorem dX10_drop_76 : decode cX10_drop 76 = .ok (.aload_n 0, 1) := by decide +kernel
theorem dX10_drop_77 : decode cX10_drop 77 = .ok (.getfield 19, 3) := by decide +kernel
theorem dX10_drop_80 : decode cX10_drop 80 = .ok (.iload_n 2, 1) := by decide +kernel
theorem dX10_drop_81 : decode cX10_drop 81 = .ok (.iconst 1, 1) := by decide +kernel
theorem dX10_drop_82 : decode cX10_drop 82 = .ok (.iadd, 1) := by decide +kernel
theorem dX10_drop_83 : decode cX10_drop 83 = .ok (.iaload, 1) := by decide +kernel
theorem dX10_drop_84 : decode cX10_drop 84 = .ok (.iastore, 1) := by decide +kernel
theorem dX10_drop_85 : decode cX10_drop 85 = .ok (.iinc 2 1, 3) := by decide +kernel
theorem dX10_drop_88 : decode cX10_drop 88 = .ok (.goto (-53), 3) := by decide +kernel
theorem dX10_drop_91 : decode cX10_drop 91 = .ok (.aload_n 0, 1) := by decide +kernel
theorem dX10_drop_92 : decode cX10_drop 92 = .ok (.invokevirtual 110, 3) := by decide +kernel
theorem dX10_drop_95 : decode cX10_drop 95 = .ok (.aload_n 0, 1) := by decide +kernel
theorem dX10_drop_96 : decode cX10_drop 96 = .ok (.getfield 70, 3) := by decide +kernel
theorem dX10_drop_99 : decode cX10_drop 99 = .ok (.ireturn, 1) := by decide +kernel
theorem dX10_changed_0 : decode cX10_changed 0 = .ok (.iload_n 2, 1) := by decide +kernel
theorem dX10_changed_1 : decode cX10_changed 1 = .ok (.iconst 1, 1) := by decide +kernel
theorem dX10_changed_2 : decode cX10_changed 2 = .ok (.if_icmp .ne 11, 3) := by decide +kernel
theorem dX10_changed_5 : decode cX10_changed 5 = .ok (.iload_n 0, 1) := by decide +kernel
theorem dX10_changed_6 : decode cX10_changed 6 = .ok (.iconst 1, 1) := by decide +kernel
theorem dX10_changed_7 : decode cX10_changed 7 = .ok (.iload_n 1, 1) := by decide +kernel
theorem dX10_changed_8 : decode cX10_changed 8 = .ok (.ishl, 1) := by decide +kernel
theorem dX10_changed_9 : decode cX10_changed 9 = .ok (.ior, 1) := by decide +kernel
theorem dX10_changed_10 : decode cX10_changed 10 = .ok (.goto 10, 3) := by decide +kernel
theorem dX10_changed_13 : decode cX10_changed 13 = .ok (.iload_n 0, 1) := by decide +kernel
theorem dX10_changed_14 : decode cX10_changed 14 = .ok (.iconst 1, 1) := by decide +kernel
theorem dX10_changed_15 : decode cX10_changed 15 = .ok (.iload_n 1, 1) := by decide +kernel
theorem dX10_changed_16 : decode cX10_changed 16 = .ok (.ishl, 1) := by decide +kernel
theorem dX10_changed_17 : decode cX10_changed 17 = .ok (.iconst (-1), 1) := by decide +kernel
theorem dX10_changed_18 : decode cX10_changed 18 = .ok (.ixor, 1) := by decide +kernel
theorem dX10_changed_19 : decode cX10_changed 19 = .ok (.iand, 1) := by decide +kernel
theorem dX10_changed_20 : decode cX10_changed 20 = .ok (.ireturn, 1) := by decide +kernel
set_option maxRecDepth 20000 in
theorem ggX10_deed_X10_isDeed : GoodIn wsX10_deed wsX10_isDeed := goodIn_r _ [6, 7, 8, 5, 9] rfl (by decide +kernel)
set_option maxRecDepth 20000 in
theorem gX10_deed_X10_isDeed : GoodIn wsX10_deed (va_wsS RX10 91 yX10_isDeed wsX10_isDeed) := goodIn_app (goodIn_of _ (by decide +kernel)) ggX10_deed_X10_isDeed
set_option maxRecDepth 20000 in
theorem ggX10_deed_X10_in : GoodIn wsX10_deed wsX10_in := goodIn_r _ [9] rfl (by decide +kernel)
set_option maxRecDepth 20000 in
theorem gX10_deed_X10_in : GoodIn wsX10_deed (va_wsS RX10 63 yX10_in wsX10_in) := goodIn_app (goodIn_of _ (by decide +kernel)) ggX10_deed_X10_in
set_option maxRecDepth 20000 in
theorem ggX10_deed_X10_bad : GoodIn wsX10_deed wsX10_bad := goodIn_r _ [13, 14, 47, 48, 49, 50, 51, 52, 53, 54, 55, 56, 57, 58, 59, 60, 61, 62, 63, 64, 65, 66, 67, 68, 69, 70, 71] rfl (by decide +kernel)
set_option maxRecDepth 20000 in
theorem gX10_deed_X10_bad : GoodIn wsX10_deed (wsV RX10 94 RX10 yX10_bad wsX10_bad) := goodIn_app (goodIn_r _ [10, 11, 12, 5] rfl (by decide +kernel)) ggX10_deed_X10_bad
set_option maxRecDepth 20000 in
theorem ggX10_deed_X10_leavesState : GoodIn wsX10_deed wsX10_leavesState := goodIn_r _ [18, 19, 20, 21, 1, 2, 22, 23, 24, 25, 26, 27, 47, 48, 49, 50, 51, 52, 53, 54, 55, 56, 57, 58, 59, 60, 61, 62, 63, 64, 65, 66, 67, 68, 69, 70, 71] rfl (by decide +kernel)
set_option maxRecDepth 20000 in
theorem gX10_deed_X10_leavesState : GoodIn wsX10_deed (wsV RX10 103 RX10 yX10_leavesState wsX10_leavesState) := goodIn_app (goodIn_r _ [15, 16, 17, 5] rfl (by decide +kernel)) ggX10_deed_X10_leavesState
set_option maxRecDepth 20000 in
theorem ggX10_deed_X10_changed : GoodIn wsX10_deed wsX10_changed := goodIn_r _ [30] rfl (by decide +kernel)
set_option maxRecDepth 20000 in
theorem gX10_deed_X10_changed : GoodIn wsX10_deed (va_wsS RX10 113 yX10_changed wsX10_changed) := goodIn_app (goodIn_of _ (by decide +kernel)) ggX10_deed_X10_changed
set_option maxRecDepth 20000 in
theorem ggX10_deed_X10_begins : GoodIn wsX10_deed wsX10_begins := goodIn_r _ [34, 22, 23, 35, 36, 37, 5, 38, 1, 39, 40, 41, 42, 21, 25, 24, 26, 43, 44, 45, 46, 2, 47, 48, 49, 50, 51, 52, 53, 54, 55, 56, 57, 58, 59, 60, 61, 62, 63, 64, 65, 66, 67, 68, 69, 70, 71] rfl (by decide +kernel)
set_option maxRecDepth 20000 in
theorem gX10_deed_X10_begins : GoodIn wsX10_deed (wsV RX10 110 RX10 yX10_begins wsX10_begins) := goodIn_app (goodIn_r _ [31, 32, 33, 5] rfl (by decide +kernel)) ggX10_deed_X10_begins
theorem dX10_deed_0 : decode cX10_deed 0 = .ok (.iload_n 1, 1) := by decide +kernel
theorem dX10_deed_1 : decode cX10_deed 1 = .ok (.invokestatic 91, 3) := by decide +kernel
theorem dX10_deed_4 : decode cX10_deed 4 = .ok (.ifCond .eq 21, 3) := by decide +kernel
theorem dX10_deed_7 : decode cX10_deed 7 = .ok (.iload_n 2, 1) := by decide +kernel
theorem dX10_deed_8 : decode cX10_deed 8 = .ok (.iconst 0, 1) := by decide +kernel
theorem dX10_deed_9 : decode cX10_deed 9 = .ok (.iconst 1, 1) := by decide +kernel
theorem dX10_deed_10 : decode cX10_deed 10 = .ok (.invokestatic 63, 3) := by decide +kernel
theorem dX10_deed_13 : decode cX10_deed 13 = .ok (.ifCond .eq 12, 3) := by decide +kernel
theorem dX10_deed_16 : decode cX10_deed 16 = .ok (.iload_n 3, 1) := by decide +kernel
theorem dX10_deed_17 : decode cX10_deed 17 = .ok (.iconst 0, 1) := by decide +kernel
theorem dX10_deed_18 : decode cX10_deed 18 = .ok (.iconst 1, 1) := by decide +kernel
theorem dX10_deed_19 : decode cX10_deed 19 = .ok (.invokestatic 63, 3) := by decide +kernel
theorem dX10_deed_22 : decode cX10_deed 22 = .ok (.ifCond .ne 8, 3) := by decide +kernel
theorem dX10_deed_25 : decode cX10_deed 25 = .ok (.aload_n 0, 1) := by decide +kernel
theorem dX10_deed_26 : decode cX10_deed 26 = .ok (.invokevirtual 94, 3) := by decide +kernel
theorem dX10_deed_29 : decode cX10_deed 29 = .ok (.ireturn, 1) := by decide +kernel
theorem dX10_deed_30 : decode cX10_deed 30 = .ok (.aload_n 0, 1) := by decide +kernel
theorem dX10_deed_31 : decode cX10_deed 31 = .ok (.invokevirtual 103, 3) := by decide +kernel
theorem dX10_deed_34 : decode cX10_deed 34 = .ok (.iload_n 2, 1) := by decide +kernel
theorem dX10_deed_35 : decode cX10_deed 35 = .ok (.ifCond .ne 10, 3) := by decide +kernel
theorem dX10_deed_38 : decode cX10_deed 38 = .ok (.aload_n 0, 1) := by decide +kernel
theorem dX10_deed_39 : decode cX10_deed 39 = .ok (.getfield 22, 3) := by decide +kernel
theorem dX10_deed_42 : decode cX10_deed 42 = .ok (.goto 7, 3) := by decide +kernel
theorem dX10_deed_45 : decode cX10_deed 45 = .ok (.aload_n 0, 1) := by decide +kernel
theorem dX10_deed_46 : decode cX10_deed 46 = .ok (.getfield 73, 3) := by decide +kernel
theorem dX10_deed_49 : decode cX10_deed 49 = .ok (.iload_n 1, 1) := by decide +kernel
theorem dX10_deed_50 : decode cX10_deed 50 = .ok (.ishr, 1) := by decide +kernel
theorem dX10_deed_51 : decode cX10_deed 51 = .ok (.iconst 1, 1) := by decide +kernel
theorem dX10_deed_52 : decode cX10_deed 52 = .ok (.iand, 1) := by decide +kernel
theorem dX10_deed_53 : decode cX10_deed 53 = .ok (.istore 4, 2) := by decide +kernel
theorem dX10_deed_55 : decode cX10_deed 55 = .ok (.aload_n 0, 1) := by decide +kernel
theorem dX10_deed_56 : decode cX10_deed 56 = .ok (.iload_n 2, 1) := by decide +kernel
theorem dX10_deed_57 : decode cX10_deed 57 = .ok (.ifCond .ne 15, 3) := by decide +kernel
theorem dX10_deed_60 : decode cX10_deed 60 = .ok (.aload_n 0, 1) := by decide +kernel
theorem dX10_deed_61 : decode cX10_deed 61 = .ok (.getfield 22, 3) := by decide +kernel
theorem dX10_deed_64 : decode cX10_deed 64 = .ok (.iload_n 1, 1) := by decide +kernel
theorem dX10_deed_65 : decode cX10_deed 65 = .ok (.iload_n 3, 1) := by decide +kernel
theorem dX10_deed_66 : decode cX10_deed 66 = .ok (.invokestatic 113, 3) := by decide +kernel
theorem dX10_deed_69 : decode cX10_deed 69 = .ok (.goto 7, 3) := by decide +kernel
theorem dX10_deed_72 : decode cX10_deed 72 = .ok (.aload_n 0, 1) := by decide +kernel
theorem dX10_deed_73 : decode cX10_deed 73 = .ok (.getfield 22, 3) := by decide +kernel
theorem dX10_deed_76 : decode cX10_deed 76 = .ok (.putfield 22, 3) := by decide +kernel
theorem dX10_deed_79 : decode cX10_deed 79 = .ok (.aload_n 0, 1) := by decide +kernel
theorem dX10_deed_80 : decode cX10_deed 80 = .ok (.iload_n 2, 1) := by decide +kernel
theorem dX10_deed_81 : decode cX10_deed 81 = .ok (.iconst 1, 1) := by decide +kernel
theorem dX10_deed_82 : decode cX10_deed 82 = .ok (.if_icmp .ne 15, 3) := by decide +kernel
theorem dX10_deed_85 : decode cX10_deed 85 = .ok (.aload_n 0, 1) := by decide +kernel
theorem dX10_deed_86 : decode cX10_deed 86 = .ok (.getfield 73, 3) := by decide +kernel
theorem dX10_deed_89 : decode cX10_deed 89 = .ok (.iload_n 1, 1) := by decide +kernel
theorem dX10_deed_90 : decode cX10_deed 90 = .ok (.iload_n 3, 1) := by decide +kernel
theorem dX10_deed_91 : decode cX10_deed 91 = .ok (.invokestatic 113, 3) := by decide +kernel
theorem dX10_deed_94 : decode cX10_deed 94 = .ok (.goto 7, 3) := by decide +kernel
theorem dX10_deed_97 : decode cX10_deed 97 = .ok (.aload_n 0, 1) := by decide +kernel
theorem dX10_deed_98 : decode cX10_deed 98 = .ok (.getfield 73, 3) := by decide +kernel
theorem dX10_deed_101 : decode cX10_deed 101 = .ok (.putfield 73, 3) := by decide +kernel
theorem dX10_deed_104 : decode cX10_deed 104 = .ok (.aload_n 0, 1) := by decide +kernel
theorem dX10_deed_105 : decode cX10_deed 105 = .ok (.invokevirtual 110, 3) := by decide +kernel
theorem dX10_deed_108 : decode cX10_deed 108 = .ok (.iload 4, 2) := by decide +kernel
theorem dX10_deed_110 : decode cX10_deed 110 = .ok (.ireturn, 1) := by decide +kernel
set_option maxRecDepth 20000 in
theorem ggX10_draw_X10_in : GoodIn wsX10_draw wsX10_in := goodIn_r _ [14] rfl (by decide +kernel)
set_option maxRecDepth 20000 in
theorem gX10_draw_X10_in : GoodIn wsX10_draw (va_wsS RX10 63 yX10_in wsX10_in) := goodIn_app (goodIn_of _ (by decide +kernel)) ggX10_draw_X10_in
set_option maxRecDepth 20000 in
theorem ggX10_draw_X10_bad : GoodIn wsX10_draw wsX10_bad := goodIn_r _ [18, 19, 58, 59, 60, 61, 62, 63, 64, 65, 66, 67, 68, 69, 70, 71, 72, 73, 74, 75, 76, 77, 78, 79, 80, 81, 82] rfl (by decide +kernel)
set_option maxRecDepth 20000 in
theorem gX10_draw_X10_bad : GoodIn wsX10_draw (wsV RX10 94 RX10 yX10_bad wsX10_bad) := goodIn_app (goodIn_r _ [15, 16, 17, 13] rfl (by decide +kernel)) ggX10_draw_X10_bad
set_option maxRecDepth 20000 in
theorem ggX10_draw_X10_leavesState : GoodIn wsX10_draw wsX10_leavesState := goodIn_r _ [23, 24, 25, 2, 26, 27, 28, 29, 30, 31, 32, 33, 58, 59, 60, 61, 62, 63, 64, 65, 66, 67, 68, 69, 70, 71, 72, 73, 74, 75, 76, 77, 78, 79, 80, 81, 82] rfl (by decide +kernel)
set_option maxRecDepth 20000 in
theorem gX10_draw_X10_leavesState : GoodIn wsX10_draw (wsV RX10 103 RX10 yX10_leavesState wsX10_leavesState) := goodIn_app (goodIn_r _ [20, 21, 22, 13] rfl (by decide +kernel)) ggX10_draw_X10_leavesState
set_option maxRecDepth 20000 in
theorem ggX10_draw_X10_isThere : GoodIn wsX10_draw wsX10_isThere := goodIn_r _ [37, 2, 30, 31, 32, 58, 59, 60, 61, 62, 63, 64, 65, 66, 67, 68, 69, 70, 71, 72, 73, 74, 75, 76, 77, 78, 79, 80, 81, 82] rfl (by decide +kernel)
set_option maxRecDepth 20000 in
theorem gX10_draw_X10_isThere : GoodIn wsX10_draw (wsV RX10 97 RX10 yX10_isThere wsX10_isThere) := goodIn_app (goodIn_r _ [34, 35, 36, 13] rfl (by decide +kernel)) ggX10_draw_X10_isThere
set_option maxRecDepth 20000 in
theorem ggX10_draw_X10_comesWay : GoodIn wsX10_draw wsX10_comesWay := goodIn_r _ [41, 30, 2, 31, 32, 58, 59, 60, 61, 62, 63, 64, 65, 66, 67, 68, 69, 70, 71, 72, 73, 74, 75, 76, 77, 78, 79, 80, 81, 82] rfl (by decide +kernel)
set_option maxRecDepth 20000 in
theorem gX10_draw_X10_comesWay : GoodIn wsX10_draw (wsV RX10 106 RX10 yX10_comesWay wsX10_comesWay) := goodIn_app (goodIn_r _ [38, 39, 40, 13] rfl (by decide +kernel)) ggX10_draw_X10_comesWay
set_option maxRecDepth 20000 in
theorem ggX10_draw_X10_begins : GoodIn wsX10_draw wsX10_begins := goodIn_r _ [45, 28, 29, 46, 47, 48, 13, 49, 26, 50, 51, 52, 53, 2, 31, 30, 32, 54, 55, 56, 57, 27, 58, 59, 60, 61, 62, 63, 64, 65, 66, 67, 68, 69, 70, 71, 72, 73, 74, 75, 76, 77, 78, 79, 80, 81, 82] rfl (by decide +kernel)
set_option maxRecDepth 20000 in
theorem gX10_draw_X10_begins : GoodIn wsX10_draw (wsV RX10 110 RX10 yX10_begins wsX10_begins) := goodIn_app (goodIn_r _ [42, 43, 44, 13] rfl (by decide +kernel)) ggX10_draw_X10_begins
theorem dX10_draw_0 : decode cX10_draw 0 = .ok (.iload_n 1, 1) := by decide +kernel
theorem dX10_draw_1 : decode cX10_draw 1 = .ok (.iconst 0, 1) := by decide +kernel
theorem dX10_draw_2 : decode cX10_draw 2 = .ok (.ldc 117, 2) := by decide +kernel
theorem dX10_draw_4 : decode cX10_draw 4 = .ok (.invokestatic 63, 3) := by decide +kernel
theorem dX10_draw_7 : decode cX10_draw 7 = .ok (.ifCond .eq 13, 3) := by decide +kernel
theorem dX10_draw_10 : decode cX10_draw 10 = .ok (.iload_n 2, 1) := by decide +kernel
theorem dX10_draw_11 : decode cX10_draw 11 = .ok (.iconst 1, 1) := by decide +kernel
theorem dX10_draw_12 : decode cX10_draw 12 = .ok (.bipush 24, 2) := by decide +kernel
theorem dX10_draw_14 : decode cX10_draw 14 = .ok (.invokestatic 63, 3) := by decide +kernel
theorem dX10_draw_17 : decode cX10_draw 17 = .ok (.ifCond .ne 8, 3) := by decide +kernel
theorem dX10_draw_20 : decode cX10_draw 20 = .ok (.aload_n 0, 1) := by decide +kernel
theorem dX10_draw_21 : decode cX10_draw 21 = .ok (.invokevirtual 94, 3) := by decide +kernel
theorem dX10_draw_24 : decode cX10_draw 24 = .ok (.ireturn, 1) := by decide +kernel
theorem dX10_draw_25 : decode cX10_draw 25 = .ok (.aload_n 0, 1) := by decide +kernel
theorem dX10_draw_26 : decode cX10_draw 26 = .ok (.invokevirtual 103, 3) := by decide +kernel
theorem dX10_draw_29 : decode cX10_draw 29 = .ok (.aload_n 0, 1) := by decide +kernel
theorem dX10_draw_30 : decode cX10_draw 30 = .ok (.iconst 0, 1) := by decide +kernel
theorem dX10_draw_31 : decode cX10_draw 31 = .ok (.putfield 70, 3) := by decide +kernel
theorem dX10_draw_34 : decode cX10_draw 34 = .ok (.iload_n 1, 1) := by decide +kernel
theorem dX10_draw_35 : decode cX10_draw 35 = .ok (.i2l, 1) := by decide +kernel
theorem dX10_draw_36 : decode cX10_draw 36 = .ok (.lstore_n 3, 1) := by decide +kernel
theorem dX10_draw_37 : decode cX10_draw 37 = .ok (.iconst 0, 1) := by decide +kernel
theorem dX10_draw_38 : decode cX10_draw 38 = .ok (.istore 5, 2) := by decide +kernel
theorem dX10_draw_40 : decode cX10_draw 40 = .ok (.iload 5, 2) := by decide +kernel
theorem dX10_draw_42 : decode cX10_draw 42 = .ok (.iload_n 2, 1) := by decide +kernel
theorem dX10_draw_43 : decode cX10_draw 43 = .ok (.if_icmp .ge 82, 3) := by decide +kernel
theorem dX10_draw_46 : decode cX10_draw 46 = .ok (.lload_n 3, 1) := by decide +kernel
theorem dX10_draw_47 : decode cX10_draw 47 = .ok (.ldc2_w 118, 3) := by decide +kernel
theorem dX10_draw_50 : decode cX10_draw 50 = .ok (.lmul, 1) := by decide +kernel
theorem dX10_draw_51 : decode cX10_draw 51 = .ok (.ldc2_w 120, 3) := by decide +kernel
theorem dX10_draw_54 : decode cX10_draw 54 = .ok (.ladd, 1) := by decide +kernel
theorem dX10_draw_55 : decode cX10_draw 55 = .ok (.ldc2_w 122, 3) := by decide +kernel
theorem dX10_draw_58 : decode cX10_draw 58 = .ok (.lrem, 1) := by decide +kernel
theorem dX10_draw_59 : decode cX10_draw 59 = .ok (.lstore_n 3, 1) := by decide +kernel
theorem dX10_draw_60 : decode cX10_draw 60 = .ok (.lload_n 3, 1) := by decide +kernel
theorem dX10_draw_61 : decode cX10_draw 61 = .ok (.ldc2_w 124, 3) := by decide +kernel
theorem dX10_draw_64 : decode cX10_draw 64 = .ok (.ldiv, 1) := by decide +kernel
theorem dX10_draw_65 : decode cX10_draw 65 = .ok (.ldc2_w 126, 3) := by decide +kernel
theorem dX10_draw_68 : decode cX10_draw 68 = .ok (.lrem, 1) := by decide +kernel
theorem dX10_draw_69 : decode cX10_draw 69 = .ok (.l2i, 1) := by decide +kernel
theorem dX10_draw_70 : decode cX10_draw 70 = .ok (.istore 6, 2) := by decide +kernel
theorem dX10_draw_72 : decode cX10_draw 72 = .ok (.lload_n 3, 1) := by decide +kernel
theorem dX10_draw_73 : decode cX10_draw 73 = .ok (.ldc2_w 128, 3) := by decide +kernel
theorem dX10_draw_76 : decode cX10_draw 76 = .ok (.ldiv, 1) := by decide +kernel
theorem dX10_draw_77 : decode cX10_draw 77 = .ok (.ldc2_w 130, 3) := by decide +kernel
theorem dX10_draw_80 : decode cX10_draw 80 = .ok (.lrem, 1) := by decide +kernel
theorem dX10_draw_81 : decode cX10_draw 81 = .ok (.l2i, 1) := by decide +kernel
theorem dX10_draw_82 : decode cX10_draw 82 = .ok (.istore 7, 2) := by decide +kernel
theorem dX10_draw_84 : decode cX10_draw 84 = .ok (.lload_n 3, 1) := by decide +kernel
theorem dX10_draw_85 : decode cX10_draw 85 = .ok (.ldc2_w 132, 3) := by decide +kernel
theorem dX10_draw_88 : decode cX10_draw 88 = .ok (.ldiv, 1) := by decide +kernel
theorem dX10_draw_89 : decode cX10_draw 89 = .ok (.ldc2_w 126, 3) := by decide +kernel
theorem dX10_draw_92 : decode cX10_draw 92 = .ok (.lrem, 1) := by decide +kernel
theorem dX10_draw_93 : decode cX10_draw 93 = .ok (.l2i, 1) := by decide +kernel
theorem dX10_draw_94 : decode cX10_draw 94 = .ok (.istore 8, 2) := by decide +kernel
theorem dX10_draw_96 : decode cX10_draw 96 = .ok (.aload_n 0, 1) := by decide +kernel
theorem dX10_draw_97 : decode cX10_draw 97 = .ok (.iload 6, 2) := by decide +kernel
theorem dX10_draw_99 : decode cX10_draw 99 = .ok (.iload 7, 2) := by decide +kernel
theorem dX10_draw_101 : decode cX10_draw 101 = .ok (.iload 8, 2) := by decide +kernel
theorem dX10_draw_103 : decode cX10_draw 103 = .ok (.invokevirtual 97, 3) := by decide +kernel
theorem dX10_draw_106 : decode cX10_draw 106 = .ok (.ifCond .ne 13, 3) := by decide +kernel
theorem dX10_draw_109 : decode cX10_draw 109 = .ok (.aload_n 0, 1) := by decide +kernel
theorem dX10_draw_110 : decode cX10_draw 110 = .ok (.iload 6, 2) := by decide +kernel
theorem dX10_draw_112 : decode cX10_draw 112 = .ok (.iload 7, 2) := by decide +kernel
theorem dX10_draw_114 : decode cX10_draw 114 = .ok (.iload 8, 2) := by decide +kernel
theorem dX10_draw_116 : decode cX10_draw 116 = .ok (.invokevirtual 106, 3) := by decide +kernel
theorem dX10_draw_119 : decode cX10_draw 119 = .ok (.iinc 5 1, 3) := by decide +kernel
theorem dX10_draw_122 : decode cX10_draw 122 = .ok (.goto (-82), 3) := by decide +kernel
theorem dX10_draw_125 : decode cX10_draw 125 = .ok (.aload_n 0, 1) := by decide +kernel
theorem dX10_draw_126 : decode cX10_draw 126 = .ok (.invokevirtual 110, 3) := by decide +kernel
theorem dX10_draw_129 : decode cX10_draw 129 = .ok (.aload_n 0, 1) := by decide +kernel
theorem dX10_draw_130 : decode cX10_draw 130 = .ok (.getfield 70, 3) := by decide +kernel
theorem dX10_draw_133 : decode cX10_draw 133 = .ok (.ireturn, 1) := by decide +kernel
set_option maxRecDepth 20000 in
theorem ggX10_anew_X10_leavesState : GoodIn wsX10_anew wsX10_leavesState := goodIn_r _ [8, 9, 10, 1, 2, 3, 11, 12, 13, 14, 15, 16, 33, 34, 35, 36, 37, 38, 39, 40, 41, 42, 43, 44, 45, 46, 47, 48, 49, 50, 51, 52, 53, 54, 55, 56, 57] rfl (by decide +kernel)
set_option maxRecDepth 20000 in
theorem gX10_anew_X10_leavesState : GoodIn wsX10_anew (wsV RX10 103 RX10 yX10_leavesState wsX10_leavesState) := goodIn_app (goodIn_r _ [4, 5, 6, 7] rfl (by decide +kernel)) ggX10_anew_X10_leavesState
set_option maxRecDepth 20000 in
theorem ggX10_anew_X10_begins : GoodIn wsX10_anew wsX10_begins := goodIn_r _ [20, 11, 12, 21, 22, 23, 7, 24, 2, 25, 26, 27, 28, 1, 14, 13, 15, 29, 30, 31, 32, 3, 33, 34, 35, 36, 37, 38, 39, 40, 41, 42, 43, 44, 45, 46, 47, 48, 49, 50, 51, 52, 53, 54, 55, 56, 57] rfl (by decide +kernel)
set_option maxRecDepth 20000 in
theorem gX10_anew_X10_begins : GoodIn wsX10_anew (wsV RX10 110 RX10 yX10_begins wsX10_begins) := goodIn_app (goodIn_r _ [17, 18, 19, 7] rfl (by decide +kernel)) ggX10_anew_X10_begins
theorem dX10_anew_0 : decode cX10_anew 0 = .ok (.aload_n 0, 1) := by decide +kernel
theorem dX10_anew_1 : decode cX10_anew 1 = .ok (.invokevirtual 103, 3) := by decide +kernel
theorem dX10_anew_4 : decode cX10_anew 4 = .ok (.aload_n 0, 1) := by decide +kernel
theorem dX10_anew_5 : decode cX10_anew 5 = .ok (.getfield 70, 3) := by decide +kernel
theorem dX10_anew_8 : decode cX10_anew 8 = .ok (.istore_n 1, 1) := by decide +kernel
theorem dX10_anew_9 : decode cX10_anew 9 = .ok (.aload_n 0, 1) := by decide +kernel
theorem dX10_anew_10 : decode cX10_anew 10 = .ok (.iconst 0, 1) := by decide +kernel
theorem dX10_anew_11 : decode cX10_anew 11 = .ok (.putfield 70, 3) := by decide +kernel
theorem dX10_anew_14 : decode cX10_anew 14 = .ok (.aload_n 0, 1) := by decide +kernel
theorem dX10_anew_15 : decode cX10_anew 15 = .ok (.sipush 255, 3) := by decide +kernel
theorem dX10_anew_18 : decode cX10_anew 18 = .ok (.putfield 22, 3) := by decide +kernel
theorem dX10_anew_21 : decode cX10_anew 21 = .ok (.aload_n 0, 1) := by decide +kernel
theorem dX10_anew_22 : decode cX10_anew 22 = .ok (.iconst 0, 1) := by decide +kernel
theorem dX10_anew_23 : decode cX10_anew 23 = .ok (.putfield 73, 3) := by decide +kernel
theorem dX10_anew_26 : decode cX10_anew 26 = .ok (.aload_n 0, 1) := by decide +kernel
theorem dX10_anew_27 : decode cX10_anew 27 = .ok (.invokevirtual 110, 3) := by decide +kernel
theorem dX10_anew_30 : decode cX10_anew 30 = .ok (.iload_n 1, 1) := by decide +kernel
theorem dX10_anew_31 : decode cX10_anew 31 = .ok (.ireturn, 1) := by decide +kernel
set_option maxRecDepth 20000 in
theorem ggX10_stepped_X10_isFault : GoodIn wsX10_stepped wsX10_isFault := goodIn_r _ [9, 10, 11, 12, 13, 14, 15, 16, 17, 18, 19, 20, 21, 22, 23, 24, 25, 26, 27, 28, 29, 30, 31, 32, 33, 34, 35] rfl (by decide +kernel)
set_option maxRecDepth 20000 in
theorem gX10_stepped_X10_isFault : GoodIn wsX10_stepped (wsV RX10 134 RX10 yX10_isFault wsX10_isFault) := goodIn_app (goodIn_r _ [5, 6, 7, 8] rfl (by decide +kernel)) ggX10_stepped_X10_isFault
theorem dX10_stepped_0 : decode cX10_stepped 0 = .ok (.iconst 0, 1) := by decide +kernel
theorem dX10_stepped_1 : decode cX10_stepped 1 = .ok (.istore_n 3, 1) := by decide +kernel
theorem dX10_stepped_2 : decode cX10_stepped 2 = .ok (.iconst 0, 1) := by decide +kernel
theorem dX10_stepped_3 : decode cX10_stepped 3 = .ok (.istore 4, 2) := by decide +kernel
theorem dX10_stepped_5 : decode cX10_stepped 5 = .ok (.iload 4, 2) := by decide +kernel
theorem dX10_stepped_7 : decode cX10_stepped 7 = .ok (.aload_n 0, 1) := by decide +kernel
theorem dX10_stepped_8 : decode cX10_stepped 8 = .ok (.getfield 70, 3) := by decide +kernel
theorem dX10_stepped_11 : decode cX10_stepped 11 = .ok (.if_icmp .ge 125, 3) := by decide +kernel
theorem dX10_stepped_14 : decode cX10_stepped 14 = .ok (.iload_n 2, 1) := by decide +kernel
theorem dX10_stepped_15 : decode cX10_stepped 15 = .ok (.aload_n 0, 1) := by decide +kernel
theorem dX10_stepped_16 : decode cX10_stepped 16 = .ok (.getfield 16, 3) := by decide +kernel
theorem dX10_stepped_19 : decode cX10_stepped 19 = .ok (.iload 4, 2) := by decide +kernel
theorem dX10_stepped_21 : decode cX10_stepped 21 = .ok (.iaload, 1) := by decide +kernel
theorem dX10_stepped_22 : decode cX10_stepped 22 = .ok (.ishr, 1) := by decide +kernel
theorem dX10_stepped_23 : decode cX10_stepped 23 = .ok (.iconst 1, 1) := by decide +kernel
theorem dX10_stepped_24 : decode cX10_stepped 24 = .ok (.iand, 1) := by decide +kernel
theorem dX10_stepped_25 : decode cX10_stepped 25 = .ok (.iconst 1, 1) := by decide +kernel
theorem dX10_stepped_26 : decode cX10_stepped 26 = .ok (.if_icmp .ne 104, 3) := by decide +kernel
theorem dX10_stepped_29 : decode cX10_stepped 29 = .ok (.iload_n 1, 1) := by decide +kernel
theorem dX10_stepped_30 : decode cX10_stepped 30 = .ok (.aload_n 0, 1) := by decide +kernel
theorem dX10_stepped_31 : decode cX10_stepped 31 = .ok (.getfield 13, 3) := by decide +kernel
theorem dX10_stepped_34 : decode cX10_stepped 34 = .ok (.iload 4, 2) := by decide +kernel
theorem dX10_stepped_36 : decode cX10_stepped 36 = .ok (.iaload, 1) := by decide +kernel
theorem dX10_stepped_37 : decode cX10_stepped 37 = .ok (.ishr, 1) := by decide +kernel
theorem dX10_stepped_38 : decode cX10_stepped 38 = .ok (.iconst 1, 1) := by decide +kernel
theorem dX10_stepped_39 : decode cX10_stepped 39 = .ok (.iand, 1) := by decide +kernel
theorem dX10_stepped_40 : decode cX10_stepped 40 = .ok (.istore 5, 2) := by decide +kernel
theorem dX10_stepped_42 : decode cX10_stepped 42 = .ok (.iload_n 1, 1) := by decide +kernel
theorem dX10_stepped_43 : decode cX10_stepped 43 = .ok (.aload_n 0, 1) := by decide +kernel
theorem dX10_stepped_44 : decode cX10_stepped 44 = .ok (.getfield 13, 3) := by decide +kernel
theorem dX10_stepped_47 : decode cX10_stepped 47 = .ok (.iload 4, 2) := by decide +kernel
theorem dX10_stepped_49 : decode cX10_stepped 49 = .ok (.iaload, 1) := by decide +kernel
theorem dX10_stepped_50 : decode cX10_stepped 50 = .ok (.bipush 10, 2) := by decide +kernel
theorem dX10_stepped_52 : decode cX10_stepped 52 = .ok (.iadd, 1) := by decide +kernel
theorem dX10_stepped_53 : decode cX10_stepped 53 = .ok (.ishr, 1) := by decide +kernel
theorem dX10_stepped_54 : decode cX10_stepped 54 = .ok (.iconst 1, 1) := by decide +kernel
theorem dX10_stepped_55 : decode cX10_stepped 55 = .ok (.iand, 1) := by decide +kernel
theorem dX10_stepped_56 : decode cX10_stepped 56 = .ok (.istore 6, 2) := by decide +kernel
theorem dX10_stepped_58 : decode cX10_stepped 58 = .ok (.aload_n 0, 1) := by decide +kernel
theorem dX10_stepped_59 : decode cX10_stepped 59 = .ok (.aload_n 0, 1) := by decide +kernel
theorem dX10_stepped_60 : decode cX10_stepped 60 = .ok (.getfield 16, 3) := by decide +kernel
theorem dX10_stepped_63 : decode cX10_stepped 63 = .ok (.iload 4, 2) := by decide +kernel
theorem dX10_stepped_65 : decode cX10_stepped 65 = .ok (.iaload, 1) := by decide +kernel
theorem dX10_stepped_66 : decode cX10_stepped 66 = .ok (.invokevirtual 134, 3) := by decide +kernel
theorem dX10_stepped_69 : decode cX10_stepped 69 = .ok (.istore 7, 2) := by decide +kernel
theorem dX10_stepped_71 : decode cX10_stepped 71 = .ok (.iload_n 3, 1) := by decide +kernel
theorem dX10_stepped_72 : decode cX10_stepped 72 = .ok (.iload 5, 2) := by decide +kernel
theorem dX10_stepped_74 : decode cX10_stepped 74 = .ok (.iconst 1, 1) := by decide +kernel
theorem dX10_stepped_75 : decode cX10_stepped 75 = .ok (.if_icmp .ne 27, 3) := by decide +kernel
theorem dX10_stepped_78 : decode cX10_stepped 78 = .ok (.iconst 1, 1) := by decide +kernel
theorem dX10_stepped_79 : decode cX10_stepped 79 = .ok (.aload_n 0, 1) := by decide +kernel
theorem dX10_stepped_80 : decode cX10_stepped 80 = .ok (.getfield 19, 3) := by decide +kernel
theorem dX10_stepped_83 : decode cX10_stepped 83 = .ok (.iload 4, 2) := by decide +kernel
theorem dX10_stepped_85 : decode cX10_stepped 85 = .ok (.iaload, 1) := by decide +kernel
theorem dX10_stepped_86 : decode cX10_stepped 86 = .ok (.iload 7, 2) := by decide +kernel
theorem dX10_stepped_88 : decode cX10_stepped 88 = .ok (.ifCond .eq 8, 3) := by decide +kernel
theorem dX10_stepped_91 : decode cX10_stepped 91 = .ok (.bipush 10, 2) := by decide +kernel
theorem dX10_stepped_93 : decode cX10_stepped 93 = .ok (.goto 4, 3) := by decide +kernel
theorem dX10_stepped_96 : decode cX10_stepped 96 = .ok (.iconst 0, 1) := by decide +kernel
theorem dX10_stepped_97 : decode cX10_stepped 97 = .ok (.iadd, 1) := by decide +kernel
theorem dX10_stepped_98 : decode cX10_stepped 98 = .ok (.ishl, 1) := by decide +kernel
theorem dX10_stepped_99 : decode cX10_stepped 99 = .ok (.goto 4, 3) := by decide +kernel
theorem dX10_stepped_102 : decode cX10_stepped 102 = .ok (.iconst 0, 1) := by decide +kernel
theorem dX10_stepped_103 : decode cX10_stepped 103 = .ok (.ior, 1) := by decide +kernel
theorem dX10_stepped_104 : decode cX10_stepped 104 = .ok (.istore_n 3, 1) := by decide +kernel
theorem dX10_stepped_105 : decode cX10_stepped 105 = .ok (.iload_n 3, 1) := by decide +kernel
theorem dX10_stepped_106 : decode cX10_stepped 106 = .ok (.iload 6, 2) := by decide +kernel
theorem dX10_stepped_108 : decode cX10_stepped 108 = .ok (.iconst 1, 1) := by decide +kernel
theorem dX10_stepped_109 : decode cX10_stepped 109 = .ok (.if_icmp .ne 18, 3) := by decide +kernel
theorem dX10_stepped_112 : decode cX10_stepped 112 = .ok (.iconst 1, 1) := by decide +kernel
theorem dX10_stepped_113 : decode cX10_stepped 113 = .ok (.aload_n 0, 1) := by decide +kernel
theorem dX10_stepped_114 : decode cX10_stepped 114 = .ok (.getfield 19, 3) := by decide +kernel
theorem dX10_stepped_117 : decode cX10_stepped 117 = .ok (.iload 4, 2) := by decide +kernel
theorem dX10_stepped_119 : decode cX10_stepped 119 = .ok (.iaload, 1) := by decide +kernel
theorem dX10_stepped_120 : decode cX10_stepped 120 = .ok (.bipush 10, 2) := by decide +kernel
theorem dX10_stepped_122 : decode cX10_stepped 122 = .ok (.iadd, 1) := by decide +kernel
theorem dX10_stepped_123 : decode cX10_stepped 123 = .ok (.ishl, 1) := by decide +kernel
theorem dX10_stepped_124 : decode cX10_stepped 124 = .ok (.goto 4, 3) := by decide +kernel
theorem dX10_stepped_127 : decode cX10_stepped 127 = .ok (.iconst 0, 1) := by decide +kernel
theorem dX10_stepped_128 : decode cX10_stepped 128 = .ok (.ior, 1) := by decide +kernel
theorem dX10_stepped_129 : decode cX10_stepped 129 = .ok (.istore_n 3, 1) := by decide +kernel
theorem dX10_stepped_130 : decode cX10_stepped 130 = .ok (.iinc 4 1, 3) := by decide +kernel
theorem dX10_stepped_133 : decode cX10_stepped 133 = .ok (.goto (-128), 3) := by decide +kernel
theorem dX10_stepped_136 : decode cX10_stepped 136 = .ok (.iload_n 3, 1) := by decide +kernel
theorem dX10_stepped_137 : decode cX10_stepped 137 = .ok (.ireturn, 1) := by decide +kernel
set_option maxRecDepth 20000 in
theorem ggX10_closed_X10_stepped : GoodIn wsX10_closed wsX10_stepped := goodIn_r _ [6, 7, 8, 9, 10, 11, 12, 13, 5, 14, 15, 16, 17, 18, 19, 20, 21, 22, 23, 24, 25, 26, 27, 28, 29, 30, 31, 32, 33, 34, 35, 36, 37, 38, 39, 40] rfl (by decide +kernel)
set_option maxRecDepth 20000 in
theorem gX10_closed_X10_stepped : GoodIn wsX10_closed (wsV RX10 137 RX10 yX10_stepped wsX10_stepped) := goodIn_app (goodIn_r _ [2, 3, 4, 5] rfl (by decide +kernel)) ggX10_closed_X10_stepped
theorem dX10_closed_0 : decode cX10_closed 0 = .ok (.iload_n 1, 1) := by decide +kernel
theorem dX10_closed_1 : decode cX10_closed 1 = .ok (.istore_n 2, 1) := by decide +kernel
theorem dX10_closed_2 : decode cX10_closed 2 = .ok (.iconst 0, 1) := by decide +kernel
theorem dX10_closed_3 : decode cX10_closed 3 = .ok (.istore_n 3, 1) := by decide +kernel
theorem dX10_closed_4 : decode cX10_closed 4 = .ok (.iload_n 3, 1) := by decide +kernel
theorem dX10_closed_5 : decode cX10_closed 5 = .ok (.iload_n 2, 1) := by decide +kernel
theorem dX10_closed_6 : decode cX10_closed 6 = .ok (.if_icmp .eq 26, 3) := by decide +kernel
theorem dX10_closed_9 : decode cX10_closed 9 = .ok (.iload_n 2, 1) := by decide +kernel
theorem dX10_closed_10 : decode cX10_closed 10 = .ok (.istore_n 3, 1) := by decide +kernel
theorem dX10_closed_11 : decode cX10_closed 11 = .ok (.iload_n 2, 1) := by decide +kernel
theorem dX10_closed_12 : decode cX10_closed 12 = .ok (.aload_n 0, 1) := by decide +kernel
theorem dX10_closed_13 : decode cX10_closed 13 = .ok (.iload_n 2, 1) := by decide +kernel
theorem dX10_closed_14 : decode cX10_closed 14 = .ok (.sipush 255, 3) := by decide +kernel
theorem dX10_closed_17 : decode cX10_closed 17 = .ok (.aload_n 0, 1) := by decide +kernel
theorem dX10_closed_18 : decode cX10_closed 18 = .ok (.getfield 22, 3) := by decide +kernel
theorem dX10_closed_21 : decode cX10_closed 21 = .ok (.iconst (-1), 1) := by decide +kernel
theorem dX10_closed_22 : decode cX10_closed 22 = .ok (.ixor, 1) := by decide +kernel
theorem dX10_closed_23 : decode cX10_closed 23 = .ok (.iand, 1) := by decide +kernel
theorem dX10_closed_24 : decode cX10_closed 24 = .ok (.invokevirtual 137, 3) := by decide +kernel
theorem dX10_closed_27 : decode cX10_closed 27 = .ok (.ior, 1) := by decide +kernel
theorem dX10_closed_28 : decode cX10_closed 28 = .ok (.istore_n 2, 1) := by decide +kernel
theorem dX10_closed_29 : decode cX10_closed 29 = .ok (.goto (-25), 3) := by decide +kernel
theorem dX10_closed_32 : decode cX10_closed 32 = .ok (.iload_n 2, 1) := by decide +kernel
theorem dX10_closed_33 : decode cX10_closed 33 = .ok (.ireturn, 1) := by decide +kernel
set_option maxRecDepth 20000 in
theorem ggX10_sawBy_X10_stepped : GoodIn wsX10_sawBy wsX10_stepped := goodIn_r _ [5, 6, 7, 8, 9, 10, 11, 12, 4, 13, 14, 20, 21, 22, 23, 24, 25, 26, 27, 28, 29, 30, 31, 32, 33, 34, 35, 36, 37, 38, 39, 40, 41, 42, 43, 44] rfl (by decide +kernel)
set_option maxRecDepth 20000 in
theorem gX10_sawBy_X10_stepped : GoodIn wsX10_sawBy (wsV RX10 137 RX10 yX10_stepped wsX10_stepped) := goodIn_app (goodIn_r _ [1, 2, 3, 4] rfl (by decide +kernel)) ggX10_sawBy_X10_stepped
set_option maxRecDepth 20000 in
theorem ggX10_sawBy_X10_closed : GoodIn wsX10_sawBy wsX10_closed := goodIn_r _ [18, 19, 1, 2, 3, 4, 5, 6, 7, 8, 9, 10, 11, 12, 13, 14, 20, 21, 22, 23, 24, 25, 26, 27, 28, 29, 30, 31, 32, 33, 34, 35, 36, 37, 38, 39, 40, 41, 42, 43, 44] rfl (by decide +kernel)
set_option maxRecDepth 20000 in
theorem gX10_sawBy_X10_closed : GoodIn wsX10_sawBy (wsV RX10 83 RX10 yX10_closed wsX10_closed) := goodIn_app (goodIn_r _ [15, 16, 17, 4] rfl (by decide +kernel)) ggX10_sawBy_X10_closed
theorem dX10_sawBy_0 : decode cX10_sawBy 0 = .ok (.aload_n 0, 1) := by decide +kernel
theorem dX10_sawBy_1 : decode cX10_sawBy 1 = .ok (.aload_n 0, 1) := by decide +kernel
theorem dX10_sawBy_2 : decode cX10_sawBy 2 = .ok (.iload_n 1, 1) := by decide +kernel
theorem dX10_sawBy_3 : decode cX10_sawBy 3 = .ok (.iconst 1, 1) := by decide +kernel
theorem dX10_sawBy_4 : decode cX10_sawBy 4 = .ok (.iload_n 2, 1) := by decide +kernel
theorem dX10_sawBy_5 : decode cX10_sawBy 5 = .ok (.ishl, 1) := by decide +kernel
theorem dX10_sawBy_6 : decode cX10_sawBy 6 = .ok (.invokevirtual 137, 3) := by decide +kernel
theorem dX10_sawBy_9 : decode cX10_sawBy 9 = .ok (.invokevirtual 83, 3) := by decide +kernel
theorem dX10_sawBy_12 : decode cX10_sawBy 12 = .ok (.ireturn, 1) := by decide +kernel
theorem dX10_verdict_0 : decode cX10_verdict 0 = .ok (.iload_n 0, 1) := by decide +kernel
theorem dX10_verdict_1 : decode cX10_verdict 1 = .ok (.bipush 10, 2) := by decide +kernel
theorem dX10_verdict_3 : decode cX10_verdict 3 = .ok (.ishr, 1) := by decide +kernel
theorem dX10_verdict_4 : decode cX10_verdict 4 = .ok (.istore_n 1, 1) := by decide +kernel
theorem dX10_verdict_5 : decode cX10_verdict 5 = .ok (.iload_n 0, 1) := by decide +kernel
theorem dX10_verdict_6 : decode cX10_verdict 6 = .ok (.sipush 1023, 3) := by decide +kernel
theorem dX10_verdict_9 : decode cX10_verdict 9 = .ok (.iand, 1) := by decide +kernel
theorem dX10_verdict_10 : decode cX10_verdict 10 = .ok (.istore_n 2, 1) := by decide +kernel
theorem dX10_verdict_11 : decode cX10_verdict 11 = .ok (.iload_n 1, 1) := by decide +kernel
theorem dX10_verdict_12 : decode cX10_verdict 12 = .ok (.ifCond .ne 7, 3) := by decide +kernel
theorem dX10_verdict_15 : decode cX10_verdict 15 = .ok (.iconst 0, 1) := by decide +kernel
theorem dX10_verdict_16 : decode cX10_verdict 16 = .ok (.goto 12, 3) := by decide +kernel
theorem dX10_verdict_19 : decode cX10_verdict 19 = .ok (.iload_n 2, 1) := by decide +kernel
theorem dX10_verdict_20 : decode cX10_verdict 20 = .ok (.ifCond .ne 7, 3) := by decide +kernel
theorem dX10_verdict_23 : decode cX10_verdict 23 = .ok (.iconst 1, 1) := by decide +kernel
theorem dX10_verdict_24 : decode cX10_verdict 24 = .ok (.goto 4, 3) := by decide +kernel
theorem dX10_verdict_27 : decode cX10_verdict 27 = .ok (.iconst 2, 1) := by decide +kernel
theorem dX10_verdict_28 : decode cX10_verdict 28 = .ok (.ireturn, 1) := by decide +kernel
set_option maxRecDepth 20000 in
theorem ggX10_sees_X10_isDeed : GoodIn wsX10_sees wsX10_isDeed := goodIn_r _ [7, 8, 9, 6, 10] rfl (by decide +kernel)
set_option maxRecDepth 20000 in
theorem gX10_sees_X10_isDeed : GoodIn wsX10_sees (va_wsS RX10 91 yX10_isDeed wsX10_isDeed) := goodIn_app (goodIn_of _ (by decide +kernel)) ggX10_sees_X10_isDeed
set_option maxRecDepth 20000 in
theorem ggX10_sees_X10_bad : GoodIn wsX10_sees wsX10_bad := goodIn_r _ [14, 15, 55, 56, 57, 58, 59, 60, 61, 62, 63, 64, 65, 66, 67, 68, 69, 70, 71, 72, 73, 74, 75, 76, 77, 78, 79] rfl (by decide +kernel)
set_option maxRecDepth 20000 in
theorem gX10_sees_X10_bad : GoodIn wsX10_sees (wsV RX10 94 RX10 yX10_bad wsX10_bad) := goodIn_app (goodIn_r _ [11, 12, 13, 6] rfl (by decide +kernel)) ggX10_sees_X10_bad
set_option maxRecDepth 20000 in
theorem ggX10_sees_X10_isSeen : GoodIn wsX10_sees wsX10_isSeen := goodIn_r _ [19, 20, 55, 56, 57, 58, 59, 60, 61, 62, 63, 64, 65, 66, 67, 68, 69, 70, 71, 72, 73, 74, 75, 76, 77, 78, 79] rfl (by decide +kernel)
set_option maxRecDepth 20000 in
theorem gX10_sees_X10_isSeen : GoodIn wsX10_sees (wsV RX10 141 RX10 yX10_isSeen wsX10_isSeen) := goodIn_app (goodIn_r _ [16, 17, 18, 6] rfl (by decide +kernel)) ggX10_sees_X10_isSeen
set_option maxRecDepth 20000 in
theorem ggX10_sees_X10_sawBy : GoodIn wsX10_sees wsX10_sawBy := goodIn_r _ [24, 25, 26, 27, 6, 28, 29, 30, 31, 32, 33, 34, 35, 36, 37, 38, 39, 40, 41, 20, 55, 56, 57, 58, 59, 60, 61, 62, 63, 64, 65, 66, 67, 68, 69, 70, 71, 72, 73, 74, 75, 76, 77, 78, 79] rfl (by decide +kernel)
set_option maxRecDepth 20000 in
theorem gX10_sees_X10_sawBy : GoodIn wsX10_sees (wsV RX10 144 RX10 yX10_sawBy wsX10_sawBy) := goodIn_app (goodIn_r _ [21, 22, 23, 6] rfl (by decide +kernel)) ggX10_sees_X10_sawBy
set_option maxRecDepth 20000 in
theorem ggX10_sees_X10_no : GoodIn wsX10_sees wsX10_no := goodIn_r _ [45, 15, 55, 56, 57, 58, 59, 60, 61, 62, 63, 64, 65, 66, 67, 68, 69, 70, 71, 72, 73, 74, 75, 76, 77, 78, 79] rfl (by decide +kernel)
set_option maxRecDepth 20000 in
theorem gX10_sees_X10_no : GoodIn wsX10_sees (wsV RX10 79 RX10 yX10_no wsX10_no) := goodIn_app (goodIn_r _ [42, 43, 44, 6] rfl (by decide +kernel)) ggX10_sees_X10_no
set_option maxRecDepth 20000 in
theorem ggX10_sees_X10_leavesState : GoodIn wsX10_sees wsX10_leavesState := goodIn_r _ [49, 50, 51, 29, 20, 37, 1, 3, 31, 30, 32, 2, 55, 56, 57, 58, 59, 60, 61, 62, 63, 64, 65, 66, 67, 68, 69, 70, 71, 72, 73, 74, 75, 76, 77, 78, 79] rfl (by decide +kernel)
set_option maxRecDepth 20000 in
theorem gX10_sees_X10_leavesState : GoodIn wsX10_sees (wsV RX10 103 RX10 yX10_leavesState wsX10_leavesState) := goodIn_app (goodIn_r _ [46, 47, 48, 6] rfl (by decide +kernel)) ggX10_sees_X10_leavesState
set_option maxRecDepth 20000 in
theorem ggX10_sees_X10_verdict : GoodIn wsX10_sees wsX10_verdict := goodIn_r _ [54] rfl (by decide +kernel)
set_option maxRecDepth 20000 in
theorem gX10_sees_X10_verdict : GoodIn wsX10_sees (va_wsS RX10 147 yX10_verdict wsX10_verdict) := goodIn_app (goodIn_of _ (by decide +kernel)) ggX10_sees_X10_verdict
theorem dX10_sees_0 : decode cX10_sees 0 = .ok (.iload_n 1, 1) := by decide +kernel
theorem dX10_sees_1 : decode cX10_sees 1 = .ok (.invokestatic 91, 3) := by decide +kernel
theorem dX10_sees_4 : decode cX10_sees 4 = .ok (.ifCond .ne 8, 3) := by decide +kernel
theorem dX10_sees_7 : decode cX10_sees 7 = .ok (.aload_n 0, 1) := by decide +kernel
theorem dX10_sees_8 : decode cX10_sees 8 = .ok (.invokevirtual 94, 3) := by decide +kernel
theorem dX10_sees_11 : decode cX10_sees 11 = .ok (.ireturn, 1) := by decide +kernel
theorem dX10_sees_12 : decode cX10_sees 12 = .ok (.aload_n 0, 1) := by decide +kernel
theorem dX10_sees_13 : decode cX10_sees 13 = .ok (.iload_n 1, 1) := by decide +kernel
theorem dX10_sees_14 : decode cX10_sees 14 = .ok (.invokevirtual 141, 3) := by decide +kernel
theorem dX10_sees_17 : decode cX10_sees 17 = .ok (.ifCond .eq 15, 3) := by decide +kernel
theorem dX10_sees_20 : decode cX10_sees 20 = .ok (.aload_n 0, 1) := by decide +kernel
theorem dX10_sees_21 : decode cX10_sees 21 = .ok (.aload_n 0, 1) := by decide +kernel
theorem dX10_sees_22 : decode cX10_sees 22 = .ok (.getfield 26, 3) := by decide +kernel
theorem dX10_sees_25 : decode cX10_sees 25 = .ok (.iload_n 1, 1) := by decide +kernel
theorem dX10_sees_26 : decode cX10_sees 26 = .ok (.invokevirtual 144, 3) := by decide +kernel
theorem dX10_sees_29 : decode cX10_sees 29 = .ok (.goto 4, 3) := by decide +kernel
theorem dX10_sees_32 : decode cX10_sees 32 = .ok (.iconst 0, 1) := by decide +kernel
theorem dX10_sees_33 : decode cX10_sees 33 = .ok (.istore_n 2, 1) := by decide +kernel
theorem dX10_sees_34 : decode cX10_sees 34 = .ok (.iload_n 2, 1) := by decide +kernel
theorem dX10_sees_35 : decode cX10_sees 35 = .ok (.ifCond .ne 8, 3) := by decide +kernel
theorem dX10_sees_38 : decode cX10_sees 38 = .ok (.aload_n 0, 1) := by decide +kernel
theorem dX10_sees_39 : decode cX10_sees 39 = .ok (.invokevirtual 79, 3) := by decide +kernel
theorem dX10_sees_42 : decode cX10_sees 42 = .ok (.ireturn, 1) := by decide +kernel
theorem dX10_sees_43 : decode cX10_sees 43 = .ok (.aload_n 0, 1) := by decide +kernel
theorem dX10_sees_44 : decode cX10_sees 44 = .ok (.invokevirtual 103, 3) := by decide +kernel
theorem dX10_sees_47 : decode cX10_sees 47 = .ok (.aload_n 0, 1) := by decide +kernel
theorem dX10_sees_48 : decode cX10_sees 48 = .ok (.iload_n 2, 1) := by decide +kernel
theorem dX10_sees_49 : decode cX10_sees 49 = .ok (.putfield 26, 3) := by decide +kernel
theorem dX10_sees_52 : decode cX10_sees 52 = .ok (.bipush 7, 2) := by decide +kernel
theorem dX10_sees_54 : decode cX10_sees 54 = .ok (.istore_n 3, 1) := by decide +kernel
theorem dX10_sees_55 : decode cX10_sees 55 = .ok (.iload_n 3, 1) := by decide +kernel
theorem dX10_sees_56 : decode cX10_sees 56 = .ok (.ifCond .le 23, 3) := by decide +kernel
theorem dX10_sees_59 : decode cX10_sees 59 = .ok (.aload_n 0, 1) := by decide +kernel
theorem dX10_sees_60 : decode cX10_sees 60 = .ok (.getfield 29, 3) := by decide +kernel
theorem dX10_sees_63 : decode cX10_sees 63 = .ok (.iload_n 3, 1) := by decide +kernel
theorem dX10_sees_64 : decode cX10_sees 64 = .ok (.aload_n 0, 1) := by decide +kernel
theorem dX10_sees_65 : decode cX10_sees 65 = .ok (.getfield 29, 3) := by decide +kernel
theorem dX10_sees_68 : decode cX10_sees 68 = .ok (.iload_n 3, 1) := by decide +kernel
theorem dX10_sees_69 : decode cX10_sees 69 = .ok (.iconst 1, 1) := by decide +kernel
theorem dX10_sees_70 : decode cX10_sees 70 = .ok (.isub, 1) := by decide +kernel
theorem dX10_sees_71 : decode cX10_sees 71 = .ok (.iaload, 1) := by decide +kernel
theorem dX10_sees_72 : decode cX10_sees 72 = .ok (.iastore, 1) := by decide +kernel
theorem dX10_sees_73 : decode cX10_sees 73 = .ok (.iinc 3 (-1), 3) := by decide +kernel
theorem dX10_sees_76 : decode cX10_sees 76 = .ok (.goto (-21), 3) := by decide +kernel
theorem dX10_sees_79 : decode cX10_sees 79 = .ok (.aload_n 0, 1) := by decide +kernel
theorem dX10_sees_80 : decode cX10_sees 80 = .ok (.getfield 29, 3) := by decide +kernel
theorem dX10_sees_83 : decode cX10_sees 83 = .ok (.iconst 0, 1) := by decide +kernel
theorem dX10_sees_84 : decode cX10_sees 84 = .ok (.iload_n 1, 1) := by decide +kernel
theorem dX10_sees_85 : decode cX10_sees 85 = .ok (.iastore, 1) := by decide +kernel
theorem dX10_sees_86 : decode cX10_sees 86 = .ok (.aload_n 0, 1) := by decide +kernel
theorem dX10_sees_87 : decode cX10_sees 87 = .ok (.dup, 1) := by decide +kernel
theorem dX10_sees_88 : decode cX10_sees 88 = .ok (.getfield 76, 3) := by decide +kernel
theorem dX10_sees_91 : decode cX10_sees 91 = .ok (.aload_n 0, 1) := by decide +kernel
theorem dX10_sees_92 : decode cX10_sees 92 = .ok (.getfield 76, 3) := by decide +kernel
theorem dX10_sees_95 : decode cX10_sees 95 = .ok (.bipush 8, 2) := by decide +kernel
theorem dX10_sees_97 : decode cX10_sees 97 = .ok (.if_icmp .ge 7, 3) := by decide +kernel
theorem dX10_sees_100 : decode cX10_sees 100 = .ok (.iconst 1, 1) := by decide +kernel
theorem dX10_sees_101 : decode cX10_sees 101 = .ok (.goto 4, 3) := by decide +kernel
theorem dX10_sees_104 : decode cX10_sees 104 = .ok (.iconst 0, 1) := by decide +kernel
theorem dX10_sees_105 : decode cX10_sees 105 = .ok (.iadd, 1) := by decide +kernel
theorem dX10_sees_106 : decode cX10_sees 106 = .ok (.putfield 76, 3) := by decide +kernel
theorem dX10_sees_109 : decode cX10_sees 109 = .ok (.aload_n 0, 1) := by decide +kernel
theorem dX10_sees_110 : decode cX10_sees 110 = .ok (.getfield 26, 3) := by decide +kernel
theorem dX10_sees_113 : decode cX10_sees 113 = .ok (.invokestatic 147, 3) := by decide +kernel
theorem dX10_sees_116 : decode cX10_sees 116 = .ok (.ireturn, 1) := by decide +kernel
set_option maxRecDepth 20000 in
theorem ggX10_restarts_X10_leavesState : GoodIn wsX10_restarts wsX10_leavesState := goodIn_r _ [6, 7, 8, 9, 10, 11, 1, 12, 13, 14, 15, 16, 36, 37, 38, 39, 40, 41, 42, 43, 44, 45, 46, 47, 48, 49, 50, 51, 52, 53, 54, 55, 56, 57, 58, 59, 60] rfl (by decide +kernel)
set_option maxRecDepth 20000 in
theorem gX10_restarts_X10_leavesState : GoodIn wsX10_restarts (wsV RX10 103 RX10 yX10_leavesState wsX10_leavesState) := goodIn_app (goodIn_r _ [2, 3, 4, 5] rfl (by decide +kernel)) ggX10_restarts_X10_leavesState
set_option maxRecDepth 20000 in
theorem ggX10_restarts_X10_begins : GoodIn wsX10_restarts wsX10_begins := goodIn_r _ [20, 1, 12, 21, 22, 23, 5, 24, 10, 25, 26, 27, 28, 9, 14, 13, 15, 29, 30, 31, 32, 11, 36, 37, 38, 39, 40, 41, 42, 43, 44, 45, 46, 47, 48, 49, 50, 51, 52, 53, 54, 55, 56, 57, 58, 59, 60] rfl (by decide +kernel)
set_option maxRecDepth 20000 in
theorem gX10_restarts_X10_begins : GoodIn wsX10_restarts (wsV RX10 110 RX10 yX10_begins wsX10_begins) := goodIn_app (goodIn_r _ [17, 18, 19, 5] rfl (by decide +kernel)) ggX10_restarts_X10_begins
set_option maxRecDepth 20000 in
theorem ggX10_restarts_X10_verdict : GoodIn wsX10_restarts wsX10_verdict := goodIn_r _ [35] rfl (by decide +kernel)
set_option maxRecDepth 20000 in
theorem gX10_restarts_X10_verdict : GoodIn wsX10_restarts (va_wsS RX10 147 yX10_verdict wsX10_verdict) := goodIn_app (goodIn_of _ (by decide +kernel)) ggX10_restarts_X10_verdict
theorem dX10_restarts_0 : decode cX10_restarts 0 = .ok (.aload_n 0, 1) := by decide +kernel
theorem dX10_restarts_1 : decode cX10_restarts 1 = .ok (.invokevirtual 103, 3) := by decide +kernel
theorem dX10_restarts_4 : decode cX10_restarts 4 = .ok (.aload_n 0, 1) := by decide +kernel
theorem dX10_restarts_5 : decode cX10_restarts 5 = .ok (.invokevirtual 110, 3) := by decide +kernel
theorem dX10_restarts_8 : decode cX10_restarts 8 = .ok (.aload_n 0, 1) := by decide +kernel
theorem dX10_restarts_9 : decode cX10_restarts 9 = .ok (.getfield 26, 3) := by decide +kernel
theorem dX10_restarts_12 : decode cX10_restarts 12 = .ok (.invokestatic 147, 3) := by decide +kernel
theorem dX10_restarts_15 : decode cX10_restarts 15 = .ok (.ireturn, 1) := by decide +kernel
theorem dX10_ones_0 : decode cX10_ones 0 = .ok (.iconst 0, 1) := by decide +kernel
theorem dX10_ones_1 : decode cX10_ones 1 = .ok (.istore_n 1, 1) := by decide +kernel
theorem dX10_ones_2 : decode cX10_ones 2 = .ok (.iconst 0, 1) := by decide +kernel
theorem dX10_ones_3 : decode cX10_ones 3 = .ok (.istore_n 2, 1) := by decide +kernel
theorem dX10_ones_4 : decode cX10_ones 4 = .ok (.iload_n 2, 1) := by decide +kernel
theorem dX10_ones_5 : decode cX10_ones 5 = .ok (.bipush 20, 2) := by decide +kernel
theorem dX10_ones_7 : decode cX10_ones 7 = .ok (.if_icmp .ge 17, 3) := by decide +kernel
theorem dX10_ones_10 : decode cX10_ones 10 = .ok (.iload_n 1, 1) := by decide +kernel
theorem dX10_ones_11 : decode cX10_ones 11 = .ok (.iload_n 0, 1) := by decide +kernel
theorem dX10_ones_12 : decode cX10_ones 12 = .ok (.iload_n 2, 1) := by decide +kernel
theorem dX10_ones_13 : decode cX10_ones 13 = .ok (.ishr, 1) := by decide +kernel
theorem dX10_ones_14 : decode cX10_ones 14 = .ok (.iconst 1, 1) := by decide +kernel
theorem dX10_ones_15 : decode cX10_ones 15 = .ok (.iand, 1) := by decide +kernel
theorem dX10_ones_16 : decode cX10_ones 16 = .ok (.iadd, 1) := by decide +kernel
theorem dX10_ones_17 : decode cX10_ones 17 = .ok (.istore_n 1, 1) := by decide +kernel
theorem dX10_ones_18 : decode cX10_ones 18 = .ok (.iinc 2 1, 3) := by decide +kernel
theorem dX10_ones_21 : decode cX10_ones 21 = .ok (.goto (-17), 3) := by decide +kernel
theorem dX10_ones_24 : decode cX10_ones 24 = .ok (.iload_n 1, 1) := by decide +kernel
theorem dX10_ones_25 : decode cX10_ones 25 = .ok (.ireturn, 1) := by decide +kernel
set_option maxRecDepth 20000 in
theorem ggX10_knownBy_X10_verdict : GoodIn wsX10_knownBy wsX10_verdict := goodIn_r _ [6] rfl (by decide +kernel)
set_option maxRecDepth 20000 in
theorem gX10_knownBy_X10_verdict : GoodIn wsX10_knownBy (va_wsS RX10 147 yX10_verdict wsX10_verdict) := goodIn_app (goodIn_of _ (by decide +kernel)) ggX10_knownBy_X10_verdict
set_option maxRecDepth 20000 in
theorem ggX10_knownBy_X10_ones : GoodIn wsX10_knownBy wsX10_ones := goodIn_r _ [9] rfl (by decide +kernel)
set_option maxRecDepth 20000 in
theorem gX10_knownBy_X10_ones : GoodIn wsX10_knownBy (va_wsS RX10 150 yX10_ones wsX10_ones) := goodIn_app (goodIn_of _ (by decide +kernel)) ggX10_knownBy_X10_ones
set_option maxRecDepth 20000 in
theorem ggX10_knownBy_X10_isSeen : GoodIn wsX10_knownBy wsX10_isSeen := goodIn_r _ [13, 2, 27, 28, 29, 30, 31, 32, 33, 34, 35, 36, 37, 38, 39, 40, 41, 42, 43, 44, 45, 46, 47, 48, 49, 50, 51] rfl (by decide +kernel)
set_option maxRecDepth 20000 in
theorem gX10_knownBy_X10_isSeen : GoodIn wsX10_knownBy (wsV RX10 141 RX10 yX10_isSeen wsX10_isSeen) := goodIn_app (goodIn_r _ [10, 11, 12, 5] rfl (by decide +kernel)) ggX10_knownBy_X10_isSeen
set_option maxRecDepth 20000 in
theorem ggX10_knownBy_X10_stepped : GoodIn wsX10_knownBy wsX10_stepped := goodIn_r _ [17, 18, 19, 20, 21, 22, 23, 24, 5, 25, 26, 27, 28, 29, 30, 31, 32, 33, 34, 35, 36, 37, 38, 39, 40, 41, 42, 43, 44, 45, 46, 47, 48, 49, 50, 51] rfl (by decide +kernel)
set_option maxRecDepth 20000 in
theorem gX10_knownBy_X10_stepped : GoodIn wsX10_knownBy (wsV RX10 137 RX10 yX10_stepped wsX10_stepped) := goodIn_app (goodIn_r _ [14, 15, 16, 5] rfl (by decide +kernel)) ggX10_knownBy_X10_stepped
theorem dX10_knownBy_0 : decode cX10_knownBy 0 = .ok (.iload_n 1, 1) := by decide +kernel
theorem dX10_knownBy_1 : decode cX10_knownBy 1 = .ok (.tableswitch 102 0 3 #[31, 36, 44, 52], 31) := by decide +kernel
theorem dX10_knownBy_32 : decode cX10_knownBy 32 = .ok (.aload_n 0, 1) := by decide +kernel
theorem dX10_knownBy_33 : decode cX10_knownBy 33 = .ok (.getfield 26, 3) := by decide +kernel
theorem dX10_knownBy_36 : decode cX10_knownBy 36 = .ok (.ireturn, 1) := by decide +kernel
theorem dX10_knownBy_37 : decode cX10_knownBy 37 = .ok (.aload_n 0, 1) := by decide +kernel
theorem dX10_knownBy_38 : decode cX10_knownBy 38 = .ok (.getfield 26, 3) := by decide +kernel
theorem dX10_knownBy_41 : decode cX10_knownBy 41 = .ok (.invokestatic 147, 3) := by decide +kernel
theorem dX10_knownBy_44 : decode cX10_knownBy 44 = .ok (.ireturn, 1) := by decide +kernel
theorem dX10_knownBy_45 : decode cX10_knownBy 45 = .ok (.aload_n 0, 1) := by decide +kernel
theorem dX10_knownBy_46 : decode cX10_knownBy 46 = .ok (.getfield 26, 3) := by decide +kernel
theorem dX10_knownBy_49 : decode cX10_knownBy 49 = .ok (.invokestatic 150, 3) := by decide +kernel
theorem dX10_knownBy_52 : decode cX10_knownBy 52 = .ok (.ireturn, 1) := by decide +kernel
theorem dX10_knownBy_53 : decode cX10_knownBy 53 = .ok (.iconst 0, 1) := by decide +kernel
theorem dX10_knownBy_54 : decode cX10_knownBy 54 = .ok (.istore_n 2, 1) := by decide +kernel
theorem dX10_knownBy_55 : decode cX10_knownBy 55 = .ok (.iconst 0, 1) := by decide +kernel
theorem dX10_knownBy_56 : decode cX10_knownBy 56 = .ok (.istore_n 3, 1) := by decide +kernel
theorem dX10_knownBy_57 : decode cX10_knownBy 57 = .ok (.iload_n 3, 1) := by decide +kernel
theorem dX10_knownBy_58 : decode cX10_knownBy 58 = .ok (.bipush 8, 2) := by decide +kernel
theorem dX10_knownBy_60 : decode cX10_knownBy 60 = .ok (.if_icmp .ge 41, 3) := by decide +kernel
theorem dX10_knownBy_63 : decode cX10_knownBy 63 = .ok (.iload_n 2, 1) := by decide +kernel
theorem dX10_knownBy_64 : decode cX10_knownBy 64 = .ok (.aload_n 0, 1) := by decide +kernel
theorem dX10_knownBy_65 : decode cX10_knownBy 65 = .ok (.iload_n 3, 1) := by decide +kernel
theorem dX10_knownBy_66 : decode cX10_knownBy 66 = .ok (.invokevirtual 141, 3) := by decide +kernel
theorem dX10_knownBy_69 : decode cX10_knownBy 69 = .ok (.ifCond .eq 23, 3) := by decide +kernel
theorem dX10_knownBy_72 : decode cX10_knownBy 72 = .ok (.aload_n 0, 1) := by decide +kernel
theorem dX10_knownBy_73 : decode cX10_knownBy 73 = .ok (.aload_n 0, 1) := by decide +kernel
theorem dX10_knownBy_74 : decode cX10_knownBy 74 = .ok (.getfield 26, 3) := by decide +kernel
theorem dX10_knownBy_77 : decode cX10_knownBy 77 = .ok (.iconst 1, 1) := by decide +kernel
theorem dX10_knownBy_78 : decode cX10_knownBy 78 = .ok (.iload_n 3, 1) := by decide +kernel
theorem dX10_knownBy_79 : decode cX10_knownBy 79 = .ok (.ishl, 1) := by decide +kernel
theorem dX10_knownBy_80 : decode cX10_knownBy 80 = .ok (.invokevirtual 137, 3) := by decide +kernel
theorem dX10_knownBy_83 : decode cX10_knownBy 83 = .ok (.ifCond .eq 9, 3) := by decide +kernel
theorem dX10_knownBy_86 : decode cX10_knownBy 86 = .ok (.iconst 1, 1) := by decide +kernel
theorem dX10_knownBy_87 : decode cX10_knownBy 87 = .ok (.iload_n 3, 1) := by decide +kernel
theorem dX10_knownBy_88 : decode cX10_knownBy 88 = .ok (.ishl, 1) := by decide +kernel
theorem dX10_knownBy_89 : decode cX10_knownBy 89 = .ok (.goto 4, 3) := by decide +kernel
theorem dX10_knownBy_92 : decode cX10_knownBy 92 = .ok (.iconst 0, 1) := by decide +kernel
theorem dX10_knownBy_93 : decode cX10_knownBy 93 = .ok (.ior, 1) := by decide +kernel
theorem dX10_knownBy_94 : decode cX10_knownBy 94 = .ok (.istore_n 2, 1) := by decide +kernel
theorem dX10_knownBy_95 : decode cX10_knownBy 95 = .ok (.iinc 3 1, 3) := by decide +kernel
theorem dX10_knownBy_98 : decode cX10_knownBy 98 = .ok (.goto (-41), 3) := by decide +kernel
theorem dX10_knownBy_101 : decode cX10_knownBy 101 = .ok (.iload_n 2, 1) := by decide +kernel
theorem dX10_knownBy_102 : decode cX10_knownBy 102 = .ok (.ireturn, 1) := by decide +kernel
theorem dX10_knownBy_103 : decode cX10_knownBy 103 = .ok (.aload_n 0, 1) := by decide +kernel
theorem dX10_knownBy_104 : decode cX10_knownBy 104 = .ok (.aload_n 0, 1) := by decide +kernel
theorem dX10_knownBy_105 : decode cX10_knownBy 105 = .ok (.getfield 26, 3) := by decide +kernel
theorem dX10_knownBy_108 : decode cX10_knownBy 108 = .ok (.sipush 255, 3) := by decide +kernel
theorem dX10_knownBy_111 : decode cX10_knownBy 111 = .ok (.aload_n 0, 1) := by decide +kernel
theorem dX10_knownBy_112 : decode cX10_knownBy 112 = .ok (.getfield 22, 3) := by decide +kernel
theorem dX10_knownBy_115 : decode cX10_knownBy 115 = .ok (.iconst (-1), 1) := by decide +kernel
theorem dX10_knownBy_116 : decode cX10_knownBy 116 = .ok (.ixor, 1) := by decide +kernel
theorem dX10_knownBy_117 : decode cX10_knownBy 117 = .ok (.iand, 1) := by decide +kernel
theorem dX10_knownBy_118 : decode cX10_knownBy 118 = .ok (.invokevirtual 137, 3) := by decide +kernel
theorem dX10_knownBy_121 : decode cX10_knownBy 121 = .ok (.ifCond .eq 7, 3) := by decide +kernel
theorem dX10_knownBy_124 : decode cX10_knownBy 124 = .ok (.iconst 1, 1) := by decide +kernel
theorem dX10_knownBy_125 : decode cX10_knownBy 125 = .ok (.goto 4, 3) := by decide +kernel
theorem dX10_knownBy_128 : decode cX10_knownBy 128 = .ok (.iconst 0, 1) := by decide +kernel
theorem dX10_knownBy_129 : decode cX10_knownBy 129 = .ok (.ireturn, 1) := by decide +kernel
set_option maxRecDepth 20000 in
theorem ggX10_known_X10_in : GoodIn wsX10_known wsX10_in := goodIn_r _ [4] rfl (by decide +kernel)
set_option maxRecDepth 20000 in
theorem gX10_known_X10_in : GoodIn wsX10_known (va_wsS RX10 63 yX10_in wsX10_in) := goodIn_app (goodIn_of _ (by decide +kernel)) ggX10_known_X10_in
set_option maxRecDepth 20000 in
theorem ggX10_known_X10_knownBy : GoodIn wsX10_known wsX10_knownBy := goodIn_r _ [8, 9, 10, 11, 12, 3, 13, 14, 15, 16, 17, 18, 19, 20, 21, 22, 23, 24, 25, 26, 27, 28, 29, 30, 31, 32, 33, 39, 40, 41, 42, 43, 44, 45, 46, 47, 48, 49, 50, 51, 52, 53, 54, 55, 56, 57, 58, 59, 60, 61, 62, 63] rfl (by decide +kernel)
set_option maxRecDepth 20000 in
theorem gX10_known_X10_knownBy : GoodIn wsX10_known (wsV RX10 153 RX10 yX10_knownBy wsX10_knownBy) := goodIn_app (goodIn_r _ [5, 6, 7, 3] rfl (by decide +kernel)) ggX10_known_X10_knownBy
set_option maxRecDepth 20000 in
theorem ggX10_known_X10_bad : GoodIn wsX10_known wsX10_bad := goodIn_r _ [37, 38, 39, 40, 41, 42, 43, 44, 45, 46, 47, 48, 49, 50, 51, 52, 53, 54, 55, 56, 57, 58, 59, 60, 61, 62, 63] rfl (by decide +kernel)
set_option maxRecDepth 20000 in
theorem gX10_known_X10_bad : GoodIn wsX10_known (wsV RX10 94 RX10 yX10_bad wsX10_bad) := goodIn_app (goodIn_r _ [34, 35, 36, 3] rfl (by decide +kernel)) ggX10_known_X10_bad
theorem dX10_known_0 : decode cX10_known 0 = .ok (.iload_n 1, 1) := by decide +kernel
theorem dX10_known_1 : decode cX10_known 1 = .ok (.iconst 0, 1) := by decide +kernel
theorem dX10_known_2 : decode cX10_known 2 = .ok (.iconst 4, 1) := by decide +kernel
theorem dX10_known_3 : decode cX10_known 3 = .ok (.invokestatic 63, 3) := by decide +kernel
theorem dX10_known_6 : decode cX10_known 6 = .ok (.ifCond .eq 11, 3) := by decide +kernel
theorem dX10_known_9 : decode cX10_known 9 = .ok (.aload_n 0, 1) := by decide +kernel
theorem dX10_known_10 : decode cX10_known 10 = .ok (.iload_n 1, 1) := by decide +kernel
theorem dX10_known_11 : decode cX10_known 11 = .ok (.invokevirtual 153, 3) := by decide +kernel
theorem dX10_known_14 : decode cX10_known 14 = .ok (.goto 7, 3) := by decide +kernel
theorem dX10_known_17 : decode cX10_known 17 = .ok (.aload_n 0, 1) := by decide +kernel
theorem dX10_known_18 : decode cX10_known 18 = .ok (.invokevirtual 94, 3) := by decide +kernel
theorem dX10_known_21 : decode cX10_known 21 = .ok (.ireturn, 1) := by decide +kernel
set_option maxRecDepth 20000 in
theorem ggX10_would_X10_isDeed : GoodIn wsX10_would wsX10_isDeed := goodIn_r _ [5, 6, 7, 4, 8] rfl (by decide +kernel)
set_option maxRecDepth 20000 in
theorem gX10_would_X10_isDeed : GoodIn wsX10_would (va_wsS RX10 91 yX10_isDeed wsX10_isDeed) := goodIn_app (goodIn_of _ (by decide +kernel)) ggX10_would_X10_isDeed
set_option maxRecDepth 20000 in
theorem ggX10_would_X10_bad : GoodIn wsX10_would wsX10_bad := goodIn_r _ [12, 13, 47, 48, 49, 50, 51, 52, 53, 54, 55, 56, 57, 58, 59, 60, 61, 62, 63, 64, 65, 66, 67, 68, 69, 70, 71] rfl (by decide +kernel)
set_option maxRecDepth 20000 in
theorem gX10_would_X10_bad : GoodIn wsX10_would (wsV RX10 94 RX10 yX10_bad wsX10_bad) := goodIn_app (goodIn_r _ [9, 10, 11, 4] rfl (by decide +kernel)) ggX10_would_X10_bad
set_option maxRecDepth 20000 in
theorem ggX10_would_X10_isSeen : GoodIn wsX10_would wsX10_isSeen := goodIn_r _ [17, 18, 47, 48, 49, 50, 51, 52, 53, 54, 55, 56, 57, 58, 59, 60, 61, 62, 63, 64, 65, 66, 67, 68, 69, 70, 71] rfl (by decide +kernel)
set_option maxRecDepth 20000 in
theorem gX10_would_X10_isSeen : GoodIn wsX10_would (wsV RX10 141 RX10 yX10_isSeen wsX10_isSeen) := goodIn_app (goodIn_r _ [14, 15, 16, 4] rfl (by decide +kernel)) ggX10_would_X10_isSeen
set_option maxRecDepth 20000 in
theorem ggX10_would_X10_no : GoodIn wsX10_would wsX10_no := goodIn_r _ [22, 13, 47, 48, 49, 50, 51, 52, 53, 54, 55, 56, 57, 58, 59, 60, 61, 62, 63, 64, 65, 66, 67, 68, 69, 70, 71] rfl (by decide +kernel)
set_option maxRecDepth 20000 in
theorem gX10_would_X10_no : GoodIn wsX10_would (wsV RX10 79 RX10 yX10_no wsX10_no) := goodIn_app (goodIn_r _ [19, 20, 21, 4] rfl (by decide +kernel)) ggX10_would_X10_no
set_option maxRecDepth 20000 in
theorem ggX10_would_X10_sawBy : GoodIn wsX10_would wsX10_sawBy := goodIn_r _ [26, 27, 28, 29, 4, 30, 31, 32, 33, 34, 35, 36, 37, 38, 39, 40, 41, 42, 43, 18, 47, 48, 49, 50, 51, 52, 53, 54, 55, 56, 57, 58, 59, 60, 61, 62, 63, 64, 65, 66, 67, 68, 69, 70, 71] rfl (by decide +kernel)
set_option maxRecDepth 20000 in
theorem gX10_would_X10_sawBy : GoodIn wsX10_would (wsV RX10 144 RX10 yX10_sawBy wsX10_sawBy) := goodIn_app (goodIn_r _ [23, 24, 25, 4] rfl (by decide +kernel)) ggX10_would_X10_sawBy
set_option maxRecDepth 20000 in
theorem ggX10_would_X10_verdict : GoodIn wsX10_would wsX10_verdict := goodIn_r _ [46] rfl (by decide +kernel)
set_option maxRecDepth 20000 in
theorem gX10_would_X10_verdict : GoodIn wsX10_would (va_wsS RX10 147 yX10_verdict wsX10_verdict) := goodIn_app (goodIn_of _ (by decide +kernel)) ggX10_would_X10_verdict
theorem dX10_would_0 : decode cX10_would 0 = .ok (.iload_n 1, 1) := by decide +kernel
theorem dX10_would_1 : decode cX10_would 1 = .ok (.invokestatic 91, 3) := by decide +kernel
theorem dX10_would_4 : decode cX10_would 4 = .ok (.ifCond .ne 8, 3) := by decide +kernel
theorem dX10_would_7 : decode cX10_would 7 = .ok (.aload_n 0, 1) := by decide +kernel
theorem dX10_would_8 : decode cX10_would 8 = .ok (.invokevirtual 94, 3) := by decide +kernel
theorem dX10_would_11 : decode cX10_would 11 = .ok (.ireturn, 1) := by decide +kernel
theorem dX10_would_12 : decode cX10_would 12 = .ok (.aload_n 0, 1) := by decide +kernel
theorem dX10_would_13 : decode cX10_would 13 = .ok (.iload_n 1, 1) := by decide +kernel
theorem dX10_would_14 : decode cX10_would 14 = .ok (.invokevirtual 141, 3) := by decide +kernel
theorem dX10_would_17 : decode cX10_would 17 = .ok (.ifCond .ne 8, 3) := by decide +kernel
theorem dX10_would_20 : decode cX10_would 20 = .ok (.aload_n 0, 1) := by decide +kernel
theorem dX10_would_21 : decode cX10_would 21 = .ok (.invokevirtual 79, 3) := by decide +kernel
theorem dX10_would_24 : decode cX10_would 24 = .ok (.ireturn, 1) := by decide +kernel
theorem dX10_would_25 : decode cX10_would 25 = .ok (.aload_n 0, 1) := by decide +kernel
theorem dX10_would_26 : decode cX10_would 26 = .ok (.aload_n 0, 1) := by decide +kernel
theorem dX10_would_27 : decode cX10_would 27 = .ok (.getfield 26, 3) := by decide +kernel
theorem dX10_would_30 : decode cX10_would 30 = .ok (.iload_n 1, 1) := by decide +kernel
theorem dX10_would_31 : decode cX10_would 31 = .ok (.invokevirtual 144, 3) := by decide +kernel
theorem dX10_would_34 : decode cX10_would 34 = .ok (.istore_n 2, 1) := by decide +kernel
theorem dX10_would_35 : decode cX10_would 35 = .ok (.iload_n 2, 1) := by decide +kernel
theorem dX10_would_36 : decode cX10_would 36 = .ok (.ifCond .ne 7, 3) := by decide +kernel
theorem dX10_would_39 : decode cX10_would 39 = .ok (.iconst (-1), 1) := by decide +kernel
theorem dX10_would_40 : decode cX10_would 40 = .ok (.goto 7, 3) := by decide +kernel
theorem dX10_would_43 : decode cX10_would 43 = .ok (.iload_n 2, 1) := by decide +kernel
theorem dX10_would_44 : decode cX10_would 44 = .ok (.invokestatic 147, 3) := by decide +kernel
theorem dX10_would_47 : decode cX10_would 47 = .ok (.ireturn, 1) := by decide +kernel
set_option maxRecDepth 20000 in
theorem ggX10_sight_X10_bad : GoodIn wsX10_sight wsX10_bad := goodIn_r _ [7, 8, 9, 10, 11, 12, 13, 14, 15, 16, 17, 18, 19, 20, 21, 22, 23, 24, 25, 26, 27, 28, 29, 30, 31, 32, 33] rfl (by decide +kernel)
set_option maxRecDepth 20000 in
theorem gX10_sight_X10_bad : GoodIn wsX10_sight (wsV RX10 94 RX10 yX10_bad wsX10_bad) := goodIn_app (goodIn_r _ [3, 4, 5, 6] rfl (by decide +kernel)) ggX10_sight_X10_bad
theorem dX10_sight_0 : decode cX10_sight 0 = .ok (.iload_n 1, 1) := by decide +kernel
theorem dX10_sight_1 : decode cX10_sight 1 = .ok (.ifCond .ge 8, 3) := by decide +kernel
theorem dX10_sight_4 : decode cX10_sight 4 = .ok (.aload_n 0, 1) := by decide +kernel
theorem dX10_sight_5 : decode cX10_sight 5 = .ok (.invokevirtual 94, 3) := by decide +kernel
theorem dX10_sight_8 : decode cX10_sight 8 = .ok (.ireturn, 1) := by decide +kernel
theorem dX10_sight_9 : decode cX10_sight 9 = .ok (.iload_n 1, 1) := by decide +kernel
theorem dX10_sight_10 : decode cX10_sight 10 = .ok (.aload_n 0, 1) := by decide +kernel
theorem dX10_sight_11 : decode cX10_sight 11 = .ok (.getfield 76, 3) := by decide +kernel
theorem dX10_sight_14 : decode cX10_sight 14 = .ok (.if_icmp .ge 12, 3) := by decide +kernel
theorem dX10_sight_17 : decode cX10_sight 17 = .ok (.aload_n 0, 1) := by decide +kernel
theorem dX10_sight_18 : decode cX10_sight 18 = .ok (.getfield 29, 3) := by decide +kernel
theorem dX10_sight_21 : decode cX10_sight 21 = .ok (.iload_n 1, 1) := by decide +kernel
theorem dX10_sight_22 : decode cX10_sight 22 = .ok (.iaload, 1) := by decide +kernel
theorem dX10_sight_23 : decode cX10_sight 23 = .ok (.goto 4, 3) := by decide +kernel
theorem dX10_sight_26 : decode cX10_sight 26 = .ok (.iconst (-1), 1) := by decide +kernel
theorem dX10_sight_27 : decode cX10_sight 27 = .ok (.ireturn, 1) := by decide +kernel
set_option maxRecDepth 20000 in
theorem ggX10_allMarks_X10_stepped : GoodIn wsX10_allMarks wsX10_stepped := goodIn_r _ [5, 6, 7, 8, 9, 10, 11, 12, 4, 13, 14, 15, 16, 17, 18, 19, 20, 21, 22, 23, 24, 25, 26, 27, 28, 29, 30, 31, 32, 33, 34, 35, 36, 37, 38, 39] rfl (by decide +kernel)
set_option maxRecDepth 20000 in
theorem gX10_allMarks_X10_stepped : GoodIn wsX10_allMarks (wsV RX10 137 RX10 yX10_stepped wsX10_stepped) := goodIn_app (goodIn_r _ [1, 2, 3, 4] rfl (by decide +kernel)) ggX10_allMarks_X10_stepped
theorem dX10_allMarks_0 : decode cX10_allMarks 0 = .ok (.iconst 1, 1) := by decide +kernel
theorem dX10_allMarks_1 : decode cX10_allMarks 1 = .ok (.istore_n 1, 1) := by decide +kernel
theorem dX10_allMarks_2 : decode cX10_allMarks 2 = .ok (.iconst 0, 1) := by decide +kernel
theorem dX10_allMarks_3 : decode cX10_allMarks 3 = .ok (.istore_n 2, 1) := by decide +kernel
theorem dX10_allMarks_4 : decode cX10_allMarks 4 = .ok (.iload_n 2, 1) := by decide +kernel
theorem dX10_allMarks_5 : decode cX10_allMarks 5 = .ok (.iload_n 1, 1) := by decide +kernel
theorem dX10_allMarks_6 : decode cX10_allMarks 6 = .ok (.if_icmp .eq 19, 3) := by decide +kernel
theorem dX10_allMarks_9 : decode cX10_allMarks 9 = .ok (.iload_n 1, 1) := by decide +kernel
theorem dX10_allMarks_10 : decode cX10_allMarks 10 = .ok (.istore_n 2, 1) := by decide +kernel
theorem dX10_allMarks_11 : decode cX10_allMarks 11 = .ok (.iload_n 1, 1) := by decide +kernel
theorem dX10_allMarks_12 : decode cX10_allMarks 12 = .ok (.aload_n 0, 1) := by decide +kernel
theorem dX10_allMarks_13 : decode cX10_allMarks 13 = .ok (.iload_n 1, 1) := by decide +kernel
theorem dX10_allMarks_14 : decode cX10_allMarks 14 = .ok (.sipush 255, 3) := by decide +kernel
theorem dX10_allMarks_17 : decode cX10_allMarks 17 = .ok (.invokevirtual 137, 3) := by decide +kernel
theorem dX10_allMarks_20 : decode cX10_allMarks 20 = .ok (.ior, 1) := by decide +kernel
theorem dX10_allMarks_21 : decode cX10_allMarks 21 = .ok (.istore_n 1, 1) := by decide +kernel
theorem dX10_allMarks_22 : decode cX10_allMarks 22 = .ok (.goto (-18), 3) := by decide +kernel
theorem dX10_allMarks_25 : decode cX10_allMarks 25 = .ok (.iload_n 1, 1) := by decide +kernel
theorem dX10_allMarks_26 : decode cX10_allMarks 26 = .ok (.ireturn, 1) := by decide +kernel
set_option maxRecDepth 20000 in
theorem ggX10_of_X10_in : GoodIn wsX10_of wsX10_in := goodIn_r _ [8] rfl (by decide +kernel)
set_option maxRecDepth 20000 in
theorem gX10_of_X10_in : GoodIn wsX10_of (va_wsS RX10 63 yX10_in wsX10_in) := goodIn_app (goodIn_of _ (by decide +kernel)) ggX10_of_X10_in
set_option maxRecDepth 20000 in
theorem ggX10_of_X10_bad : GoodIn wsX10_of wsX10_bad := goodIn_r _ [12, 13, 27, 28, 29, 30, 31, 32, 33, 34, 35, 36, 37, 38, 39, 40, 41, 42, 43, 44, 45, 46, 47, 48, 49, 50, 51] rfl (by decide +kernel)
set_option maxRecDepth 20000 in
theorem gX10_of_X10_bad : GoodIn wsX10_of (wsV RX10 94 RX10 yX10_bad wsX10_bad) := goodIn_app (goodIn_r _ [9, 10, 11, 7] rfl (by decide +kernel)) ggX10_of_X10_bad
set_option maxRecDepth 20000 in
theorem ggX10_of_X10_allMarks : GoodIn wsX10_of wsX10_allMarks := goodIn_r _ [17, 18, 19, 20, 7, 21, 1, 3, 2, 4, 22, 23, 24, 25, 26, 27, 28, 29, 30, 31, 32, 33, 34, 35, 36, 37, 38, 39, 40, 41, 42, 43, 44, 45, 46, 47, 48, 49, 50, 51] rfl (by decide +kernel)
set_option maxRecDepth 20000 in
theorem gX10_of_X10_allMarks : GoodIn wsX10_of (wsV RX10 156 RX10 yX10_allMarks wsX10_allMarks) := goodIn_app (goodIn_r _ [14, 15, 16, 7] rfl (by decide +kernel)) ggX10_of_X10_allMarks
theorem dX10_of_0 : decode cX10_of 0 = .ok (.iload_n 1, 1) := by decide +kernel
theorem dX10_of_1 : decode cX10_of 1 = .ok (.iconst 0, 1) := by decide +kernel
theorem dX10_of_2 : decode cX10_of 2 = .ok (.aload_n 0, 1) := by decide +kernel
theorem dX10_of_3 : decode cX10_of 3 = .ok (.getfield 70, 3) := by decide +kernel
theorem dX10_of_6 : decode cX10_of 6 = .ok (.iconst 1, 1) := by decide +kernel
theorem dX10_of_7 : decode cX10_of 7 = .ok (.isub, 1) := by decide +kernel
theorem dX10_of_8 : decode cX10_of 8 = .ok (.invokestatic 63, 3) := by decide +kernel
theorem dX10_of_11 : decode cX10_of 11 = .ok (.ifCond .eq 12, 3) := by decide +kernel
theorem dX10_of_14 : decode cX10_of 14 = .ok (.iload_n 2, 1) := by decide +kernel
theorem dX10_of_15 : decode cX10_of 15 = .ok (.iconst 0, 1) := by decide +kernel
theorem dX10_of_16 : decode cX10_of 16 = .ok (.iconst 3, 1) := by decide +kernel
theorem dX10_of_17 : decode cX10_of 17 = .ok (.invokestatic 63, 3) := by decide +kernel
theorem dX10_of_20 : decode cX10_of 20 = .ok (.ifCond .ne 8, 3) := by decide +kernel
theorem dX10_of_23 : decode cX10_of 23 = .ok (.aload_n 0, 1) := by decide +kernel
theorem dX10_of_24 : decode cX10_of 24 = .ok (.invokevirtual 94, 3) := by decide +kernel
theorem dX10_of_27 : decode cX10_of 27 = .ok (.ireturn, 1) := by decide +kernel
theorem dX10_of_28 : decode cX10_of 28 = .ok (.iload_n 2, 1) := by decide +kernel
theorem dX10_of_29 : decode cX10_of 29 = .ok (.iconst 3, 1) := by decide +kernel
theorem dX10_of_30 : decode cX10_of 30 = .ok (.if_icmp .ne 41, 3) := by decide +kernel
theorem dX10_of_33 : decode cX10_of 33 = .ok (.aload_n 0, 1) := by decide +kernel
theorem dX10_of_34 : decode cX10_of 34 = .ok (.invokevirtual 156, 3) := by decide +kernel
theorem dX10_of_37 : decode cX10_of 37 = .ok (.istore_n 3, 1) := by decide +kernel
theorem dX10_of_38 : decode cX10_of 38 = .ok (.iload_n 3, 1) := by decide +kernel
theorem dX10_of_39 : decode cX10_of 39 = .ok (.aload_n 0, 1) := by decide +kernel
theorem dX10_of_40 : decode cX10_of 40 = .ok (.getfield 13, 3) := by decide +kernel
theorem dX10_of_43 : decode cX10_of 43 = .ok (.iload_n 1, 1) := by decide +kernel
theorem dX10_of_44 : decode cX10_of 44 = .ok (.iaload, 1) := by decide +kernel
theorem dX10_of_45 : decode cX10_of 45 = .ok (.ishr, 1) := by decide +kernel
theorem dX10_of_46 : decode cX10_of 46 = .ok (.iconst 1, 1) := by decide +kernel
theorem dX10_of_47 : decode cX10_of 47 = .ok (.iand, 1) := by decide +kernel
theorem dX10_of_48 : decode cX10_of 48 = .ok (.iload_n 3, 1) := by decide +kernel
theorem dX10_of_49 : decode cX10_of 49 = .ok (.aload_n 0, 1) := by decide +kernel
theorem dX10_of_50 : decode cX10_of 50 = .ok (.getfield 13, 3) := by decide +kernel
theorem dX10_of_53 : decode cX10_of 53 = .ok (.iload_n 1, 1) := by decide +kernel
theorem dX10_of_54 : decode cX10_of 54 = .ok (.iaload, 1) := by decide +kernel
theorem dX10_of_55 : decode cX10_of 55 = .ok (.bipush 10, 2) := by decide +kernel
theorem dX10_of_57 : decode cX10_of 57 = .ok (.iadd, 1) := by decide +kernel
theorem dX10_of_58 : decode cX10_of 58 = .ok (.ishr, 1) := by decide +kernel
theorem dX10_of_59 : decode cX10_of 59 = .ok (.iconst 1, 1) := by decide +kernel
theorem dX10_of_60 : decode cX10_of 60 = .ok (.iand, 1) := by decide +kernel
theorem dX10_of_61 : decode cX10_of 61 = .ok (.iadd, 1) := by decide +kernel
theorem dX10_of_62 : decode cX10_of 62 = .ok (.ifCond .le 7, 3) := by decide +kernel
theorem dX10_of_65 : decode cX10_of 65 = .ok (.iconst 1, 1) := by decide +kernel
theorem dX10_of_66 : decode cX10_of 66 = .ok (.goto 4, 3) := by decide +kernel
theorem dX10_of_69 : decode cX10_of 69 = .ok (.iconst 0, 1) := by decide +kernel
theorem dX10_of_70 : decode cX10_of 70 = .ok (.ireturn, 1) := by decide +kernel
theorem dX10_of_71 : decode cX10_of 71 = .ok (.iload_n 2, 1) := by decide +kernel
theorem dX10_of_72 : decode cX10_of 72 = .ok (.ifCond .ne 12, 3) := by decide +kernel
theorem dX10_of_75 : decode cX10_of 75 = .ok (.aload_n 0, 1) := by decide +kernel
theorem dX10_of_76 : decode cX10_of 76 = .ok (.getfield 13, 3) := by decide +kernel
theorem dX10_of_79 : decode cX10_of 79 = .ok (.iload_n 1, 1) := by decide +kernel
theorem dX10_of_80 : decode cX10_of 80 = .ok (.iaload, 1) := by decide +kernel
theorem dX10_of_81 : decode cX10_of 81 = .ok (.goto 23, 3) := by decide +kernel
theorem dX10_of_84 : decode cX10_of 84 = .ok (.iload_n 2, 1) := by decide +kernel
theorem dX10_of_85 : decode cX10_of 85 = .ok (.iconst 1, 1) := by decide +kernel
theorem dX10_of_86 : decode cX10_of 86 = .ok (.if_icmp .ne 12, 3) := by decide +kernel
theorem dX10_of_89 : decode cX10_of 89 = .ok (.aload_n 0, 1) := by decide +kernel
theorem dX10_of_90 : decode cX10_of 90 = .ok (.getfield 16, 3) := by decide +kernel
theorem dX10_of_93 : decode cX10_of 93 = .ok (.iload_n 1, 1) := by decide +kernel
theorem dX10_of_94 : decode cX10_of 94 = .ok (.iaload, 1) := by decide +kernel
theorem dX10_of_95 : decode cX10_of 95 = .ok (.goto 9, 3) := by decide +kernel
theorem dX10_of_98 : decode cX10_of 98 = .ok (.aload_n 0, 1) := by decide +kernel
theorem dX10_of_99 : decode cX10_of 99 = .ok (.getfield 19, 3) := by decide +kernel
theorem dX10_of_102 : decode cX10_of 102 = .ok (.iload_n 1, 1) := by decide +kernel
theorem dX10_of_103 : decode cX10_of 103 = .ok (.iaload, 1) := by decide +kernel
theorem dX10_of_104 : decode cX10_of 104 = .ok (.ireturn, 1) := by decide +kernel
theorem dX10_comesSet_0 : decode cX10_comesSet 0 = .ok (.iload_n 1, 1) := by decide +kernel
theorem dX10_comesSet_1 : decode cX10_comesSet 1 = .ok (.ifCond .eq 17, 3) := by decide +kernel
theorem dX10_comesSet_4 : decode cX10_comesSet 4 = .ok (.aload_n 0, 1) := by decide +kernel
theorem dX10_comesSet_5 : decode cX10_comesSet 5 = .ok (.getfield 159, 3) := by decide +kernel
theorem dX10_comesSet_8 : decode cX10_comesSet 8 = .ok (.sipush 500, 3) := by decide +kernel
theorem dX10_comesSet_11 : decode cX10_comesSet 11 = .ok (.if_icmp .ge 7, 3) := by decide +kernel
theorem dX10_comesSet_14 : decode cX10_comesSet 14 = .ok (.iconst 1, 1) := by decide +kernel
theorem dX10_comesSet_15 : decode cX10_comesSet 15 = .ok (.goto 4, 3) := by decide +kernel
theorem dX10_comesSet_18 : decode cX10_comesSet 18 = .ok (.iconst 0, 1) := by decide +kernel
theorem dX10_comesSet_19 : decode cX10_comesSet 19 = .ok (.istore_n 3, 1) := by decide +kernel
theorem dX10_comesSet_20 : decode cX10_comesSet 20 = .ok (.iconst 0, 1) := by decide +kernel
theorem dX10_comesSet_21 : decode cX10_comesSet 21 = .ok (.istore 4, 2) := by decide +kernel
theorem dX10_comesSet_23 : decode cX10_comesSet 23 = .ok (.iload 4, 2) := by decide +kernel
theorem dX10_comesSet_25 : decode cX10_comesSet 25 = .ok (.aload_n 0, 1) := by decide +kernel
theorem dX10_comesSet_26 : decode cX10_comesSet 26 = .ok (.getfield 159, 3) := by decide +kernel
theorem dX10_comesSet_29 : decode cX10_comesSet 29 = .ok (.if_icmp .ge 30, 3) := by decide +kernel
theorem dX10_comesSet_32 : decode cX10_comesSet 32 = .ok (.iload_n 3, 1) := by decide +kernel
theorem dX10_comesSet_33 : decode cX10_comesSet 33 = .ok (.ifCond .eq 26, 3) := by decide +kernel
theorem dX10_comesSet_36 : decode cX10_comesSet 36 = .ok (.aload_n 0, 1) := by decide +kernel
theorem dX10_comesSet_37 : decode cX10_comesSet 37 = .ok (.getfield 35, 3) := by decide +kernel
theorem dX10_comesSet_40 : decode cX10_comesSet 40 = .ok (.iload 4, 2) := by decide +kernel
theorem dX10_comesSet_42 : decode cX10_comesSet 42 = .ok (.iaload, 1) := by decide +kernel
theorem dX10_comesSet_43 : decode cX10_comesSet 43 = .ok (.iload_n 1, 1) := by decide +kernel
theorem dX10_comesSet_44 : decode cX10_comesSet 44 = .ok (.if_icmp .eq 7, 3) := by decide +kernel
theorem dX10_comesSet_47 : decode cX10_comesSet 47 = .ok (.iconst 1, 1) := by decide +kernel
theorem dX10_comesSet_48 : decode cX10_comesSet 48 = .ok (.goto 4, 3) := by decide +kernel
theorem dX10_comesSet_51 : decode cX10_comesSet 51 = .ok (.iconst 0, 1) := by decide +kernel
theorem dX10_comesSet_52 : decode cX10_comesSet 52 = .ok (.istore_n 3, 1) := by decide +kernel
theorem dX10_comesSet_53 : decode cX10_comesSet 53 = .ok (.iinc 4 1, 3) := by decide +kernel
theorem dX10_comesSet_56 : decode cX10_comesSet 56 = .ok (.goto (-33), 3) := by decide +kernel
theorem dX10_comesSet_59 : decode cX10_comesSet 59 = .ok (.iload_n 3, 1) := by decide +kernel
theorem dX10_comesSet_60 : decode cX10_comesSet 60 = .ok (.ifCond .eq 33, 3) := by decide +kernel
theorem dX10_comesSet_63 : decode cX10_comesSet 63 = .ok (.aload_n 0, 1) := by decide +kernel
theorem dX10_comesSet_64 : decode cX10_comesSet 64 = .ok (.getfield 35, 3) := by decide +kernel
theorem dX10_comesSet_67 : decode cX10_comesSet 67 = .ok (.aload_n 0, 1) := by decide +kernel
theorem dX10_comesSet_68 : decode cX10_comesSet 68 = .ok (.getfield 159, 3) := by decide +kernel
theorem dX10_comesSet_71 : decode cX10_comesSet 71 = .ok (.iload_n 1, 1) := by decide +kernel
theorem dX10_comesSet_72 : decode cX10_comesSet 72 = .ok (.iastore, 1) := by decide +kernel
theorem dX10_comesSet_73 : decode cX10_comesSet 73 = .ok (.aload_n 0, 1) := by decide +kernel
theorem dX10_comesSet_74 : decode cX10_comesSet 74 = .ok (.getfield 38, 3) := by decide +kernel
theorem dX10_comesSet_77 : decode cX10_comesSet 77 = .ok (.aload_n 0, 1) := by decide +kernel
theorem dX10_comesSet_78 : decode cX10_comesSet 78 = .ok (.getfield 159, 3) := by decide +kernel
theorem dX10_comesSet_81 : decode cX10_comesSet 81 = .ok (.iload_n 2, 1) := by decide +kernel
theorem dX10_comesSet_82 : decode cX10_comesSet 82 = .ok (.iastore, 1) := by decide +kernel
theorem dX10_comesSet_83 : decode cX10_comesSet 83 = .ok (.aload_n 0, 1) := by decide +kernel
theorem dX10_comesSet_84 : decode cX10_comesSet 84 = .ok (.dup, 1) := by decide +kernel
theorem dX10_comesSet_85 : decode cX10_comesSet 85 = .ok (.getfield 159, 3) := by decide +kernel
theorem dX10_comesSet_88 : decode cX10_comesSet 88 = .ok (.iconst 1, 1) := by decide +kernel
theorem dX10_comesSet_89 : decode cX10_comesSet 89 = .ok (.iadd, 1) := by decide +kernel
theorem dX10_comesSet_90 : decode cX10_comesSet 90 = .ok (.putfield 159, 3) := by decide +kernel
theorem dX10_comesSet_93 : decode cX10_comesSet 93 = .ok (.return_, 1) := by decide +kernel
set_option maxRecDepth 20000 in
theorem ggX10_findsSets_X10_closed : GoodIn wsX10_findsSets wsX10_closed := goodIn_r _ [8, 9, 10, 11, 12, 7, 13, 14, 15, 16, 17, 18, 19, 20, 21, 22, 35, 36, 37, 38, 39, 40, 41, 42, 43, 44, 45, 46, 47, 48, 49, 50, 51, 52, 53, 54, 55, 56, 57, 58, 59] rfl (by decide +kernel)
set_option maxRecDepth 20000 in
theorem gX10_findsSets_X10_closed : GoodIn wsX10_findsSets (wsV RX10 83 RX10 yX10_closed wsX10_closed) := goodIn_app (goodIn_r _ [4, 5, 6, 7] rfl (by decide +kernel)) ggX10_findsSets_X10_closed
set_option maxRecDepth 20000 in
theorem ggX10_findsSets_X10_comesSet : GoodIn wsX10_findsSets wsX10_comesSet := goodIn_r _ [26, 1, 2, 3, 35, 36, 37, 38, 39, 40, 41, 42, 43, 44, 45, 46, 47, 48, 49, 50, 51, 52, 53, 54, 55, 56, 57, 58, 59] rfl (by decide +kernel)
set_option maxRecDepth 20000 in
theorem gX10_findsSets_X10_comesSet : GoodIn wsX10_findsSets (wsV RX10 162 RX10 yX10_comesSet wsX10_comesSet) := goodIn_app (goodIn_r _ [23, 24, 25, 7] rfl (by decide +kernel)) ggX10_findsSets_X10_comesSet
set_option maxRecDepth 20000 in
theorem ggX10_findsSets_X10_isSeen : GoodIn wsX10_findsSets wsX10_isSeen := goodIn_r _ [30, 9, 35, 36, 37, 38, 39, 40, 41, 42, 43, 44, 45, 46, 47, 48, 49, 50, 51, 52, 53, 54, 55, 56, 57, 58, 59] rfl (by decide +kernel)
set_option maxRecDepth 20000 in
theorem gX10_findsSets_X10_isSeen : GoodIn wsX10_findsSets (wsV RX10 141 RX10 yX10_isSeen wsX10_isSeen) := goodIn_app (goodIn_r _ [27, 28, 29, 7] rfl (by decide +kernel)) ggX10_findsSets_X10_isSeen
set_option maxRecDepth 20000 in
theorem ggX10_findsSets_X10_sawBy : GoodIn wsX10_findsSets wsX10_sawBy := goodIn_r _ [34, 10, 11, 12, 7, 13, 14, 15, 16, 17, 18, 19, 20, 21, 22, 4, 5, 6, 8, 9, 35, 36, 37, 38, 39, 40, 41, 42, 43, 44, 45, 46, 47, 48, 49, 50, 51, 52, 53, 54, 55, 56, 57, 58, 59] rfl (by decide +kernel)
set_option maxRecDepth 20000 in
theorem gX10_findsSets_X10_sawBy : GoodIn wsX10_findsSets (wsV RX10 144 RX10 yX10_sawBy wsX10_sawBy) := goodIn_app (goodIn_r _ [31, 32, 33, 7] rfl (by decide +kernel)) ggX10_findsSets_X10_sawBy
theorem dX10_findsSets_0 : decode cX10_findsSets 0 = .ok (.aload_n 0, 1) := by decide +kernel
theorem dX10_findsSets_1 : decode cX10_findsSets 1 = .ok (.iconst 0, 1) := by decide +kernel
theorem dX10_findsSets_2 : decode cX10_findsSets 2 = .ok (.putfield 159, 3) := by decide +kernel
theorem dX10_findsSets_5 : decode cX10_findsSets 5 = .ok (.aload_n 0, 1) := by decide +kernel
theorem dX10_findsSets_6 : decode cX10_findsSets 6 = .ok (.aload_n 0, 1) := by decide +kernel
theorem dX10_findsSets_7 : decode cX10_findsSets 7 = .ok (.iconst 1, 1) := by decide +kernel
theorem dX10_findsSets_8 : decode cX10_findsSets 8 = .ok (.invokevirtual 83, 3) := by decide +kernel
theorem dX10_findsSets_11 : decode cX10_findsSets 11 = .ok (.iconst 0, 1) := by decide +kernel
theorem dX10_findsSets_12 : decode cX10_findsSets 12 = .ok (.invokevirtual 162, 3) := by decide +kernel
theorem dX10_findsSets_15 : decode cX10_findsSets 15 = .ok (.iconst 0, 1) := by decide +kernel
theorem dX10_findsSets_16 : decode cX10_findsSets 16 = .ok (.istore_n 1, 1) := by decide +kernel
theorem dX10_findsSets_17 : decode cX10_findsSets 17 = .ok (.iload_n 1, 1) := by decide +kernel
theorem dX10_findsSets_18 : decode cX10_findsSets 18 = .ok (.aload_n 0, 1) := by decide +kernel
theorem dX10_findsSets_19 : decode cX10_findsSets 19 = .ok (.getfield 159, 3) := by decide +kernel
theorem dX10_findsSets_22 : decode cX10_findsSets 22 = .ok (.if_icmp .ge 54, 3) := by decide +kernel
theorem dX10_findsSets_25 : decode cX10_findsSets 25 = .ok (.iconst 0, 1) := by decide +kernel
theorem dX10_findsSets_26 : decode cX10_findsSets 26 = .ok (.istore_n 2, 1) := by decide +kernel
theorem dX10_findsSets_27 : decode cX10_findsSets 27 = .ok (.iload_n 2, 1) := by decide +kernel
theorem dX10_findsSets_28 : decode cX10_findsSets 28 = .ok (.bipush 8, 2) := by decide +kernel
theorem dX10_findsSets_30 : decode cX10_findsSets 30 = .ok (.if_icmp .ge 40, 3) := by decide +kernel
theorem dX10_findsSets_33 : decode cX10_findsSets 33 = .ok (.aload_n 0, 1) := by decide +kernel
theorem dX10_findsSets_34 : decode cX10_findsSets 34 = .ok (.iload_n 2, 1) := by decide +kernel
theorem dX10_findsSets_35 : decode cX10_findsSets 35 = .ok (.invokevirtual 141, 3) := by decide +kernel
theorem dX10_findsSets_38 : decode cX10_findsSets 38 = .ok (.ifCond .eq 26, 3) := by decide +kernel
theorem dX10_findsSets_41 : decode cX10_findsSets 41 = .ok (.aload_n 0, 1) := by decide +kernel
theorem dX10_findsSets_42 : decode cX10_findsSets 42 = .ok (.aload_n 0, 1) := by decide +kernel
theorem dX10_findsSets_43 : decode cX10_findsSets 43 = .ok (.aload_n 0, 1) := by decide +kernel
theorem dX10_findsSets_44 : decode cX10_findsSets 44 = .ok (.getfield 35, 3) := by decide +kernel
theorem dX10_findsSets_47 : decode cX10_findsSets 47 = .ok (.iload_n 1, 1) := by decide +kernel
theorem dX10_findsSets_48 : decode cX10_findsSets 48 = .ok (.iaload, 1) := by decide +kernel
theorem dX10_findsSets_49 : decode cX10_findsSets 49 = .ok (.iload_n 2, 1) := by decide +kernel
theorem dX10_findsSets_50 : decode cX10_findsSets 50 = .ok (.invokevirtual 144, 3) := by decide +kernel
theorem dX10_findsSets_53 : decode cX10_findsSets 53 = .ok (.aload_n 0, 1) := by decide +kernel
theorem dX10_findsSets_54 : decode cX10_findsSets 54 = .ok (.getfield 38, 3) := by decide +kernel
theorem dX10_findsSets_57 : decode cX10_findsSets 57 = .ok (.iload_n 1, 1) := by decide +kernel
theorem dX10_findsSets_58 : decode cX10_findsSets 58 = .ok (.iaload, 1) := by decide +kernel
theorem dX10_findsSets_59 : decode cX10_findsSets 59 = .ok (.iconst 1, 1) := by decide +kernel
theorem dX10_findsSets_60 : decode cX10_findsSets 60 = .ok (.iadd, 1) := by decide +kernel
theorem dX10_findsSets_61 : decode cX10_findsSets 61 = .ok (.invokevirtual 162, 3) := by decide +kernel
theorem dX10_findsSets_64 : decode cX10_findsSets 64 = .ok (.iinc 2 1, 3) := by decide +kernel
theorem dX10_findsSets_67 : decode cX10_findsSets 67 = .ok (.goto (-40), 3) := by decide +kernel
theorem dX10_findsSets_70 : decode cX10_findsSets 70 = .ok (.iinc 1 1, 3) := by decide +kernel
theorem dX10_findsSets_73 : decode cX10_findsSets 73 = .ok (.goto (-56), 3) := by decide +kernel
theorem dX10_findsSets_76 : decode cX10_findsSets 76 = .ok (.return_, 1) := by decide +kernel
set_option maxRecDepth 20000 in
theorem ggX10_setsWith_X10_verdict : GoodIn wsX10_setsWith wsX10_verdict := goodIn_r _ [6] rfl (by decide +kernel)
set_option maxRecDepth 20000 in
theorem gX10_setsWith_X10_verdict : GoodIn wsX10_setsWith (va_wsS RX10 147 yX10_verdict wsX10_verdict) := goodIn_app (goodIn_of _ (by decide +kernel)) ggX10_setsWith_X10_verdict
theorem dX10_setsWith_0 : decode cX10_setsWith 0 = .ok (.iconst 0, 1) := by decide +kernel
theorem dX10_setsWith_1 : decode cX10_setsWith 1 = .ok (.istore_n 2, 1) := by decide +kernel
theorem dX10_setsWith_2 : decode cX10_setsWith 2 = .ok (.iconst 0, 1) := by decide +kernel
theorem dX10_setsWith_3 : decode cX10_setsWith 3 = .ok (.istore_n 3, 1) := by decide +kernel
theorem dX10_setsWith_4 : decode cX10_setsWith 4 = .ok (.iload_n 3, 1) := by decide +kernel
theorem dX10_setsWith_5 : decode cX10_setsWith 5 = .ok (.aload_n 0, 1) := by decide +kernel
theorem dX10_setsWith_6 : decode cX10_setsWith 6 = .ok (.getfield 159, 3) := by decide +kernel
theorem dX10_setsWith_9 : decode cX10_setsWith 9 = .ok (.if_icmp .ge 30, 3) := by decide +kernel
theorem dX10_setsWith_12 : decode cX10_setsWith 12 = .ok (.iload_n 2, 1) := by decide +kernel
theorem dX10_setsWith_13 : decode cX10_setsWith 13 = .ok (.aload_n 0, 1) := by decide +kernel
theorem dX10_setsWith_14 : decode cX10_setsWith 14 = .ok (.getfield 35, 3) := by decide +kernel
theorem dX10_setsWith_17 : decode cX10_setsWith 17 = .ok (.iload_n 3, 1) := by decide +kernel
theorem dX10_setsWith_18 : decode cX10_setsWith 18 = .ok (.iaload, 1) := by decide +kernel
theorem dX10_setsWith_19 : decode cX10_setsWith 19 = .ok (.invokestatic 147, 3) := by decide +kernel
theorem dX10_setsWith_22 : decode cX10_setsWith 22 = .ok (.iload_n 1, 1) := by decide +kernel
theorem dX10_setsWith_23 : decode cX10_setsWith 23 = .ok (.if_icmp .ne 7, 3) := by decide +kernel
theorem dX10_setsWith_26 : decode cX10_setsWith 26 = .ok (.iconst 1, 1) := by decide +kernel
theorem dX10_setsWith_27 : decode cX10_setsWith 27 = .ok (.goto 4, 3) := by decide +kernel
theorem dX10_setsWith_30 : decode cX10_setsWith 30 = .ok (.iconst 0, 1) := by decide +kernel
theorem dX10_setsWith_31 : decode cX10_setsWith 31 = .ok (.iadd, 1) := by decide +kernel
theorem dX10_setsWith_32 : decode cX10_setsWith 32 = .ok (.istore_n 2, 1) := by decide +kernel
theorem dX10_setsWith_33 : decode cX10_setsWith 33 = .ok (.iinc 3 1, 3) := by decide +kernel
theorem dX10_setsWith_36 : decode cX10_setsWith 36 = .ok (.goto (-32), 3) := by decide +kernel
theorem dX10_setsWith_39 : decode cX10_setsWith 39 = .ok (.iload_n 2, 1) := by decide +kernel
theorem dX10_setsWith_40 : decode cX10_setsWith 40 = .ok (.ireturn, 1) := by decide +kernel
theorem dX10_markBehind_0 : decode cX10_markBehind 0 = .ok (.iload_n 0, 1) := by decide +kernel
theorem dX10_markBehind_1 : decode cX10_markBehind 1 = .ok (.bipush 10, 2) := by decide +kernel
theorem dX10_markBehind_3 : decode cX10_markBehind 3 = .ok (.if_icmp .ge 7, 3) := by decide +kernel
theorem dX10_markBehind_6 : decode cX10_markBehind 6 = .ok (.iload_n 2, 1) := by decide +kernel
theorem dX10_markBehind_7 : decode cX10_markBehind 7 = .ok (.ifCond .eq 8, 3) := by decide +kernel
theorem dX10_markBehind_10 : decode cX10_markBehind 10 = .ok (.bipush 10, 2) := by decide +kernel
theorem dX10_markBehind_12 : decode cX10_markBehind 12 = .ok (.goto 4, 3) := by decide +kernel
theorem dX10_markBehind_15 : decode cX10_markBehind 15 = .ok (.iconst 0, 1) := by decide +kernel
theorem dX10_markBehind_16 : decode cX10_markBehind 16 = .ok (.iload_n 1, 1) := by decide +kernel
theorem dX10_markBehind_17 : decode cX10_markBehind 17 = .ok (.iadd, 1) := by decide +kernel
theorem dX10_markBehind_18 : decode cX10_markBehind 18 = .ok (.ireturn, 1) := by decide +kernel
theorem dX10_comesPair_0 : decode cX10_comesPair 0 = .ok (.aload_n 0, 1) := by decide +kernel
theorem dX10_comesPair_1 : decode cX10_comesPair 1 = .ok (.getfield 41, 3) := by decide +kernel
theorem dX10_comesPair_4 : decode cX10_comesPair 4 = .ok (.bipush 10, 2) := by decide +kernel
theorem dX10_comesPair_6 : decode cX10_comesPair 6 = .ok (.iload_n 1, 1) := by decide +kernel
theorem dX10_comesPair_7 : decode cX10_comesPair 7 = .ok (.imul, 1) := by decide +kernel
theorem dX10_comesPair_8 : decode cX10_comesPair 8 = .ok (.iload_n 2, 1) := by decide +kernel
theorem dX10_comesPair_9 : decode cX10_comesPair 9 = .ok (.iadd, 1) := by decide +kernel
theorem dX10_comesPair_10 : decode cX10_comesPair 10 = .ok (.iconst 1, 1) := by decide +kernel
theorem dX10_comesPair_11 : decode cX10_comesPair 11 = .ok (.iastore, 1) := by decide +kernel
theorem dX10_comesPair_12 : decode cX10_comesPair 12 = .ok (.return_, 1) := by decide +kernel
set_option maxRecDepth 20000 in
theorem ggX10_goesFrom_X10_isFault : GoodIn wsX10_goesFrom wsX10_isFault := goodIn_r _ [9, 10, 24, 25, 26, 27, 28, 29, 30, 31, 32, 33, 34, 35, 36, 37, 38, 39, 40, 41, 42, 43, 44, 45, 46, 47, 48] rfl (by decide +kernel)
set_option maxRecDepth 20000 in
theorem gX10_goesFrom_X10_isFault : GoodIn wsX10_goesFrom (wsV RX10 134 RX10 yX10_isFault wsX10_isFault) := goodIn_app (goodIn_r _ [5, 6, 7, 8] rfl (by decide +kernel)) ggX10_goesFrom_X10_isFault
set_option maxRecDepth 20000 in
theorem ggX10_goesFrom_X10_markBehind : GoodIn wsX10_goesFrom wsX10_markBehind := goodIn_r _ [13] rfl (by decide +kernel)
set_option maxRecDepth 20000 in
theorem gX10_goesFrom_X10_markBehind : GoodIn wsX10_goesFrom (va_wsS RX10 166 yX10_markBehind wsX10_markBehind) := goodIn_app (goodIn_of _ (by decide +kernel)) ggX10_goesFrom_X10_markBehind
set_option maxRecDepth 20000 in
theorem ggX10_goesFrom_X10_isSeen : GoodIn wsX10_goesFrom wsX10_isSeen := goodIn_r _ [17, 18, 24, 25, 26, 27, 28, 29, 30, 31, 32, 33, 34, 35, 36, 37, 38, 39, 40, 41, 42, 43, 44, 45, 46, 47, 48] rfl (by decide +kernel)
set_option maxRecDepth 20000 in
theorem gX10_goesFrom_X10_isSeen : GoodIn wsX10_goesFrom (wsV RX10 141 RX10 yX10_isSeen wsX10_isSeen) := goodIn_app (goodIn_r _ [14, 15, 16, 8] rfl (by decide +kernel)) ggX10_goesFrom_X10_isSeen
set_option maxRecDepth 20000 in
theorem ggX10_goesFrom_X10_comesPair : GoodIn wsX10_goesFrom wsX10_comesPair := goodIn_r _ [22, 23, 24, 25, 26, 27, 28, 29, 30, 31, 32, 33, 34, 35, 36, 37, 38, 39, 40, 41, 42, 43, 44, 45, 46, 47, 48] rfl (by decide +kernel)
set_option maxRecDepth 20000 in
theorem gX10_goesFrom_X10_comesPair : GoodIn wsX10_goesFrom (wsV RX10 170 RX10 yX10_comesPair wsX10_comesPair) := goodIn_app (goodIn_r _ [19, 20, 21, 8] rfl (by decide +kernel)) ggX10_goesFrom_X10_comesPair
theorem dX10_goesFrom_0 : decode cX10_goesFrom 0 = .ok (.iconst 0, 1) := by decide +kernel
theorem dX10_goesFrom_1 : decode cX10_goesFrom 1 = .ok (.istore_n 3, 1) := by decide +kernel
theorem dX10_goesFrom_2 : decode cX10_goesFrom 2 = .ok (.iload_n 3, 1) := by decide +kernel
theorem dX10_goesFrom_3 : decode cX10_goesFrom 3 = .ok (.aload_n 0, 1) := by decide +kernel
theorem dX10_goesFrom_4 : decode cX10_goesFrom 4 = .ok (.getfield 70, 3) := by decide +kernel
theorem dX10_goesFrom_7 : decode cX10_goesFrom 7 = .ok (.if_icmp .ge 186, 3) := by decide +kernel
theorem dX10_goesFrom_10 : decode cX10_goesFrom 10 = .ok (.aload_n 0, 1) := by decide +kernel
theorem dX10_goesFrom_11 : decode cX10_goesFrom 11 = .ok (.getfield 13, 3) := by decide +kernel
theorem dX10_goesFrom_14 : decode cX10_goesFrom 14 = .ok (.iload_n 3, 1) := by decide +kernel
theorem dX10_goesFrom_15 : decode cX10_goesFrom 15 = .ok (.iaload, 1) := by decide +kernel
theorem dX10_goesFrom_16 : decode cX10_goesFrom 16 = .ok (.iload_n 1, 1) := by decide +kernel
theorem dX10_goesFrom_17 : decode cX10_goesFrom 17 = .ok (.bipush 10, 2) := by decide +kernel
theorem dX10_goesFrom_19 : decode cX10_goesFrom 19 = .ok (.irem, 1) := by decide +kernel
theorem dX10_goesFrom_20 : decode cX10_goesFrom 20 = .ok (.if_icmp .ne 120, 3) := by decide +kernel
theorem dX10_goesFrom_23 : decode cX10_goesFrom 23 = .ok (.iload_n 1, 1) := by decide +kernel
theorem dX10_goesFrom_24 : decode cX10_goesFrom 24 = .ok (.aload_n 0, 1) := by decide +kernel
theorem dX10_goesFrom_25 : decode cX10_goesFrom 25 = .ok (.getfield 19, 3) := by decide +kernel
theorem dX10_goesFrom_28 : decode cX10_goesFrom 28 = .ok (.iload_n 3, 1) := by decide +kernel
theorem dX10_goesFrom_29 : decode cX10_goesFrom 29 = .ok (.iaload, 1) := by decide +kernel
theorem dX10_goesFrom_30 : decode cX10_goesFrom 30 = .ok (.aload_n 0, 1) := by decide +kernel
theorem dX10_goesFrom_31 : decode cX10_goesFrom 31 = .ok (.aload_n 0, 1) := by decide +kernel
theorem dX10_goesFrom_32 : decode cX10_goesFrom 32 = .ok (.getfield 16, 3) := by decide +kernel
theorem dX10_goesFrom_35 : decode cX10_goesFrom 35 = .ok (.iload_n 3, 1) := by decide +kernel
theorem dX10_goesFrom_36 : decode cX10_goesFrom 36 = .ok (.iaload, 1) := by decide +kernel
theorem dX10_goesFrom_37 : decode cX10_goesFrom 37 = .ok (.invokevirtual 134, 3) := by decide +kernel
theorem dX10_goesFrom_40 : decode cX10_goesFrom 40 = .ok (.invokestatic 166, 3) := by decide +kernel
theorem dX10_goesFrom_43 : decode cX10_goesFrom 43 = .ok (.istore 4, 2) := by decide +kernel
theorem dX10_goesFrom_45 : decode cX10_goesFrom 45 = .ok (.aload_n 0, 1) := by decide +kernel
theorem dX10_goesFrom_46 : decode cX10_goesFrom 46 = .ok (.aload_n 0, 1) := by decide +kernel
theorem dX10_goesFrom_47 : decode cX10_goesFrom 47 = .ok (.getfield 16, 3) := by decide +kernel
theorem dX10_goesFrom_50 : decode cX10_goesFrom 50 = .ok (.iload_n 3, 1) := by decide +kernel
theorem dX10_goesFrom_51 : decode cX10_goesFrom 51 = .ok (.iaload, 1) := by decide +kernel
theorem dX10_goesFrom_52 : decode cX10_goesFrom 52 = .ok (.invokevirtual 141, 3) := by decide +kernel
theorem dX10_goesFrom_55 : decode cX10_goesFrom 55 = .ok (.ifCond .ne 13, 3) := by decide +kernel
theorem dX10_goesFrom_58 : decode cX10_goesFrom 58 = .ok (.aload_n 0, 1) := by decide +kernel
theorem dX10_goesFrom_59 : decode cX10_goesFrom 59 = .ok (.iload 4, 2) := by decide +kernel
theorem dX10_goesFrom_61 : decode cX10_goesFrom 61 = .ok (.iload_n 2, 1) := by decide +kernel
theorem dX10_goesFrom_62 : decode cX10_goesFrom 62 = .ok (.invokevirtual 170, 3) := by decide +kernel
theorem dX10_goesFrom_65 : decode cX10_goesFrom 65 = .ok (.goto 75, 3) := by decide +kernel
theorem dX10_goesFrom_68 : decode cX10_goesFrom 68 = .ok (.iconst 0, 1) := by decide +kernel
theorem dX10_goesFrom_69 : decode cX10_goesFrom 69 = .ok (.istore 5, 2) := by decide +kernel
theorem dX10_goesFrom_71 : decode cX10_goesFrom 71 = .ok (.iload 5, 2) := by decide +kernel
theorem dX10_goesFrom_73 : decode cX10_goesFrom 73 = .ok (.aload_n 0, 1) := by decide +kernel
theorem dX10_goesFrom_74 : decode cX10_goesFrom 74 = .ok (.getfield 70, 3) := by decide +kernel
theorem dX10_goesFrom_77 : decode cX10_goesFrom 77 = .ok (.if_icmp .ge 63, 3) := by decide +kernel
theorem dX10_goesFrom_80 : decode cX10_goesFrom 80 = .ok (.aload_n 0, 1) := by decide +kernel
theorem dX10_goesFrom_81 : decode cX10_goesFrom 81 = .ok (.getfield 13, 3) := by decide +kernel
theorem dX10_goesFrom_84 : decode cX10_goesFrom 84 = .ok (.iload 5, 2) := by decide +kernel
theorem dX10_goesFrom_86 : decode cX10_goesFrom 86 = .ok (.iaload, 1) := by decide +kernel
theorem dX10_goesFrom_87 : decode cX10_goesFrom 87 = .ok (.iload_n 2, 1) := by decide +kernel
theorem dX10_goesFrom_88 : decode cX10_goesFrom 88 = .ok (.if_icmp .ne 46, 3) := by decide +kernel
theorem dX10_goesFrom_91 : decode cX10_goesFrom 91 = .ok (.aload_n 0, 1) := by decide +kernel
theorem dX10_goesFrom_92 : decode cX10_goesFrom 92 = .ok (.getfield 16, 3) := by decide +kernel
theorem dX10_goesFrom_95 : decode cX10_goesFrom 95 = .ok (.iload 5, 2) := by decide +kernel
theorem dX10_goesFrom_97 : decode cX10_goesFrom 97 = .ok (.iaload, 1) := by decide +kernel
theorem dX10_goesFrom_98 : decode cX10_goesFrom 98 = .ok (.aload_n 0, 1) := by decide +kernel
theorem dX10_goesFrom_99 : decode cX10_goesFrom 99 = .ok (.getfield 16, 3) := by decide +kernel
theorem dX10_goesFrom_102 : decode cX10_goesFrom 102 = .ok (.iload_n 3, 1) := by decide +kernel
theorem dX10_goesFrom_103 : decode cX10_goesFrom 103 = .ok (.iaload, 1) := by decide +kernel
theorem dX10_goesFrom_104 : decode cX10_goesFrom 104 = .ok (.if_icmp .ne 30, 3) := by decide +kernel
theorem dX10_goesFrom_107 : decode cX10_goesFrom 107 = .ok (.aload_n 0, 1) := by decide +kernel
theorem dX10_goesFrom_108 : decode cX10_goesFrom 108 = .ok (.aload_n 0, 1) := by decide +kernel
theorem dX10_goesFrom_109 : decode cX10_goesFrom 109 = .ok (.getfield 16, 3) := by decide +kernel
theorem dX10_goesFrom_112 : decode cX10_goesFrom 112 = .ok (.iload 5, 2) := by decide +kernel
theorem dX10_goesFrom_114 : decode cX10_goesFrom 114 = .ok (.iaload, 1) := by decide +kernel
theorem dX10_goesFrom_115 : decode cX10_goesFrom 115 = .ok (.invokevirtual 134, 3) := by decide +kernel
theorem dX10_goesFrom_118 : decode cX10_goesFrom 118 = .ok (.ifCond .ne 16, 3) := by decide +kernel
theorem dX10_goesFrom_121 : decode cX10_goesFrom 121 = .ok (.aload_n 0, 1) := by decide +kernel
theorem dX10_goesFrom_122 : decode cX10_goesFrom 122 = .ok (.iload 4, 2) := by decide +kernel
theorem dX10_goesFrom_124 : decode cX10_goesFrom 124 = .ok (.aload_n 0, 1) := by decide +kernel
theorem dX10_goesFrom_125 : decode cX10_goesFrom 125 = .ok (.getfield 19, 3) := by decide +kernel
theorem dX10_goesFrom_128 : decode cX10_goesFrom 128 = .ok (.iload 5, 2) := by decide +kernel
theorem dX10_goesFrom_130 : decode cX10_goesFrom 130 = .ok (.iaload, 1) := by decide +kernel
theorem dX10_goesFrom_131 : decode cX10_goesFrom 131 = .ok (.invokevirtual 170, 3) := by decide +kernel
theorem dX10_goesFrom_134 : decode cX10_goesFrom 134 = .ok (.iinc 5 1, 3) := by decide +kernel
theorem dX10_goesFrom_137 : decode cX10_goesFrom 137 = .ok (.goto (-66), 3) := by decide +kernel
theorem dX10_goesFrom_140 : decode cX10_goesFrom 140 = .ok (.aload_n 0, 1) := by decide +kernel
theorem dX10_goesFrom_141 : decode cX10_goesFrom 141 = .ok (.getfield 13, 3) := by decide +kernel
theorem dX10_goesFrom_144 : decode cX10_goesFrom 144 = .ok (.iload_n 3, 1) := by decide +kernel
theorem dX10_goesFrom_145 : decode cX10_goesFrom 145 = .ok (.iaload, 1) := by decide +kernel
theorem dX10_goesFrom_146 : decode cX10_goesFrom 146 = .ok (.iload_n 2, 1) := by decide +kernel
theorem dX10_goesFrom_147 : decode cX10_goesFrom 147 = .ok (.if_icmp .ne 40, 3) := by decide +kernel
theorem dX10_goesFrom_150 : decode cX10_goesFrom 150 = .ok (.aload_n 0, 1) := by decide +kernel
theorem dX10_goesFrom_151 : decode cX10_goesFrom 151 = .ok (.aload_n 0, 1) := by decide +kernel
theorem dX10_goesFrom_152 : decode cX10_goesFrom 152 = .ok (.getfield 16, 3) := by decide +kernel
theorem dX10_goesFrom_155 : decode cX10_goesFrom 155 = .ok (.iload_n 3, 1) := by decide +kernel
theorem dX10_goesFrom_156 : decode cX10_goesFrom 156 = .ok (.iaload, 1) := by decide +kernel
theorem dX10_goesFrom_157 : decode cX10_goesFrom 157 = .ok (.invokevirtual 141, 3) := by decide +kernel
theorem dX10_goesFrom_160 : decode cX10_goesFrom 160 = .ok (.ifCond .ne 27, 3) := by decide +kernel
theorem dX10_goesFrom_163 : decode cX10_goesFrom 163 = .ok (.aload_n 0, 1) := by decide +kernel
theorem dX10_goesFrom_164 : decode cX10_goesFrom 164 = .ok (.aload_n 0, 1) := by decide +kernel
theorem dX10_goesFrom_165 : decode cX10_goesFrom 165 = .ok (.getfield 16, 3) := by decide +kernel
theorem dX10_goesFrom_168 : decode cX10_goesFrom 168 = .ok (.iload_n 3, 1) := by decide +kernel
theorem dX10_goesFrom_169 : decode cX10_goesFrom 169 = .ok (.iaload, 1) := by decide +kernel
theorem dX10_goesFrom_170 : decode cX10_goesFrom 170 = .ok (.invokevirtual 134, 3) := by decide +kernel
theorem dX10_goesFrom_173 : decode cX10_goesFrom 173 = .ok (.ifCond .ne 14, 3) := by decide +kernel
theorem dX10_goesFrom_176 : decode cX10_goesFrom 176 = .ok (.aload_n 0, 1) := by decide +kernel
theorem dX10_goesFrom_177 : decode cX10_goesFrom 177 = .ok (.iload_n 1, 1) := by decide +kernel
theorem dX10_goesFrom_178 : decode cX10_goesFrom 178 = .ok (.aload_n 0, 1) := by decide +kernel
theorem dX10_goesFrom_179 : decode cX10_goesFrom 179 = .ok (.getfield 19, 3) := by decide +kernel
theorem dX10_goesFrom_182 : decode cX10_goesFrom 182 = .ok (.iload_n 3, 1) := by decide +kernel
theorem dX10_goesFrom_183 : decode cX10_goesFrom 183 = .ok (.iaload, 1) := by decide +kernel
theorem dX10_goesFrom_184 : decode cX10_goesFrom 184 = .ok (.invokevirtual 170, 3) := by decide +kernel
theorem dX10_goesFrom_187 : decode cX10_goesFrom 187 = .ok (.iinc 3 1, 3) := by decide +kernel
theorem dX10_goesFrom_190 : decode cX10_goesFrom 190 = .ok (.goto (-188), 3) := by decide +kernel
theorem dX10_goesFrom_193 : decode cX10_goesFrom 193 = .ok (.return_, 1) := by decide +kernel
theorem dX10_pairMany_0 : decode cX10_pairMany 0 = .ok (.iconst 0, 1) := by decide +kernel
theorem dX10_pairMany_1 : decode cX10_pairMany 1 = .ok (.istore_n 1, 1) := by decide +kernel
theorem dX10_pairMany_2 : decode cX10_pairMany 2 = .ok (.iconst 0, 1) := by decide +kernel
theorem dX10_pairMany_3 : decode cX10_pairMany 3 = .ok (.istore_n 2, 1) := by decide +kernel
theorem dX10_pairMany_4 : decode cX10_pairMany 4 = .ok (.iload_n 2, 1) := by decide +kernel
theorem dX10_pairMany_5 : decode cX10_pairMany 5 = .ok (.sipush 200, 3) := by decide +kernel
theorem dX10_pairMany_8 : decode cX10_pairMany 8 = .ok (.if_icmp .ge 18, 3) := by decide +kernel
theorem dX10_pairMany_11 : decode cX10_pairMany 11 = .ok (.iload_n 1, 1) := by decide +kernel
theorem dX10_pairMany_12 : decode cX10_pairMany 12 = .ok (.aload_n 0, 1) := by decide +kernel
theorem dX10_pairMany_13 : decode cX10_pairMany 13 = .ok (.getfield 41, 3) := by decide +kernel
theorem dX10_pairMany_16 : decode cX10_pairMany 16 = .ok (.iload_n 2, 1) := by decide +kernel
theorem dX10_pairMany_17 : decode cX10_pairMany 17 = .ok (.iaload, 1) := by decide +kernel
theorem dX10_pairMany_18 : decode cX10_pairMany 18 = .ok (.iadd, 1) := by decide +kernel
theorem dX10_pairMany_19 : decode cX10_pairMany 19 = .ok (.istore_n 1, 1) := by decide +kernel
theorem dX10_pairMany_20 : decode cX10_pairMany 20 = .ok (.iinc 2 1, 3) := by decide +kernel
theorem dX10_pairMany_23 : decode cX10_pairMany 23 = .ok (.goto (-19), 3) := by decide +kernel
theorem dX10_pairMany_26 : decode cX10_pairMany 26 = .ok (.iload_n 1, 1) := by decide +kernel
theorem dX10_pairMany_27 : decode cX10_pairMany 27 = .ok (.ireturn, 1) := by decide +kernel
set_option maxRecDepth 20000 in
theorem ggX10_findsPairs_X10_comesPair : GoodIn wsX10_findsPairs wsX10_comesPair := goodIn_r _ [6, 1, 32, 33, 34, 35, 36, 37, 38, 39, 40, 41, 42, 43, 44, 45, 46, 47, 48, 49, 50, 51, 52, 53, 54, 55, 56] rfl (by decide +kernel)
set_option maxRecDepth 20000 in
theorem gX10_findsPairs_X10_comesPair : GoodIn wsX10_findsPairs (wsV RX10 170 RX10 yX10_comesPair wsX10_comesPair) := goodIn_app (goodIn_r _ [2, 3, 4, 5] rfl (by decide +kernel)) ggX10_findsPairs_X10_comesPair
set_option maxRecDepth 20000 in
theorem ggX10_findsPairs_X10_pairMany : GoodIn wsX10_findsPairs wsX10_pairMany := goodIn_r _ [10, 1, 32, 33, 34, 35, 36, 37, 38, 39, 40, 41, 42, 43, 44, 45, 46, 47, 48, 49, 50, 51, 52, 53, 54, 55, 56] rfl (by decide +kernel)
set_option maxRecDepth 20000 in
theorem gX10_findsPairs_X10_pairMany : GoodIn wsX10_findsPairs (wsV RX10 173 RX10 yX10_pairMany wsX10_pairMany) := goodIn_app (goodIn_r _ [7, 8, 9, 5] rfl (by decide +kernel)) ggX10_findsPairs_X10_pairMany
set_option maxRecDepth 20000 in
theorem ggX10_findsPairs_X10_goesFrom : GoodIn wsX10_findsPairs wsX10_goesFrom := goodIn_r _ [14, 15, 16, 17, 18, 19, 20, 21, 5, 22, 23, 24, 25, 26, 27, 28, 29, 30, 31, 2, 3, 4, 6, 1, 32, 33, 34, 35, 36, 37, 38, 39, 40, 41, 42, 43, 44, 45, 46, 47, 48, 49, 50, 51, 52, 53, 54, 55, 56] rfl (by decide +kernel)
set_option maxRecDepth 20000 in
theorem gX10_findsPairs_X10_goesFrom : GoodIn wsX10_findsPairs (wsV RX10 176 RX10 yX10_goesFrom wsX10_goesFrom) := goodIn_app (goodIn_r _ [11, 12, 13, 5] rfl (by decide +kernel)) ggX10_findsPairs_X10_goesFrom
theorem dX10_findsPairs_0 : decode cX10_findsPairs 0 = .ok (.iconst 0, 1) := by decide +kernel
theorem dX10_findsPairs_1 : decode cX10_findsPairs 1 = .ok (.istore_n 1, 1) := by decide +kernel
theorem dX10_findsPairs_2 : decode cX10_findsPairs 2 = .ok (.iload_n 1, 1) := by decide +kernel
theorem dX10_findsPairs_3 : decode cX10_findsPairs 3 = .ok (.sipush 200, 3) := by decide +kernel
theorem dX10_findsPairs_6 : decode cX10_findsPairs 6 = .ok (.if_icmp .ge 16, 3) := by decide +kernel
theorem dX10_findsPairs_9 : decode cX10_findsPairs 9 = .ok (.aload_n 0, 1) := by decide +kernel
theorem dX10_findsPairs_10 : decode cX10_findsPairs 10 = .ok (.getfield 41, 3) := by decide +kernel
theorem dX10_findsPairs_13 : decode cX10_findsPairs 13 = .ok (.iload_n 1, 1) := by decide +kernel
theorem dX10_findsPairs_14 : decode cX10_findsPairs 14 = .ok (.iconst 0, 1) := by decide +kernel
theorem dX10_findsPairs_15 : decode cX10_findsPairs 15 = .ok (.iastore, 1) := by decide +kernel
theorem dX10_findsPairs_16 : decode cX10_findsPairs 16 = .ok (.iinc 1 1, 3) := by decide +kernel
theorem dX10_findsPairs_19 : decode cX10_findsPairs 19 = .ok (.goto (-17), 3) := by decide +kernel
theorem dX10_findsPairs_22 : decode cX10_findsPairs 22 = .ok (.aload_n 0, 1) := by decide +kernel
theorem dX10_findsPairs_23 : decode cX10_findsPairs 23 = .ok (.iconst 0, 1) := by decide +kernel
theorem dX10_findsPairs_24 : decode cX10_findsPairs 24 = .ok (.iconst 0, 1) := by decide +kernel
theorem dX10_findsPairs_25 : decode cX10_findsPairs 25 = .ok (.invokevirtual 170, 3) := by decide +kernel
theorem dX10_findsPairs_28 : decode cX10_findsPairs 28 = .ok (.iconst 0, 1) := by decide +kernel
theorem dX10_findsPairs_29 : decode cX10_findsPairs 29 = .ok (.istore_n 1, 1) := by decide +kernel
theorem dX10_findsPairs_30 : decode cX10_findsPairs 30 = .ok (.iload_n 1, 1) := by decide +kernel
theorem dX10_findsPairs_31 : decode cX10_findsPairs 31 = .ok (.aload_n 0, 1) := by decide +kernel
theorem dX10_findsPairs_32 : decode cX10_findsPairs 32 = .ok (.invokevirtual 173, 3) := by decide +kernel
theorem dX10_findsPairs_35 : decode cX10_findsPairs 35 = .ok (.if_icmp .eq 48, 3) := by decide +kernel
theorem dX10_findsPairs_38 : decode cX10_findsPairs 38 = .ok (.aload_n 0, 1) := by decide +kernel
theorem dX10_findsPairs_39 : decode cX10_findsPairs 39 = .ok (.invokevirtual 173, 3) := by decide +kernel
theorem dX10_findsPairs_42 : decode cX10_findsPairs 42 = .ok (.istore_n 1, 1) := by decide +kernel
theorem dX10_findsPairs_43 : decode cX10_findsPairs 43 = .ok (.iconst 0, 1) := by decide +kernel
theorem dX10_findsPairs_44 : decode cX10_findsPairs 44 = .ok (.istore_n 2, 1) := by decide +kernel
theorem dX10_findsPairs_45 : decode cX10_findsPairs 45 = .ok (.iload_n 2, 1) := by decide +kernel
theorem dX10_findsPairs_46 : decode cX10_findsPairs 46 = .ok (.sipush 200, 3) := by decide +kernel
theorem dX10_findsPairs_49 : decode cX10_findsPairs 49 = .ok (.if_icmp .ge 31, 3) := by decide +kernel
theorem dX10_findsPairs_52 : decode cX10_findsPairs 52 = .ok (.aload_n 0, 1) := by decide +kernel
theorem dX10_findsPairs_53 : decode cX10_findsPairs 53 = .ok (.getfield 41, 3) := by decide +kernel
theorem dX10_findsPairs_56 : decode cX10_findsPairs 56 = .ok (.iload_n 2, 1) := by decide +kernel
theorem dX10_findsPairs_57 : decode cX10_findsPairs 57 = .ok (.iaload, 1) := by decide +kernel
theorem dX10_findsPairs_58 : decode cX10_findsPairs 58 = .ok (.iconst 1, 1) := by decide +kernel
theorem dX10_findsPairs_59 : decode cX10_findsPairs 59 = .ok (.if_icmp .ne 15, 3) := by decide +kernel
theorem dX10_findsPairs_62 : decode cX10_findsPairs 62 = .ok (.aload_n 0, 1) := by decide +kernel
theorem dX10_findsPairs_63 : decode cX10_findsPairs 63 = .ok (.iload_n 2, 1) := by decide +kernel
theorem dX10_findsPairs_64 : decode cX10_findsPairs 64 = .ok (.bipush 10, 2) := by decide +kernel
theorem dX10_findsPairs_66 : decode cX10_findsPairs 66 = .ok (.idiv, 1) := by decide +kernel
theorem dX10_findsPairs_67 : decode cX10_findsPairs 67 = .ok (.iload_n 2, 1) := by decide +kernel
theorem dX10_findsPairs_68 : decode cX10_findsPairs 68 = .ok (.bipush 10, 2) := by decide +kernel
theorem dX10_findsPairs_70 : decode cX10_findsPairs 70 = .ok (.irem, 1) := by decide +kernel
theorem dX10_findsPairs_71 : decode cX10_findsPairs 71 = .ok (.invokevirtual 176, 3) := by decide +kernel
theorem dX10_findsPairs_74 : decode cX10_findsPairs 74 = .ok (.iinc 2 1, 3) := by decide +kernel
theorem dX10_findsPairs_77 : decode cX10_findsPairs 77 = .ok (.goto (-32), 3) := by decide +kernel
theorem dX10_findsPairs_80 : decode cX10_findsPairs 80 = .ok (.goto (-50), 3) := by decide +kernel
theorem dX10_findsPairs_83 : decode cX10_findsPairs 83 = .ok (.return_, 1) := by decide +kernel
theorem dX10_doubtMany_0 : decode cX10_doubtMany 0 = .ok (.iconst 0, 1) := by decide +kernel
theorem dX10_doubtMany_1 : decode cX10_doubtMany 1 = .ok (.istore_n 1, 1) := by decide +kernel
theorem dX10_doubtMany_2 : decode cX10_doubtMany 2 = .ok (.bipush 100, 2) := by decide +kernel
theorem dX10_doubtMany_4 : decode cX10_doubtMany 4 = .ok (.istore_n 2, 1) := by decide +kernel
theorem dX10_doubtMany_5 : decode cX10_doubtMany 5 = .ok (.iload_n 2, 1) := by decide +kernel
theorem dX10_doubtMany_6 : decode cX10_doubtMany 6 = .ok (.sipush 200, 3) := by decide +kernel
theorem dX10_doubtMany_9 : decode cX10_doubtMany 9 = .ok (.if_icmp .ge 18, 3) := by decide +kernel
theorem dX10_doubtMany_12 : decode cX10_doubtMany 12 = .ok (.iload_n 1, 1) := by decide +kernel
theorem dX10_doubtMany_13 : decode cX10_doubtMany 13 = .ok (.aload_n 0, 1) := by decide +kernel
theorem dX10_doubtMany_14 : decode cX10_doubtMany 14 = .ok (.getfield 41, 3) := by decide +kernel
theorem dX10_doubtMany_17 : decode cX10_doubtMany 17 = .ok (.iload_n 2, 1) := by decide +kernel
theorem dX10_doubtMany_18 : decode cX10_doubtMany 18 = .ok (.iaload, 1) := by decide +kernel
theorem dX10_doubtMany_19 : decode cX10_doubtMany 19 = .ok (.iadd, 1) := by decide +kernel
theorem dX10_doubtMany_20 : decode cX10_doubtMany 20 = .ok (.istore_n 1, 1) := by decide +kernel
theorem dX10_doubtMany_21 : decode cX10_doubtMany 21 = .ok (.iinc 2 1, 3) := by decide +kernel
theorem dX10_doubtMany_24 : decode cX10_doubtMany 24 = .ok (.goto (-19), 3) := by decide +kernel
theorem dX10_doubtMany_27 : decode cX10_doubtMany 27 = .ok (.iload_n 1, 1) := by decide +kernel
theorem dX10_doubtMany_28 : decode cX10_doubtMany 28 = .ok (.ireturn, 1) := by decide +kernel
set_option maxRecDepth 20000 in
theorem ggX10_allBy_X10_allMarks : GoodIn wsX10_allBy wsX10_allMarks := goodIn_r _ [6, 7, 8, 9, 5, 10, 11, 12, 13, 14, 15, 16, 17, 18, 19, 74, 75, 76, 77, 78, 79, 80, 81, 82, 83, 84, 85, 86, 87, 88, 89, 90, 91, 92, 93, 94, 95, 96, 97, 98] rfl (by decide +kernel)
set_option maxRecDepth 20000 in
theorem gX10_allBy_X10_allMarks : GoodIn wsX10_allBy (wsV RX10 156 RX10 yX10_allMarks wsX10_allMarks) := goodIn_app (goodIn_r _ [2, 3, 4, 5] rfl (by decide +kernel)) ggX10_allBy_X10_allMarks
set_option maxRecDepth 20000 in
theorem ggX10_allBy_X10_findsSets : GoodIn wsX10_allBy wsX10_findsSets := goodIn_r _ [23, 1, 24, 25, 26, 27, 28, 5, 29, 30, 7, 8, 9, 10, 11, 12, 13, 14, 15, 16, 17, 18, 19, 31, 32, 33, 34, 35, 36, 37, 38, 39, 40, 41, 42, 74, 75, 76, 77, 78, 79, 80, 81, 82, 83, 84, 85, 86, 87, 88, 89, 90, 91, 92, 93, 94, 95, 96, 97, 98] rfl (by decide +kernel)
set_option maxRecDepth 20000 in
theorem gX10_allBy_X10_findsSets : GoodIn wsX10_allBy (wsV RX10 179 RX10 yX10_findsSets wsX10_findsSets) := goodIn_app (goodIn_r _ [20, 21, 22, 5] rfl (by decide +kernel)) ggX10_allBy_X10_findsSets
set_option maxRecDepth 20000 in
theorem ggX10_allBy_X10_setsWith : GoodIn wsX10_allBy wsX10_setsWith := goodIn_r _ [46, 1, 24, 47, 48, 5, 49, 74, 75, 76, 77, 78, 79, 80, 81, 82, 83, 84, 85, 86, 87, 88, 89, 90, 91, 92, 93, 94, 95, 96, 97, 98] rfl (by decide +kernel)
set_option maxRecDepth 20000 in
theorem gX10_allBy_X10_setsWith : GoodIn wsX10_allBy (wsV RX10 182 RX10 yX10_setsWith wsX10_setsWith) := goodIn_app (goodIn_r _ [43, 44, 45, 5] rfl (by decide +kernel)) ggX10_allBy_X10_setsWith
set_option maxRecDepth 20000 in
theorem ggX10_allBy_X10_findsPairs : GoodIn wsX10_allBy wsX10_findsPairs := goodIn_r _ [53, 54, 55, 56, 57, 5, 58, 59, 60, 61, 62, 63, 64, 65, 66, 11, 13, 14, 12, 15, 16, 17, 18, 19, 67, 68, 69, 35, 36, 37, 38, 30, 74, 75, 76, 77, 78, 79, 80, 81, 82, 83, 84, 85, 86, 87, 88, 89, 90, 91, 92, 93, 94, 95, 96, 97, 98] rfl (by decide +kernel)
set_option maxRecDepth 20000 in
theorem gX10_allBy_X10_findsPairs : GoodIn wsX10_allBy (wsV RX10 185 RX10 yX10_findsPairs wsX10_findsPairs) := goodIn_app (goodIn_r _ [50, 51, 52, 5] rfl (by decide +kernel)) ggX10_allBy_X10_findsPairs
set_option maxRecDepth 20000 in
theorem ggX10_allBy_X10_pairMany : GoodIn wsX10_allBy wsX10_pairMany := goodIn_r _ [62, 54, 74, 75, 76, 77, 78, 79, 80, 81, 82, 83, 84, 85, 86, 87, 88, 89, 90, 91, 92, 93, 94, 95, 96, 97, 98] rfl (by decide +kernel)
set_option maxRecDepth 20000 in
theorem gX10_allBy_X10_pairMany : GoodIn wsX10_allBy (wsV RX10 173 RX10 yX10_pairMany wsX10_pairMany) := goodIn_app (goodIn_r _ [59, 60, 61, 5] rfl (by decide +kernel)) ggX10_allBy_X10_pairMany
set_option maxRecDepth 20000 in
theorem ggX10_allBy_X10_doubtMany : GoodIn wsX10_allBy wsX10_doubtMany := goodIn_r _ [73, 54, 74, 75, 76, 77, 78, 79, 80, 81, 82, 83, 84, 85, 86, 87, 88, 89, 90, 91, 92, 93, 94, 95, 96, 97, 98] rfl (by decide +kernel)
set_option maxRecDepth 20000 in
theorem gX10_allBy_X10_doubtMany : GoodIn wsX10_allBy (wsV RX10 188 RX10 yX10_doubtMany wsX10_doubtMany) := goodIn_app (goodIn_r _ [70, 71, 72, 5] rfl (by decide +kernel)) ggX10_allBy_X10_doubtMany
theorem dX10_allBy_0 : decode cX10_allBy 0 = .ok (.iload_n 1, 1) := by decide +kernel
theorem dX10_allBy_1 : decode cX10_allBy 1 = .ok (.ifCond .ne 8, 3) := by decide +kernel
theorem dX10_allBy_4 : decode cX10_allBy 4 = .ok (.aload_n 0, 1) := by decide +kernel
theorem dX10_allBy_5 : decode cX10_allBy 5 = .ok (.invokevirtual 156, 3) := by decide +kernel
theorem dX10_allBy_8 : decode cX10_allBy 8 = .ok (.ireturn, 1) := by decide +kernel
theorem dX10_allBy_9 : decode cX10_allBy 9 = .ok (.iload_n 1, 1) := by decide +kernel
theorem dX10_allBy_10 : decode cX10_allBy 10 = .ok (.iconst 4, 1) := by decide +kernel
theorem dX10_allBy_11 : decode cX10_allBy 11 = .ok (.if_icmp .ge 34, 3) := by decide +kernel
theorem dX10_allBy_14 : decode cX10_allBy 14 = .ok (.aload_n 0, 1) := by decide +kernel
theorem dX10_allBy_15 : decode cX10_allBy 15 = .ok (.invokevirtual 179, 3) := by decide +kernel
theorem dX10_allBy_18 : decode cX10_allBy 18 = .ok (.iload_n 1, 1) := by decide +kernel
theorem dX10_allBy_19 : decode cX10_allBy 19 = .ok (.iconst 1, 1) := by decide +kernel
theorem dX10_allBy_20 : decode cX10_allBy 20 = .ok (.if_icmp .ne 10, 3) := by decide +kernel
theorem dX10_allBy_23 : decode cX10_allBy 23 = .ok (.aload_n 0, 1) := by decide +kernel
theorem dX10_allBy_24 : decode cX10_allBy 24 = .ok (.getfield 159, 3) := by decide +kernel
theorem dX10_allBy_27 : decode cX10_allBy 27 = .ok (.goto 17, 3) := by decide +kernel
theorem dX10_allBy_30 : decode cX10_allBy 30 = .ok (.aload_n 0, 1) := by decide +kernel
theorem dX10_allBy_31 : decode cX10_allBy 31 = .ok (.iload_n 1, 1) := by decide +kernel
theorem dX10_allBy_32 : decode cX10_allBy 32 = .ok (.iconst 2, 1) := by decide +kernel
theorem dX10_allBy_33 : decode cX10_allBy 33 = .ok (.if_icmp .ne 7, 3) := by decide +kernel
theorem dX10_allBy_36 : decode cX10_allBy 36 = .ok (.iconst 2, 1) := by decide +kernel
theorem dX10_allBy_37 : decode cX10_allBy 37 = .ok (.goto 4, 3) := by decide +kernel
theorem dX10_allBy_40 : decode cX10_allBy 40 = .ok (.iconst 1, 1) := by decide +kernel
theorem dX10_allBy_41 : decode cX10_allBy 41 = .ok (.invokevirtual 182, 3) := by decide +kernel
theorem dX10_allBy_44 : decode cX10_allBy 44 = .ok (.ireturn, 1) := by decide +kernel
theorem dX10_allBy_45 : decode cX10_allBy 45 = .ok (.aload_n 0, 1) := by decide +kernel
theorem dX10_allBy_46 : decode cX10_allBy 46 = .ok (.invokevirtual 185, 3) := by decide +kernel
theorem dX10_allBy_49 : decode cX10_allBy 49 = .ok (.iload_n 1, 1) := by decide +kernel
theorem dX10_allBy_50 : decode cX10_allBy 50 = .ok (.iconst 4, 1) := by decide +kernel
theorem dX10_allBy_51 : decode cX10_allBy 51 = .ok (.if_icmp .ne 10, 3) := by decide +kernel
theorem dX10_allBy_54 : decode cX10_allBy 54 = .ok (.aload_n 0, 1) := by decide +kernel
theorem dX10_allBy_55 : decode cX10_allBy 55 = .ok (.invokevirtual 173, 3) := by decide +kernel
theorem dX10_allBy_58 : decode cX10_allBy 58 = .ok (.goto 7, 3) := by decide +kernel
theorem dX10_allBy_61 : decode cX10_allBy 61 = .ok (.aload_n 0, 1) := by decide +kernel
theorem dX10_allBy_62 : decode cX10_allBy 62 = .ok (.invokevirtual 188, 3) := by decide +kernel
theorem dX10_allBy_65 : decode cX10_allBy 65 = .ok (.ireturn, 1) := by decide +kernel
set_option maxRecDepth 20000 in
theorem ggX10_all_X10_in : GoodIn wsX10_all wsX10_in := goodIn_r _ [4] rfl (by decide +kernel)
set_option maxRecDepth 20000 in
theorem gX10_all_X10_in : GoodIn wsX10_all (va_wsS RX10 63 yX10_in wsX10_in) := goodIn_app (goodIn_of _ (by decide +kernel)) ggX10_all_X10_in
set_option maxRecDepth 20000 in
theorem ggX10_all_X10_allBy : GoodIn wsX10_all wsX10_allBy := goodIn_r _ [8, 9, 10, 11, 12, 3, 13, 14, 15, 16, 17, 18, 19, 20, 21, 22, 23, 24, 25, 26, 27, 28, 29, 30, 31, 32, 33, 34, 35, 36, 37, 38, 39, 40, 41, 42, 43, 44, 45, 46, 47, 48, 49, 50, 51, 52, 53, 54, 55, 56, 57, 58, 59, 60, 61, 62, 63, 64, 65, 66, 67, 68, 69, 70, 71, 72, 73, 74, 75, 76, 77, 78, 79, 80, 86, 87, 88, 89, 90, 91, 92, 93, 94, 95, 96, 97, 98, 99, 100, 101, 102, 103, 104, 105, 106, 107, 108, 109, 110] rfl (by decide +kernel)
set_option maxRecDepth 20000 in
theorem gX10_all_X10_allBy : GoodIn wsX10_all (wsV RX10 191 RX10 yX10_allBy wsX10_allBy) := goodIn_app (goodIn_r _ [5, 6, 7, 3] rfl (by decide +kernel)) ggX10_all_X10_allBy
set_option maxRecDepth 20000 in
theorem ggX10_all_X10_bad : GoodIn wsX10_all wsX10_bad := goodIn_r _ [84, 85, 86, 87, 88, 89, 90, 91, 92, 93, 94, 95, 96, 97, 98, 99, 100, 101, 102, 103, 104, 105, 106, 107, 108, 109, 110] rfl (by decide +kernel)
set_option maxRecDepth 20000 in
theorem gX10_all_X10_bad : GoodIn wsX10_all (wsV RX10 94 RX10 yX10_bad wsX10_bad) := goodIn_app (goodIn_r _ [81, 82, 83, 3] rfl (by decide +kernel)) ggX10_all_X10_bad
theorem dX10_all_0 : decode cX10_all 0 = .ok (.iload_n 1, 1) := by decide +kernel
theorem dX10_all_1 : decode cX10_all 1 = .ok (.iconst 0, 1) := by decide +kernel
theorem dX10_all_2 : decode cX10_all 2 = .ok (.iconst 5, 1) := by decide +kernel
theorem dX10_all_3 : decode cX10_all 3 = .ok (.invokestatic 63, 3) := by decide +kernel
theorem dX10_all_6 : decode cX10_all 6 = .ok (.ifCond .eq 11, 3) := by decide +kernel
theorem dX10_all_9 : decode cX10_all 9 = .ok (.aload_n 0, 1) := by decide +kernel
theorem dX10_all_10 : decode cX10_all 10 = .ok (.iload_n 1, 1) := by decide +kernel
theorem dX10_all_11 : decode cX10_all 11 = .ok (.invokevirtual 191, 3) := by decide +kernel
theorem dX10_all_14 : decode cX10_all 14 = .ok (.goto 7, 3) := by decide +kernel
theorem dX10_all_17 : decode cX10_all 17 = .ok (.aload_n 0, 1) := by decide +kernel
theorem dX10_all_18 : decode cX10_all 18 = .ok (.invokevirtual 94, 3) := by decide +kernel
theorem dX10_all_21 : decode cX10_all 21 = .ok (.ireturn, 1) := by decide +kernel
theorem dX10_has_0 : decode cX10_has 0 = .ok (.iload 4, 2) := by decide +kernel
theorem dX10_has_2 : decode cX10_has 2 = .ok (.bipush 50, 2) := by decide +kernel
theorem dX10_has_4 : decode cX10_has 4 = .ok (.if_icmp .ge 12, 3) := by decide +kernel
theorem dX10_has_7 : decode cX10_has 7 = .ok (.lload_n 0, 1) := by decide +kernel
theorem dX10_has_8 : decode cX10_has 8 = .ok (.iload 4, 2) := by decide +kernel
theorem dX10_has_10 : decode cX10_has 10 = .ok (.lshr, 1) := by decide +kernel
theorem dX10_has_11 : decode cX10_has 11 = .ok (.lconst 1, 1) := by decide +kernel
theorem dX10_has_12 : decode cX10_has 12 = .ok (.land, 1) := by decide +kernel
theorem dX10_has_13 : decode cX10_has 13 = .ok (.goto 12, 3) := by decide +kernel
theorem dX10_has_16 : decode cX10_has 16 = .ok (.lload_n 2, 1) := by decide +kernel
theorem dX10_has_17 : decode cX10_has 17 = .ok (.iload 4, 2) := by decide +kernel
theorem dX10_has_19 : decode cX10_has 19 = .ok (.bipush 50, 2) := by decide +kernel
theorem dX10_has_21 : decode cX10_has 21 = .ok (.isub, 1) := by decide +kernel
theorem dX10_has_22 : decode cX10_has 22 = .ok (.lshr, 1) := by decide +kernel
theorem dX10_has_23 : decode cX10_has 23 = .ok (.lconst 1, 1) := by decide +kernel
theorem dX10_has_24 : decode cX10_has 24 = .ok (.land, 1) := by decide +kernel
theorem dX10_has_25 : decode cX10_has 25 = .ok (.lconst 1, 1) := by decide +kernel
theorem dX10_has_26 : decode cX10_has 26 = .ok (.lcmp, 1) := by decide +kernel
theorem dX10_has_27 : decode cX10_has 27 = .ok (.ifCond .ne 7, 3) := by decide +kernel
theorem dX10_has_30 : decode cX10_has 30 = .ok (.iconst 1, 1) := by decide +kernel
theorem dX10_has_31 : decode cX10_has 31 = .ok (.goto 4, 3) := by decide +kernel
theorem dX10_has_34 : decode cX10_has 34 = .ok (.iconst 0, 1) := by decide +kernel
theorem dX10_has_35 : decode cX10_has 35 = .ok (.ireturn, 1) := by decide +kernel
theorem dX10_leads_0 : decode cX10_leads 0 = .ok (.lconst 1, 1) := by decide +kernel
theorem dX10_leads_1 : decode cX10_leads 1 = .ok (.iload_n 2, 1) := by decide +kernel
theorem dX10_leads_2 : decode cX10_leads 2 = .ok (.bipush 50, 2) := by decide +kernel
theorem dX10_leads_4 : decode cX10_leads 4 = .ok (.irem, 1) := by decide +kernel
theorem dX10_leads_5 : decode cX10_leads 5 = .ok (.lshl, 1) := by decide +kernel
theorem dX10_leads_6 : decode cX10_leads 6 = .ok (.lstore 4, 2) := by decide +kernel
theorem dX10_leads_8 : decode cX10_leads 8 = .ok (.iload_n 2, 1) := by decide +kernel
theorem dX10_leads_9 : decode cX10_leads 9 = .ok (.bipush 50, 2) := by decide +kernel
theorem dX10_leads_11 : decode cX10_leads 11 = .ok (.if_icmp .ge 36, 3) := by decide +kernel
theorem dX10_leads_14 : decode cX10_leads 14 = .ok (.aload_n 0, 1) := by decide +kernel
theorem dX10_leads_15 : decode cX10_leads 15 = .ok (.getfield 51, 3) := by decide +kernel
theorem dX10_leads_18 : decode cX10_leads 18 = .ok (.iload_n 1, 1) := by decide +kernel
theorem dX10_leads_19 : decode cX10_leads 19 = .ok (.dup2, 1) := by decide +kernel
theorem dX10_leads_20 : decode cX10_leads 20 = .ok (.laload, 1) := by decide +kernel
theorem dX10_leads_21 : decode cX10_leads 21 = .ok (.lload 4, 2) := by decide +kernel
theorem dX10_leads_23 : decode cX10_leads 23 = .ok (.lor, 1) := by decide +kernel
theorem dX10_leads_24 : decode cX10_leads 24 = .ok (.lastore, 1) := by decide +kernel
theorem dX10_leads_25 : decode cX10_leads 25 = .ok (.aload_n 0, 1) := by decide +kernel
theorem dX10_leads_26 : decode cX10_leads 26 = .ok (.getfield 44, 3) := by decide +kernel
theorem dX10_leads_29 : decode cX10_leads 29 = .ok (.iload_n 1, 1) := by decide +kernel
theorem dX10_leads_30 : decode cX10_leads 30 = .ok (.dup2, 1) := by decide +kernel
theorem dX10_leads_31 : decode cX10_leads 31 = .ok (.laload, 1) := by decide +kernel
theorem dX10_leads_32 : decode cX10_leads 32 = .ok (.iload_n 3, 1) := by decide +kernel
theorem dX10_leads_33 : decode cX10_leads 33 = .ok (.ifCond .eq 8, 3) := by decide +kernel
theorem dX10_leads_36 : decode cX10_leads 36 = .ok (.lload 4, 2) := by decide +kernel
theorem dX10_leads_38 : decode cX10_leads 38 = .ok (.goto 4, 3) := by decide +kernel
theorem dX10_leads_41 : decode cX10_leads 41 = .ok (.lconst 0, 1) := by decide +kernel
theorem dX10_leads_42 : decode cX10_leads 42 = .ok (.lor, 1) := by decide +kernel
theorem dX10_leads_43 : decode cX10_leads 43 = .ok (.lastore, 1) := by decide +kernel
theorem dX10_leads_44 : decode cX10_leads 44 = .ok (.goto 33, 3) := by decide +kernel
theorem dX10_leads_47 : decode cX10_leads 47 = .ok (.aload_n 0, 1) := by decide +kernel
theorem dX10_leads_48 : decode cX10_leads 48 = .ok (.getfield 54, 3) := by decide +kernel
theorem dX10_leads_51 : decode cX10_leads 51 = .ok (.iload_n 1, 1) := by decide +kernel
theorem dX10_leads_52 : decode cX10_leads 52 = .ok (.dup2, 1) := by decide +kernel
theorem dX10_leads_53 : decode cX10_leads 53 = .ok (.laload, 1) := by decide +kernel
theorem dX10_leads_54 : decode cX10_leads 54 = .ok (.lload 4, 2) := by decide +kernel
theorem dX10_leads_56 : decode cX10_leads 56 = .ok (.lor, 1) := by decide +kernel
theorem dX10_leads_57 : decode cX10_leads 57 = .ok (.lastore, 1) := by decide +kernel
theorem dX10_leads_58 : decode cX10_leads 58 = .ok (.aload_n 0, 1) := by decide +kernel
theorem dX10_leads_59 : decode cX10_leads 59 = .ok (.getfield 48, 3) := by decide +kernel
theorem dX10_leads_62 : decode cX10_leads 62 = .ok (.iload_n 1, 1) := by decide +kernel
theorem dX10_leads_63 : decode cX10_leads 63 = .ok (.dup2, 1) := by decide +kernel
theorem dX10_leads_64 : decode cX10_leads 64 = .ok (.laload, 1) := by decide +kernel
theorem dX10_leads_65 : decode cX10_leads 65 = .ok (.iload_n 3, 1) := by decide +kernel
theorem dX10_leads_66 : decode cX10_leads 66 = .ok (.ifCond .eq 8, 3) := by decide +kernel
theorem dX10_leads_69 : decode cX10_leads 69 = .ok (.lload 4, 2) := by decide +kernel
theorem dX10_leads_71 : decode cX10_leads 71 = .ok (.goto 4, 3) := by decide +kernel
theorem dX10_leads_74 : decode cX10_leads 74 = .ok (.lconst 0, 1) := by decide +kernel
theorem dX10_leads_75 : decode cX10_leads 75 = .ok (.lor, 1) := by decide +kernel
theorem dX10_leads_76 : decode cX10_leads 76 = .ok (.lastore, 1) := by decide +kernel
theorem dX10_leads_77 : decode cX10_leads 77 = .ok (.return_, 1) := by decide +kernel
set_option maxRecDepth 20000 in
theorem ggX10_leadsFrom_X10_isSeen : GoodIn wsX10_leadsFrom wsX10_isSeen := goodIn_r _ [9, 10, 24, 25, 26, 27, 28, 29, 30, 31, 32, 33, 34, 35, 36, 37, 38, 39, 40, 41, 42, 43, 44, 45, 46, 47, 48] rfl (by decide +kernel)
set_option maxRecDepth 20000 in
theorem gX10_leadsFrom_X10_isSeen : GoodIn wsX10_leadsFrom (wsV RX10 141 RX10 yX10_isSeen wsX10_isSeen) := goodIn_app (goodIn_r _ [5, 6, 7, 8] rfl (by decide +kernel)) ggX10_leadsFrom_X10_isSeen
set_option maxRecDepth 20000 in
theorem ggX10_leadsFrom_X10_leads : GoodIn wsX10_leadsFrom wsX10_leads := goodIn_r _ [14, 15, 16, 17, 18, 24, 25, 26, 27, 28, 29, 30, 31, 32, 33, 34, 35, 36, 37, 38, 39, 40, 41, 42, 43, 44, 45, 46, 47, 48] rfl (by decide +kernel)
set_option maxRecDepth 20000 in
theorem gX10_leadsFrom_X10_leads : GoodIn wsX10_leadsFrom (wsV RX10 194 RX10 yX10_leads wsX10_leads) := goodIn_app (goodIn_r _ [11, 12, 13, 8] rfl (by decide +kernel)) ggX10_leadsFrom_X10_leads
set_option maxRecDepth 20000 in
theorem ggX10_leadsFrom_X10_isFault : GoodIn wsX10_leadsFrom wsX10_isFault := goodIn_r _ [22, 23, 24, 25, 26, 27, 28, 29, 30, 31, 32, 33, 34, 35, 36, 37, 38, 39, 40, 41, 42, 43, 44, 45, 46, 47, 48] rfl (by decide +kernel)
set_option maxRecDepth 20000 in
theorem gX10_leadsFrom_X10_isFault : GoodIn wsX10_leadsFrom (wsV RX10 134 RX10 yX10_isFault wsX10_isFault) := goodIn_app (goodIn_r _ [19, 20, 21, 8] rfl (by decide +kernel)) ggX10_leadsFrom_X10_isFault
theorem dX10_leadsFrom_0 : decode cX10_leadsFrom 0 = .ok (.bipush 10, 2) := by decide +kernel
theorem dX10_leadsFrom_2 : decode cX10_leadsFrom 2 = .ok (.iload_n 1, 1) := by decide +kernel
theorem dX10_leadsFrom_3 : decode cX10_leadsFrom 3 = .ok (.imul, 1) := by decide +kernel
theorem dX10_leadsFrom_4 : decode cX10_leadsFrom 4 = .ok (.iload_n 2, 1) := by decide +kernel
theorem dX10_leadsFrom_5 : decode cX10_leadsFrom 5 = .ok (.iadd, 1) := by decide +kernel
theorem dX10_leadsFrom_6 : decode cX10_leadsFrom 6 = .ok (.istore_n 3, 1) := by decide +kernel
theorem dX10_leadsFrom_7 : decode cX10_leadsFrom 7 = .ok (.iconst 0, 1) := by decide +kernel
theorem dX10_leadsFrom_8 : decode cX10_leadsFrom 8 = .ok (.istore 4, 2) := by decide +kernel
theorem dX10_leadsFrom_10 : decode cX10_leadsFrom 10 = .ok (.iload 4, 2) := by decide +kernel
theorem dX10_leadsFrom_12 : decode cX10_leadsFrom 12 = .ok (.aload_n 0, 1) := by decide +kernel
theorem dX10_leadsFrom_13 : decode cX10_leadsFrom 13 = .ok (.getfield 70, 3) := by decide +kernel
theorem dX10_leadsFrom_16 : decode cX10_leadsFrom 16 = .ok (.if_icmp .ge 218, 3) := by decide +kernel
theorem dX10_leadsFrom_19 : decode cX10_leadsFrom 19 = .ok (.aload_n 0, 1) := by decide +kernel
theorem dX10_leadsFrom_20 : decode cX10_leadsFrom 20 = .ok (.getfield 13, 3) := by decide +kernel
theorem dX10_leadsFrom_23 : decode cX10_leadsFrom 23 = .ok (.iload 4, 2) := by decide +kernel
theorem dX10_leadsFrom_25 : decode cX10_leadsFrom 25 = .ok (.iaload, 1) := by decide +kernel
theorem dX10_leadsFrom_26 : decode cX10_leadsFrom 26 = .ok (.iload_n 1, 1) := by decide +kernel
theorem dX10_leadsFrom_27 : decode cX10_leadsFrom 27 = .ok (.if_icmp .ne 35, 3) := by decide +kernel
theorem dX10_leadsFrom_30 : decode cX10_leadsFrom 30 = .ok (.aload_n 0, 1) := by decide +kernel
theorem dX10_leadsFrom_31 : decode cX10_leadsFrom 31 = .ok (.aload_n 0, 1) := by decide +kernel
theorem dX10_leadsFrom_32 : decode cX10_leadsFrom 32 = .ok (.getfield 16, 3) := by decide +kernel
theorem dX10_leadsFrom_35 : decode cX10_leadsFrom 35 = .ok (.iload 4, 2) := by decide +kernel
theorem dX10_leadsFrom_37 : decode cX10_leadsFrom 37 = .ok (.iaload, 1) := by decide +kernel
theorem dX10_leadsFrom_38 : decode cX10_leadsFrom 38 = .ok (.invokevirtual 141, 3) := by decide +kernel
theorem dX10_leadsFrom_41 : decode cX10_leadsFrom 41 = .ok (.ifCond .ne 21, 3) := by decide +kernel
theorem dX10_leadsFrom_44 : decode cX10_leadsFrom 44 = .ok (.aload_n 0, 1) := by decide +kernel
theorem dX10_leadsFrom_45 : decode cX10_leadsFrom 45 = .ok (.iload_n 3, 1) := by decide +kernel
theorem dX10_leadsFrom_46 : decode cX10_leadsFrom 46 = .ok (.bipush 10, 2) := by decide +kernel
theorem dX10_leadsFrom_48 : decode cX10_leadsFrom 48 = .ok (.aload_n 0, 1) := by decide +kernel
theorem dX10_leadsFrom_49 : decode cX10_leadsFrom 49 = .ok (.getfield 19, 3) := by decide +kernel
theorem dX10_leadsFrom_52 : decode cX10_leadsFrom 52 = .ok (.iload 4, 2) := by decide +kernel
theorem dX10_leadsFrom_54 : decode cX10_leadsFrom 54 = .ok (.iaload, 1) := by decide +kernel
theorem dX10_leadsFrom_55 : decode cX10_leadsFrom 55 = .ok (.imul, 1) := by decide +kernel
theorem dX10_leadsFrom_56 : decode cX10_leadsFrom 56 = .ok (.iload_n 2, 1) := by decide +kernel
theorem dX10_leadsFrom_57 : decode cX10_leadsFrom 57 = .ok (.iadd, 1) := by decide +kernel
theorem dX10_leadsFrom_58 : decode cX10_leadsFrom 58 = .ok (.iconst 1, 1) := by decide +kernel
theorem dX10_leadsFrom_59 : decode cX10_leadsFrom 59 = .ok (.invokevirtual 194, 3) := by decide +kernel
theorem dX10_leadsFrom_62 : decode cX10_leadsFrom 62 = .ok (.aload_n 0, 1) := by decide +kernel
theorem dX10_leadsFrom_63 : decode cX10_leadsFrom 63 = .ok (.getfield 13, 3) := by decide +kernel
theorem dX10_leadsFrom_66 : decode cX10_leadsFrom 66 = .ok (.iload 4, 2) := by decide +kernel
theorem dX10_leadsFrom_68 : decode cX10_leadsFrom 68 = .ok (.iaload, 1) := by decide +kernel
theorem dX10_leadsFrom_69 : decode cX10_leadsFrom 69 = .ok (.iload_n 2, 1) := by decide +kernel
theorem dX10_leadsFrom_70 : decode cX10_leadsFrom 70 = .ok (.if_icmp .ne 49, 3) := by decide +kernel
theorem dX10_leadsFrom_73 : decode cX10_leadsFrom 73 = .ok (.aload_n 0, 1) := by decide +kernel
theorem dX10_leadsFrom_74 : decode cX10_leadsFrom 74 = .ok (.aload_n 0, 1) := by decide +kernel
theorem dX10_leadsFrom_75 : decode cX10_leadsFrom 75 = .ok (.getfield 16, 3) := by decide +kernel
theorem dX10_leadsFrom_78 : decode cX10_leadsFrom 78 = .ok (.iload 4, 2) := by decide +kernel
theorem dX10_leadsFrom_80 : decode cX10_leadsFrom 80 = .ok (.iaload, 1) := by decide +kernel
theorem dX10_leadsFrom_81 : decode cX10_leadsFrom 81 = .ok (.invokevirtual 141, 3) := by decide +kernel
theorem dX10_leadsFrom_84 : decode cX10_leadsFrom 84 = .ok (.ifCond .ne 35, 3) := by decide +kernel
theorem dX10_leadsFrom_87 : decode cX10_leadsFrom 87 = .ok (.aload_n 0, 1) := by decide +kernel
theorem dX10_leadsFrom_88 : decode cX10_leadsFrom 88 = .ok (.aload_n 0, 1) := by decide +kernel
theorem dX10_leadsFrom_89 : decode cX10_leadsFrom 89 = .ok (.getfield 16, 3) := by decide +kernel
theorem dX10_leadsFrom_92 : decode cX10_leadsFrom 92 = .ok (.iload 4, 2) := by decide +kernel
theorem dX10_leadsFrom_94 : decode cX10_leadsFrom 94 = .ok (.iaload, 1) := by decide +kernel
theorem dX10_leadsFrom_95 : decode cX10_leadsFrom 95 = .ok (.invokevirtual 134, 3) := by decide +kernel
theorem dX10_leadsFrom_98 : decode cX10_leadsFrom 98 = .ok (.ifCond .ne 21, 3) := by decide +kernel
theorem dX10_leadsFrom_101 : decode cX10_leadsFrom 101 = .ok (.aload_n 0, 1) := by decide +kernel
theorem dX10_leadsFrom_102 : decode cX10_leadsFrom 102 = .ok (.iload_n 3, 1) := by decide +kernel
theorem dX10_leadsFrom_103 : decode cX10_leadsFrom 103 = .ok (.bipush 10, 2) := by decide +kernel
theorem dX10_leadsFrom_105 : decode cX10_leadsFrom 105 = .ok (.iload_n 1, 1) := by decide +kernel
theorem dX10_leadsFrom_106 : decode cX10_leadsFrom 106 = .ok (.imul, 1) := by decide +kernel
theorem dX10_leadsFrom_107 : decode cX10_leadsFrom 107 = .ok (.aload_n 0, 1) := by decide +kernel
theorem dX10_leadsFrom_108 : decode cX10_leadsFrom 108 = .ok (.getfield 19, 3) := by decide +kernel
theorem dX10_leadsFrom_111 : decode cX10_leadsFrom 111 = .ok (.iload 4, 2) := by decide +kernel
theorem dX10_leadsFrom_113 : decode cX10_leadsFrom 113 = .ok (.iaload, 1) := by decide +kernel
theorem dX10_leadsFrom_114 : decode cX10_leadsFrom 114 = .ok (.iadd, 1) := by decide +kernel
theorem dX10_leadsFrom_115 : decode cX10_leadsFrom 115 = .ok (.iconst 0, 1) := by decide +kernel
theorem dX10_leadsFrom_116 : decode cX10_leadsFrom 116 = .ok (.invokevirtual 194, 3) := by decide +kernel
theorem dX10_leadsFrom_119 : decode cX10_leadsFrom 119 = .ok (.iconst 0, 1) := by decide +kernel
theorem dX10_leadsFrom_120 : decode cX10_leadsFrom 120 = .ok (.istore 5, 2) := by decide +kernel
theorem dX10_leadsFrom_122 : decode cX10_leadsFrom 122 = .ok (.iload 5, 2) := by decide +kernel
theorem dX10_leadsFrom_124 : decode cX10_leadsFrom 124 = .ok (.aload_n 0, 1) := by decide +kernel
theorem dX10_leadsFrom_125 : decode cX10_leadsFrom 125 = .ok (.getfield 70, 3) := by decide +kernel
theorem dX10_leadsFrom_128 : decode cX10_leadsFrom 128 = .ok (.if_icmp .ge 100, 3) := by decide +kernel
theorem dX10_leadsFrom_131 : decode cX10_leadsFrom 131 = .ok (.aload_n 0, 1) := by decide +kernel
theorem dX10_leadsFrom_132 : decode cX10_leadsFrom 132 = .ok (.getfield 13, 3) := by decide +kernel
theorem dX10_leadsFrom_135 : decode cX10_leadsFrom 135 = .ok (.iload 4, 2) := by decide +kernel
theorem dX10_leadsFrom_137 : decode cX10_leadsFrom 137 = .ok (.iaload, 1) := by decide +kernel
theorem dX10_leadsFrom_138 : decode cX10_leadsFrom 138 = .ok (.iload_n 1, 1) := by decide +kernel
theorem dX10_leadsFrom_139 : decode cX10_leadsFrom 139 = .ok (.if_icmp .ne 89, 3) := by decide +kernel
theorem dX10_leadsFrom_142 : decode cX10_leadsFrom 142 = .ok (.aload_n 0, 1) := by decide +kernel
theorem dX10_leadsFrom_143 : decode cX10_leadsFrom 143 = .ok (.aload_n 0, 1) := by decide +kernel
theorem dX10_leadsFrom_144 : decode cX10_leadsFrom 144 = .ok (.getfield 16, 3) := by decide +kernel
theorem dX10_leadsFrom_147 : decode cX10_leadsFrom 147 = .ok (.iload 4, 2) := by decide +kernel
theorem dX10_leadsFrom_149 : decode cX10_leadsFrom 149 = .ok (.iaload, 1) := by decide +kernel
theorem dX10_leadsFrom_150 : decode cX10_leadsFrom 150 = .ok (.invokevirtual 141, 3) := by decide +kernel
theorem dX10_leadsFrom_153 : decode cX10_leadsFrom 153 = .ok (.ifCond .eq 75, 3) := by decide +kernel
theorem dX10_leadsFrom_156 : decode cX10_leadsFrom 156 = .ok (.aload_n 0, 1) := by decide +kernel
theorem dX10_leadsFrom_157 : decode cX10_leadsFrom 157 = .ok (.aload_n 0, 1) := by decide +kernel
theorem dX10_leadsFrom_158 : decode cX10_leadsFrom 158 = .ok (.getfield 16, 3) := by decide +kernel
theorem dX10_leadsFrom_161 : decode cX10_leadsFrom 161 = .ok (.iload 4, 2) := by decide +kernel
theorem dX10_leadsFrom_163 : decode cX10_leadsFrom 163 = .ok (.iaload, 1) := by decide +kernel
theorem dX10_leadsFrom_164 : decode cX10_leadsFrom 164 = .ok (.invokevirtual 134, 3) := by decide +kernel
theorem dX10_leadsFrom_167 : decode cX10_leadsFrom 167 = .ok (.ifCond .ne 61, 3) := by decide +kernel
theorem dX10_leadsFrom_170 : decode cX10_leadsFrom 170 = .ok (.aload_n 0, 1) := by decide +kernel
theorem dX10_leadsFrom_171 : decode cX10_leadsFrom 171 = .ok (.getfield 13, 3) := by decide +kernel
theorem dX10_leadsFrom_174 : decode cX10_leadsFrom 174 = .ok (.iload 5, 2) := by decide +kernel
theorem dX10_leadsFrom_176 : decode cX10_leadsFrom 176 = .ok (.iaload, 1) := by decide +kernel
theorem dX10_leadsFrom_177 : decode cX10_leadsFrom 177 = .ok (.iload_n 2, 1) := by decide +kernel
theorem dX10_leadsFrom_178 : decode cX10_leadsFrom 178 = .ok (.if_icmp .ne 44, 3) := by decide +kernel
theorem dX10_leadsFrom_181 : decode cX10_leadsFrom 181 = .ok (.aload_n 0, 1) := by decide +kernel
theorem dX10_leadsFrom_182 : decode cX10_leadsFrom 182 = .ok (.getfield 16, 3) := by decide +kernel
theorem dX10_leadsFrom_185 : decode cX10_leadsFrom 185 = .ok (.iload 5, 2) := by decide +kernel
theorem dX10_leadsFrom_187 : decode cX10_leadsFrom 187 = .ok (.iaload, 1) := by decide +kernel
theorem dX10_leadsFrom_188 : decode cX10_leadsFrom 188 = .ok (.aload_n 0, 1) := by decide +kernel
theorem dX10_leadsFrom_189 : decode cX10_leadsFrom 189 = .ok (.getfield 16, 3) := by decide +kernel
theorem dX10_leadsFrom_192 : decode cX10_leadsFrom 192 = .ok (.iload 4, 2) := by decide +kernel
theorem dX10_leadsFrom_194 : decode cX10_leadsFrom 194 = .ok (.iaload, 1) := by decide +kernel
theorem dX10_leadsFrom_195 : decode cX10_leadsFrom 195 = .ok (.if_icmp .ne 27, 3) := by decide +kernel
theorem dX10_leadsFrom_198 : decode cX10_leadsFrom 198 = .ok (.aload_n 0, 1) := by decide +kernel
theorem dX10_leadsFrom_199 : decode cX10_leadsFrom 199 = .ok (.iload_n 3, 1) := by decide +kernel
theorem dX10_leadsFrom_200 : decode cX10_leadsFrom 200 = .ok (.bipush 10, 2) := by decide +kernel
theorem dX10_leadsFrom_202 : decode cX10_leadsFrom 202 = .ok (.aload_n 0, 1) := by decide +kernel
theorem dX10_leadsFrom_203 : decode cX10_leadsFrom 203 = .ok (.getfield 19, 3) := by decide +kernel
theorem dX10_leadsFrom_206 : decode cX10_leadsFrom 206 = .ok (.iload 4, 2) := by decide +kernel
theorem dX10_leadsFrom_208 : decode cX10_leadsFrom 208 = .ok (.iaload, 1) := by decide +kernel
theorem dX10_leadsFrom_209 : decode cX10_leadsFrom 209 = .ok (.imul, 1) := by decide +kernel
theorem dX10_leadsFrom_210 : decode cX10_leadsFrom 210 = .ok (.aload_n 0, 1) := by decide +kernel
theorem dX10_leadsFrom_211 : decode cX10_leadsFrom 211 = .ok (.getfield 19, 3) := by decide +kernel
theorem dX10_leadsFrom_214 : decode cX10_leadsFrom 214 = .ok (.iload 5, 2) := by decide +kernel
theorem dX10_leadsFrom_216 : decode cX10_leadsFrom 216 = .ok (.iaload, 1) := by decide +kernel
theorem dX10_leadsFrom_217 : decode cX10_leadsFrom 217 = .ok (.iadd, 1) := by decide +kernel
theorem dX10_leadsFrom_218 : decode cX10_leadsFrom 218 = .ok (.iconst 1, 1) := by decide +kernel
theorem dX10_leadsFrom_219 : decode cX10_leadsFrom 219 = .ok (.invokevirtual 194, 3) := by decide +kernel
theorem dX10_leadsFrom_222 : decode cX10_leadsFrom 222 = .ok (.iinc 5 1, 3) := by decide +kernel
theorem dX10_leadsFrom_225 : decode cX10_leadsFrom 225 = .ok (.goto (-103), 3) := by decide +kernel
theorem dX10_leadsFrom_228 : decode cX10_leadsFrom 228 = .ok (.iinc 4 1, 3) := by decide +kernel
theorem dX10_leadsFrom_231 : decode cX10_leadsFrom 231 = .ok (.goto (-221), 3) := by decide +kernel
theorem dX10_leadsFrom_234 : decode cX10_leadsFrom 234 = .ok (.return_, 1) := by decide +kernel
theorem dX10_isDoubt_0 : decode cX10_isDoubt 0 = .ok (.aload_n 0, 1) := by decide +kernel
theorem dX10_isDoubt_1 : decode cX10_isDoubt 1 = .ok (.getfield 41, 3) := by decide +kernel
theorem dX10_isDoubt_4 : decode cX10_isDoubt 4 = .ok (.bipush 100, 2) := by decide +kernel
theorem dX10_isDoubt_6 : decode cX10_isDoubt 6 = .ok (.iload_n 1, 1) := by decide +kernel
theorem dX10_isDoubt_7 : decode cX10_isDoubt 7 = .ok (.iadd, 1) := by decide +kernel
theorem dX10_isDoubt_8 : decode cX10_isDoubt 8 = .ok (.iaload, 1) := by decide +kernel
theorem dX10_isDoubt_9 : decode cX10_isDoubt 9 = .ok (.iconst 1, 1) := by decide +kernel
theorem dX10_isDoubt_10 : decode cX10_isDoubt 10 = .ok (.if_icmp .ne 7, 3) := by decide +kernel
theorem dX10_isDoubt_13 : decode cX10_isDoubt 13 = .ok (.iconst 1, 1) := by decide +kernel
theorem dX10_isDoubt_14 : decode cX10_isDoubt 14 = .ok (.goto 4, 3) := by decide +kernel
theorem dX10_isDoubt_17 : decode cX10_isDoubt 17 = .ok (.iconst 0, 1) := by decide +kernel
theorem dX10_isDoubt_18 : decode cX10_isDoubt 18 = .ok (.ireturn, 1) := by decide +kernel
set_option maxRecDepth 20000 in
theorem ggX10_findsLeads_X10_findsPairs : GoodIn wsX10_findsLeads wsX10_findsPairs := goodIn_r _ [9, 10, 11, 12, 13, 8, 14, 15, 16, 17, 18, 19, 20, 21, 22, 23, 24, 25, 26, 27, 28, 29, 30, 31, 32, 33, 34, 35, 36, 37, 38, 39, 52, 53, 54, 55, 56, 57, 58, 59, 60, 61, 62, 63, 64, 65, 66, 67, 68, 69, 70, 71, 72, 73, 74, 75, 76] rfl (by decide +kernel)
set_option maxRecDepth 20000 in
theorem gX10_findsLeads_X10_findsPairs : GoodIn wsX10_findsLeads (wsV RX10 185 RX10 yX10_findsPairs wsX10_findsPairs) := goodIn_app (goodIn_r _ [5, 6, 7, 8] rfl (by decide +kernel)) ggX10_findsLeads_X10_findsPairs
set_option maxRecDepth 20000 in
theorem ggX10_findsLeads_X10_isDoubt : GoodIn wsX10_findsLeads wsX10_isDoubt := goodIn_r _ [43, 10, 52, 53, 54, 55, 56, 57, 58, 59, 60, 61, 62, 63, 64, 65, 66, 67, 68, 69, 70, 71, 72, 73, 74, 75, 76] rfl (by decide +kernel)
set_option maxRecDepth 20000 in
theorem gX10_findsLeads_X10_isDoubt : GoodIn wsX10_findsLeads (wsV RX10 198 RX10 yX10_isDoubt wsX10_isDoubt) := goodIn_app (goodIn_r _ [40, 41, 42, 8] rfl (by decide +kernel)) ggX10_findsLeads_X10_isDoubt
set_option maxRecDepth 20000 in
theorem ggX10_findsLeads_X10_leadsFrom : GoodIn wsX10_findsLeads wsX10_leadsFrom := goodIn_r _ [47, 23, 24, 26, 25, 35, 36, 37, 8, 38, 39, 48, 49, 50, 51, 1, 3, 2, 4, 27, 28, 29, 30, 31, 52, 53, 54, 55, 56, 57, 58, 59, 60, 61, 62, 63, 64, 65, 66, 67, 68, 69, 70, 71, 72, 73, 74, 75, 76] rfl (by decide +kernel)
set_option maxRecDepth 20000 in
theorem gX10_findsLeads_X10_leadsFrom : GoodIn wsX10_findsLeads (wsV RX10 201 RX10 yX10_leadsFrom wsX10_leadsFrom) := goodIn_app (goodIn_r _ [44, 45, 46, 8] rfl (by decide +kernel)) ggX10_findsLeads_X10_leadsFrom
theorem dX10_findsLeads_0 : decode cX10_findsLeads 0 = .ok (.aload_n 0, 1) := by decide +kernel
theorem dX10_findsLeads_1 : decode cX10_findsLeads 1 = .ok (.invokevirtual 185, 3) := by decide +kernel
theorem dX10_findsLeads_4 : decode cX10_findsLeads 4 = .ok (.iconst 0, 1) := by decide +kernel
theorem dX10_findsLeads_5 : decode cX10_findsLeads 5 = .ok (.istore_n 1, 1) := by decide +kernel
theorem dX10_findsLeads_6 : decode cX10_findsLeads 6 = .ok (.iload_n 1, 1) := by decide +kernel
theorem dX10_findsLeads_7 : decode cX10_findsLeads 7 = .ok (.bipush 100, 2) := by decide +kernel
theorem dX10_findsLeads_9 : decode cX10_findsLeads 9 = .ok (.if_icmp .ge 57, 3) := by decide +kernel
theorem dX10_findsLeads_12 : decode cX10_findsLeads 12 = .ok (.aload_n 0, 1) := by decide +kernel
theorem dX10_findsLeads_13 : decode cX10_findsLeads 13 = .ok (.getfield 51, 3) := by decide +kernel
theorem dX10_findsLeads_16 : decode cX10_findsLeads 16 = .ok (.iload_n 1, 1) := by decide +kernel
theorem dX10_findsLeads_17 : decode cX10_findsLeads 17 = .ok (.lconst 0, 1) := by decide +kernel
theorem dX10_findsLeads_18 : decode cX10_findsLeads 18 = .ok (.lastore, 1) := by decide +kernel
theorem dX10_findsLeads_19 : decode cX10_findsLeads 19 = .ok (.aload_n 0, 1) := by decide +kernel
theorem dX10_findsLeads_20 : decode cX10_findsLeads 20 = .ok (.getfield 54, 3) := by decide +kernel
theorem dX10_findsLeads_23 : decode cX10_findsLeads 23 = .ok (.iload_n 1, 1) := by decide +kernel
theorem dX10_findsLeads_24 : decode cX10_findsLeads 24 = .ok (.lconst 0, 1) := by decide +kernel
theorem dX10_findsLeads_25 : decode cX10_findsLeads 25 = .ok (.lastore, 1) := by decide +kernel
theorem dX10_findsLeads_26 : decode cX10_findsLeads 26 = .ok (.aload_n 0, 1) := by decide +kernel
theorem dX10_findsLeads_27 : decode cX10_findsLeads 27 = .ok (.getfield 44, 3) := by decide +kernel
theorem dX10_findsLeads_30 : decode cX10_findsLeads 30 = .ok (.iload_n 1, 1) := by decide +kernel
theorem dX10_findsLeads_31 : decode cX10_findsLeads 31 = .ok (.lconst 0, 1) := by decide +kernel
theorem dX10_findsLeads_32 : decode cX10_findsLeads 32 = .ok (.lastore, 1) := by decide +kernel
theorem dX10_findsLeads_33 : decode cX10_findsLeads 33 = .ok (.aload_n 0, 1) := by decide +kernel
theorem dX10_findsLeads_34 : decode cX10_findsLeads 34 = .ok (.getfield 48, 3) := by decide +kernel
theorem dX10_findsLeads_37 : decode cX10_findsLeads 37 = .ok (.iload_n 1, 1) := by decide +kernel
theorem dX10_findsLeads_38 : decode cX10_findsLeads 38 = .ok (.lconst 0, 1) := by decide +kernel
theorem dX10_findsLeads_39 : decode cX10_findsLeads 39 = .ok (.lastore, 1) := by decide +kernel
theorem dX10_findsLeads_40 : decode cX10_findsLeads 40 = .ok (.aload_n 0, 1) := by decide +kernel
theorem dX10_findsLeads_41 : decode cX10_findsLeads 41 = .ok (.iload_n 1, 1) := by decide +kernel
theorem dX10_findsLeads_42 : decode cX10_findsLeads 42 = .ok (.invokevirtual 198, 3) := by decide +kernel
theorem dX10_findsLeads_45 : decode cX10_findsLeads 45 = .ok (.ifCond .eq 15, 3) := by decide +kernel
theorem dX10_findsLeads_48 : decode cX10_findsLeads 48 = .ok (.aload_n 0, 1) := by decide +kernel
theorem dX10_findsLeads_49 : decode cX10_findsLeads 49 = .ok (.iload_n 1, 1) := by decide +kernel
theorem dX10_findsLeads_50 : decode cX10_findsLeads 50 = .ok (.bipush 10, 2) := by decide +kernel
theorem dX10_findsLeads_52 : decode cX10_findsLeads 52 = .ok (.idiv, 1) := by decide +kernel
theorem dX10_findsLeads_53 : decode cX10_findsLeads 53 = .ok (.iload_n 1, 1) := by decide +kernel
theorem dX10_findsLeads_54 : decode cX10_findsLeads 54 = .ok (.bipush 10, 2) := by decide +kernel
theorem dX10_findsLeads_56 : decode cX10_findsLeads 56 = .ok (.irem, 1) := by decide +kernel
theorem dX10_findsLeads_57 : decode cX10_findsLeads 57 = .ok (.invokevirtual 201, 3) := by decide +kernel
theorem dX10_findsLeads_60 : decode cX10_findsLeads 60 = .ok (.iinc 1 1, 3) := by decide +kernel
theorem dX10_findsLeads_63 : decode cX10_findsLeads 63 = .ok (.goto (-57), 3) := by decide +kernel
theorem dX10_findsLeads_66 : decode cX10_findsLeads 66 = .ok (.return_, 1) := by decide +kernel
set_option maxRecDepth 20000 in
theorem ggX10_goesOn_X10_has : GoodIn wsX10_goesOn wsX10_has := goodIn_r _ [6] rfl (by decide +kernel)
set_option maxRecDepth 20000 in
theorem gX10_goesOn_X10_has : GoodIn wsX10_goesOn (va_wsS RX10 204 yX10_has wsX10_has) := goodIn_app (goodIn_of _ (by decide +kernel)) ggX10_goesOn_X10_has
theorem dX10_goesOn_0 : decode cX10_goesOn 0 = .ok (.iconst 0, 1) := by decide +kernel
theorem dX10_goesOn_1 : decode cX10_goesOn 1 = .ok (.istore_n 1, 1) := by decide +kernel
theorem dX10_goesOn_2 : decode cX10_goesOn 2 = .ok (.iload_n 1, 1) := by decide +kernel
theorem dX10_goesOn_3 : decode cX10_goesOn 3 = .ok (.bipush 100, 2) := by decide +kernel
theorem dX10_goesOn_5 : decode cX10_goesOn 5 = .ok (.if_icmp .ge 72, 3) := by decide +kernel
theorem dX10_goesOn_8 : decode cX10_goesOn 8 = .ok (.iconst 0, 1) := by decide +kernel
theorem dX10_goesOn_9 : decode cX10_goesOn 9 = .ok (.istore_n 2, 1) := by decide +kernel
theorem dX10_goesOn_10 : decode cX10_goesOn 10 = .ok (.iload_n 2, 1) := by decide +kernel
theorem dX10_goesOn_11 : decode cX10_goesOn 11 = .ok (.bipush 100, 2) := by decide +kernel
theorem dX10_goesOn_13 : decode cX10_goesOn 13 = .ok (.if_icmp .ge 58, 3) := by decide +kernel
theorem dX10_goesOn_16 : decode cX10_goesOn 16 = .ok (.aload_n 0, 1) := by decide +kernel
theorem dX10_goesOn_17 : decode cX10_goesOn 17 = .ok (.getfield 51, 3) := by decide +kernel
theorem dX10_goesOn_20 : decode cX10_goesOn 20 = .ok (.iload_n 2, 1) := by decide +kernel
theorem dX10_goesOn_21 : decode cX10_goesOn 21 = .ok (.laload, 1) := by decide +kernel
theorem dX10_goesOn_22 : decode cX10_goesOn 22 = .ok (.aload_n 0, 1) := by decide +kernel
theorem dX10_goesOn_23 : decode cX10_goesOn 23 = .ok (.getfield 54, 3) := by decide +kernel
theorem dX10_goesOn_26 : decode cX10_goesOn 26 = .ok (.iload_n 2, 1) := by decide +kernel
theorem dX10_goesOn_27 : decode cX10_goesOn 27 = .ok (.laload, 1) := by decide +kernel
theorem dX10_goesOn_28 : decode cX10_goesOn 28 = .ok (.iload_n 1, 1) := by decide +kernel
theorem dX10_goesOn_29 : decode cX10_goesOn 29 = .ok (.invokestatic 204, 3) := by decide +kernel
theorem dX10_goesOn_32 : decode cX10_goesOn 32 = .ok (.ifCond .eq 33, 3) := by decide +kernel
theorem dX10_goesOn_35 : decode cX10_goesOn 35 = .ok (.aload_n 0, 1) := by decide +kernel
theorem dX10_goesOn_36 : decode cX10_goesOn 36 = .ok (.getfield 51, 3) := by decide +kernel
theorem dX10_goesOn_39 : decode cX10_goesOn 39 = .ok (.iload_n 2, 1) := by decide +kernel
theorem dX10_goesOn_40 : decode cX10_goesOn 40 = .ok (.dup2, 1) := by decide +kernel
theorem dX10_goesOn_41 : decode cX10_goesOn 41 = .ok (.laload, 1) := by decide +kernel
theorem dX10_goesOn_42 : decode cX10_goesOn 42 = .ok (.aload_n 0, 1) := by decide +kernel
theorem dX10_goesOn_43 : decode cX10_goesOn 43 = .ok (.getfield 51, 3) := by decide +kernel
theorem dX10_goesOn_46 : decode cX10_goesOn 46 = .ok (.iload_n 1, 1) := by decide +kernel
theorem dX10_goesOn_47 : decode cX10_goesOn 47 = .ok (.laload, 1) := by decide +kernel
theorem dX10_goesOn_48 : decode cX10_goesOn 48 = .ok (.lor, 1) := by decide +kernel
theorem dX10_goesOn_49 : decode cX10_goesOn 49 = .ok (.lastore, 1) := by decide +kernel
theorem dX10_goesOn_50 : decode cX10_goesOn 50 = .ok (.aload_n 0, 1) := by decide +kernel
theorem dX10_goesOn_51 : decode cX10_goesOn 51 = .ok (.getfield 54, 3) := by decide +kernel
theorem dX10_goesOn_54 : decode cX10_goesOn 54 = .ok (.iload_n 2, 1) := by decide +kernel
theorem dX10_goesOn_55 : decode cX10_goesOn 55 = .ok (.dup2, 1) := by decide +kernel
theorem dX10_goesOn_56 : decode cX10_goesOn 56 = .ok (.laload, 1) := by decide +kernel
theorem dX10_goesOn_57 : decode cX10_goesOn 57 = .ok (.aload_n 0, 1) := by decide +kernel
theorem dX10_goesOn_58 : decode cX10_goesOn 58 = .ok (.getfield 54, 3) := by decide +kernel
theorem dX10_goesOn_61 : decode cX10_goesOn 61 = .ok (.iload_n 1, 1) := by decide +kernel
theorem dX10_goesOn_62 : decode cX10_goesOn 62 = .ok (.laload, 1) := by decide +kernel
theorem dX10_goesOn_63 : decode cX10_goesOn 63 = .ok (.lor, 1) := by decide +kernel
theorem dX10_goesOn_64 : decode cX10_goesOn 64 = .ok (.lastore, 1) := by decide +kernel
theorem dX10_goesOn_65 : decode cX10_goesOn 65 = .ok (.iinc 2 1, 3) := by decide +kernel
theorem dX10_goesOn_68 : decode cX10_goesOn 68 = .ok (.goto (-58), 3) := by decide +kernel
theorem dX10_goesOn_71 : decode cX10_goesOn 71 = .ok (.iinc 1 1, 3) := by decide +kernel
theorem dX10_goesOn_74 : decode cX10_goesOn 74 = .ok (.goto (-72), 3) := by decide +kernel
theorem dX10_goesOn_77 : decode cX10_goesOn 77 = .ok (.return_, 1) := by decide +kernel
set_option maxRecDepth 20000 in
theorem ggX10_isOfRing_X10_has : GoodIn wsX10_isOfRing wsX10_has := goodIn_r _ [8] rfl (by decide +kernel)
set_option maxRecDepth 20000 in
theorem gX10_isOfRing_X10_has : GoodIn wsX10_isOfRing (va_wsS RX10 204 yX10_has wsX10_has) := goodIn_app (goodIn_of _ (by decide +kernel)) ggX10_isOfRing_X10_has
theorem dX10_isOfRing_0 : decode cX10_isOfRing 0 = .ok (.iconst 0, 1) := by decide +kernel
theorem dX10_isOfRing_1 : decode cX10_isOfRing 1 = .ok (.istore_n 2, 1) := by decide +kernel
theorem dX10_isOfRing_2 : decode cX10_isOfRing 2 = .ok (.iconst 0, 1) := by decide +kernel
theorem dX10_isOfRing_3 : decode cX10_isOfRing 3 = .ok (.istore_n 3, 1) := by decide +kernel
theorem dX10_isOfRing_4 : decode cX10_isOfRing 4 = .ok (.iload_n 3, 1) := by decide +kernel
theorem dX10_isOfRing_5 : decode cX10_isOfRing 5 = .ok (.bipush 100, 2) := by decide +kernel
theorem dX10_isOfRing_7 : decode cX10_isOfRing 7 = .ok (.if_icmp .ge 118, 3) := by decide +kernel
theorem dX10_isOfRing_10 : decode cX10_isOfRing 10 = .ok (.iload_n 3, 1) := by decide +kernel
theorem dX10_isOfRing_11 : decode cX10_isOfRing 11 = .ok (.iload_n 1, 1) := by decide +kernel
theorem dX10_isOfRing_12 : decode cX10_isOfRing 12 = .ok (.if_icmp .eq 22, 3) := by decide +kernel
theorem dX10_isOfRing_15 : decode cX10_isOfRing 15 = .ok (.aload_n 0, 1) := by decide +kernel
theorem dX10_isOfRing_16 : decode cX10_isOfRing 16 = .ok (.getfield 51, 3) := by decide +kernel
theorem dX10_isOfRing_19 : decode cX10_isOfRing 19 = .ok (.iload_n 1, 1) := by decide +kernel
theorem dX10_isOfRing_20 : decode cX10_isOfRing 20 = .ok (.laload, 1) := by decide +kernel
theorem dX10_isOfRing_21 : decode cX10_isOfRing 21 = .ok (.aload_n 0, 1) := by decide +kernel
theorem dX10_isOfRing_22 : decode cX10_isOfRing 22 = .ok (.getfield 54, 3) := by decide +kernel
theorem dX10_isOfRing_25 : decode cX10_isOfRing 25 = .ok (.iload_n 1, 1) := by decide +kernel
theorem dX10_isOfRing_26 : decode cX10_isOfRing 26 = .ok (.laload, 1) := by decide +kernel
theorem dX10_isOfRing_27 : decode cX10_isOfRing 27 = .ok (.iload_n 3, 1) := by decide +kernel
theorem dX10_isOfRing_28 : decode cX10_isOfRing 28 = .ok (.invokestatic 204, 3) := by decide +kernel
theorem dX10_isOfRing_31 : decode cX10_isOfRing 31 = .ok (.ifCond .eq 7, 3) := by decide +kernel
theorem dX10_isOfRing_34 : decode cX10_isOfRing 34 = .ok (.iconst 1, 1) := by decide +kernel
theorem dX10_isOfRing_35 : decode cX10_isOfRing 35 = .ok (.goto 4, 3) := by decide +kernel
theorem dX10_isOfRing_38 : decode cX10_isOfRing 38 = .ok (.iconst 0, 1) := by decide +kernel
theorem dX10_isOfRing_39 : decode cX10_isOfRing 39 = .ok (.istore 4, 2) := by decide +kernel
theorem dX10_isOfRing_41 : decode cX10_isOfRing 41 = .ok (.iconst 0, 1) := by decide +kernel
theorem dX10_isOfRing_42 : decode cX10_isOfRing 42 = .ok (.istore 5, 2) := by decide +kernel
theorem dX10_isOfRing_44 : decode cX10_isOfRing 44 = .ok (.iload 5, 2) := by decide +kernel
theorem dX10_isOfRing_46 : decode cX10_isOfRing 46 = .ok (.bipush 100, 2) := by decide +kernel
theorem dX10_isOfRing_48 : decode cX10_isOfRing 48 = .ok (.if_icmp .ge 71, 3) := by decide +kernel
theorem dX10_isOfRing_51 : decode cX10_isOfRing 51 = .ok (.iload 4, 2) := by decide +kernel
theorem dX10_isOfRing_53 : decode cX10_isOfRing 53 = .ok (.ifCond .eq 66, 3) := by decide +kernel
theorem dX10_isOfRing_56 : decode cX10_isOfRing 56 = .ok (.iload_n 2, 1) := by decide +kernel
theorem dX10_isOfRing_57 : decode cX10_isOfRing 57 = .ok (.ifCond .ne 62, 3) := by decide +kernel
theorem dX10_isOfRing_60 : decode cX10_isOfRing 60 = .ok (.aload_n 0, 1) := by decide +kernel
theorem dX10_isOfRing_61 : decode cX10_isOfRing 61 = .ok (.getfield 44, 3) := by decide +kernel
theorem dX10_isOfRing_64 : decode cX10_isOfRing 64 = .ok (.iload_n 3, 1) := by decide +kernel
theorem dX10_isOfRing_65 : decode cX10_isOfRing 65 = .ok (.laload, 1) := by decide +kernel
theorem dX10_isOfRing_66 : decode cX10_isOfRing 66 = .ok (.aload_n 0, 1) := by decide +kernel
theorem dX10_isOfRing_67 : decode cX10_isOfRing 67 = .ok (.getfield 48, 3) := by decide +kernel
theorem dX10_isOfRing_70 : decode cX10_isOfRing 70 = .ok (.iload_n 3, 1) := by decide +kernel
theorem dX10_isOfRing_71 : decode cX10_isOfRing 71 = .ok (.laload, 1) := by decide +kernel
theorem dX10_isOfRing_72 : decode cX10_isOfRing 72 = .ok (.iload 5, 2) := by decide +kernel
theorem dX10_isOfRing_74 : decode cX10_isOfRing 74 = .ok (.invokestatic 204, 3) := by decide +kernel
theorem dX10_isOfRing_77 : decode cX10_isOfRing 77 = .ok (.ifCond .eq 34, 3) := by decide +kernel
theorem dX10_isOfRing_80 : decode cX10_isOfRing 80 = .ok (.iload 5, 2) := by decide +kernel
theorem dX10_isOfRing_82 : decode cX10_isOfRing 82 = .ok (.iload_n 1, 1) := by decide +kernel
theorem dX10_isOfRing_83 : decode cX10_isOfRing 83 = .ok (.if_icmp .eq 24, 3) := by decide +kernel
theorem dX10_isOfRing_86 : decode cX10_isOfRing 86 = .ok (.aload_n 0, 1) := by decide +kernel
theorem dX10_isOfRing_87 : decode cX10_isOfRing 87 = .ok (.getfield 51, 3) := by decide +kernel
theorem dX10_isOfRing_90 : decode cX10_isOfRing 90 = .ok (.iload 5, 2) := by decide +kernel
theorem dX10_isOfRing_92 : decode cX10_isOfRing 92 = .ok (.laload, 1) := by decide +kernel
theorem dX10_isOfRing_93 : decode cX10_isOfRing 93 = .ok (.aload_n 0, 1) := by decide +kernel
theorem dX10_isOfRing_94 : decode cX10_isOfRing 94 = .ok (.getfield 54, 3) := by decide +kernel
theorem dX10_isOfRing_97 : decode cX10_isOfRing 97 = .ok (.iload 5, 2) := by decide +kernel
theorem dX10_isOfRing_99 : decode cX10_isOfRing 99 = .ok (.laload, 1) := by decide +kernel
theorem dX10_isOfRing_100 : decode cX10_isOfRing 100 = .ok (.iload_n 1, 1) := by decide +kernel
theorem dX10_isOfRing_101 : decode cX10_isOfRing 101 = .ok (.invokestatic 204, 3) := by decide +kernel
theorem dX10_isOfRing_104 : decode cX10_isOfRing 104 = .ok (.ifCond .eq 7, 3) := by decide +kernel
theorem dX10_isOfRing_107 : decode cX10_isOfRing 107 = .ok (.iconst 1, 1) := by decide +kernel
theorem dX10_isOfRing_108 : decode cX10_isOfRing 108 = .ok (.goto 4, 3) := by decide +kernel
theorem dX10_isOfRing_111 : decode cX10_isOfRing 111 = .ok (.iconst 0, 1) := by decide +kernel
theorem dX10_isOfRing_112 : decode cX10_isOfRing 112 = .ok (.istore_n 2, 1) := by decide +kernel
theorem dX10_isOfRing_113 : decode cX10_isOfRing 113 = .ok (.iinc 5 1, 3) := by decide +kernel
theorem dX10_isOfRing_116 : decode cX10_isOfRing 116 = .ok (.goto (-72), 3) := by decide +kernel
theorem dX10_isOfRing_119 : decode cX10_isOfRing 119 = .ok (.iinc 3 1, 3) := by decide +kernel
theorem dX10_isOfRing_122 : decode cX10_isOfRing 122 = .ok (.goto (-118), 3) := by decide +kernel
theorem dX10_isOfRing_125 : decode cX10_isOfRing 125 = .ok (.iload_n 2, 1) := by decide +kernel
theorem dX10_isOfRing_126 : decode cX10_isOfRing 126 = .ok (.ireturn, 1) := by decide +kernel
set_option maxRecDepth 20000 in
theorem ggX10_isApart_X10_findsLeads : GoodIn wsX10_isApart wsX10_findsLeads := goodIn_r _ [9, 3, 4, 1, 2, 10, 11, 12, 8, 13, 14, 15, 16, 17, 18, 19, 20, 21, 22, 23, 24, 25, 26, 27, 28, 29, 30, 31, 32, 33, 34, 35, 36, 37, 38, 39, 40, 41, 42, 43, 44, 45, 46, 47, 48, 49, 50, 51, 52, 53, 54, 55, 63, 64, 65, 66, 67, 68, 69, 70, 71, 72, 73, 74, 75, 76, 77, 78, 79, 80, 81, 82, 83, 84, 85, 86, 87] rfl (by decide +kernel)
set_option maxRecDepth 20000 in
theorem gX10_isApart_X10_findsLeads : GoodIn wsX10_isApart (wsV RX10 208 RX10 yX10_findsLeads wsX10_findsLeads) := goodIn_app (goodIn_r _ [5, 6, 7, 8] rfl (by decide +kernel)) ggX10_isApart_X10_findsLeads
set_option maxRecDepth 20000 in
theorem ggX10_isApart_X10_goesOn : GoodIn wsX10_isApart wsX10_goesOn := goodIn_r _ [59, 3, 4, 60, 61, 8, 62, 63, 64, 65, 66, 67, 68, 69, 70, 71, 72, 73, 74, 75, 76, 77, 78, 79, 80, 81, 82, 83, 84, 85, 86, 87] rfl (by decide +kernel)
set_option maxRecDepth 20000 in
theorem gX10_isApart_X10_goesOn : GoodIn wsX10_isApart (wsV RX10 211 RX10 yX10_goesOn wsX10_goesOn) := goodIn_app (goodIn_r _ [56, 57, 58, 8] rfl (by decide +kernel)) ggX10_isApart_X10_goesOn
set_option maxRecDepth 20000 in
theorem ggX10_isApart_X10_has : GoodIn wsX10_isApart wsX10_has := goodIn_r _ [62] rfl (by decide +kernel)
set_option maxRecDepth 20000 in
theorem gX10_isApart_X10_has : GoodIn wsX10_isApart (va_wsS RX10 204 yX10_has wsX10_has) := goodIn_app (goodIn_of _ (by decide +kernel)) ggX10_isApart_X10_has
theorem dX10_isApart_0 : decode cX10_isApart 0 = .ok (.aload_n 0, 1) := by decide +kernel
theorem dX10_isApart_1 : decode cX10_isApart 1 = .ok (.invokevirtual 208, 3) := by decide +kernel
theorem dX10_isApart_4 : decode cX10_isApart 4 = .ok (.aload_n 0, 1) := by decide +kernel
theorem dX10_isApart_5 : decode cX10_isApart 5 = .ok (.invokevirtual 211, 3) := by decide +kernel
theorem dX10_isApart_8 : decode cX10_isApart 8 = .ok (.iconst 0, 1) := by decide +kernel
theorem dX10_isApart_9 : decode cX10_isApart 9 = .ok (.istore_n 1, 1) := by decide +kernel
theorem dX10_isApart_10 : decode cX10_isApart 10 = .ok (.iconst 0, 1) := by decide +kernel
theorem dX10_isApart_11 : decode cX10_isApart 11 = .ok (.istore_n 2, 1) := by decide +kernel
theorem dX10_isApart_12 : decode cX10_isApart 12 = .ok (.iload_n 2, 1) := by decide +kernel
theorem dX10_isApart_13 : decode cX10_isApart 13 = .ok (.bipush 100, 2) := by decide +kernel
theorem dX10_isApart_15 : decode cX10_isApart 15 = .ok (.if_icmp .ge 76, 3) := by decide +kernel
theorem dX10_isApart_18 : decode cX10_isApart 18 = .ok (.iconst 0, 1) := by decide +kernel
theorem dX10_isApart_19 : decode cX10_isApart 19 = .ok (.istore_n 3, 1) := by decide +kernel
theorem dX10_isApart_20 : decode cX10_isApart 20 = .ok (.iload_n 3, 1) := by decide +kernel
theorem dX10_isApart_21 : decode cX10_isApart 21 = .ok (.bipush 100, 2) := by decide +kernel
theorem dX10_isApart_23 : decode cX10_isApart 23 = .ok (.if_icmp .ge 62, 3) := by decide +kernel
theorem dX10_isApart_26 : decode cX10_isApart 26 = .ok (.iload_n 1, 1) := by decide +kernel
theorem dX10_isApart_27 : decode cX10_isApart 27 = .ok (.ifCond .ne 58, 3) := by decide +kernel
theorem dX10_isApart_30 : decode cX10_isApart 30 = .ok (.aload_n 0, 1) := by decide +kernel
theorem dX10_isApart_31 : decode cX10_isApart 31 = .ok (.getfield 44, 3) := by decide +kernel
theorem dX10_isApart_34 : decode cX10_isApart 34 = .ok (.iload_n 2, 1) := by decide +kernel
theorem dX10_isApart_35 : decode cX10_isApart 35 = .ok (.laload, 1) := by decide +kernel
theorem dX10_isApart_36 : decode cX10_isApart 36 = .ok (.aload_n 0, 1) := by decide +kernel
theorem dX10_isApart_37 : decode cX10_isApart 37 = .ok (.getfield 48, 3) := by decide +kernel
theorem dX10_isApart_40 : decode cX10_isApart 40 = .ok (.iload_n 2, 1) := by decide +kernel
theorem dX10_isApart_41 : decode cX10_isApart 41 = .ok (.laload, 1) := by decide +kernel
theorem dX10_isApart_42 : decode cX10_isApart 42 = .ok (.iload_n 3, 1) := by decide +kernel
theorem dX10_isApart_43 : decode cX10_isApart 43 = .ok (.invokestatic 204, 3) := by decide +kernel
theorem dX10_isApart_46 : decode cX10_isApart 46 = .ok (.ifCond .eq 31, 3) := by decide +kernel
theorem dX10_isApart_49 : decode cX10_isApart 49 = .ok (.iload_n 2, 1) := by decide +kernel
theorem dX10_isApart_50 : decode cX10_isApart 50 = .ok (.iload_n 3, 1) := by decide +kernel
theorem dX10_isApart_51 : decode cX10_isApart 51 = .ok (.if_icmp .eq 22, 3) := by decide +kernel
theorem dX10_isApart_54 : decode cX10_isApart 54 = .ok (.aload_n 0, 1) := by decide +kernel
theorem dX10_isApart_55 : decode cX10_isApart 55 = .ok (.getfield 51, 3) := by decide +kernel
theorem dX10_isApart_58 : decode cX10_isApart 58 = .ok (.iload_n 3, 1) := by decide +kernel
theorem dX10_isApart_59 : decode cX10_isApart 59 = .ok (.laload, 1) := by decide +kernel
theorem dX10_isApart_60 : decode cX10_isApart 60 = .ok (.aload_n 0, 1) := by decide +kernel
theorem dX10_isApart_61 : decode cX10_isApart 61 = .ok (.getfield 54, 3) := by decide +kernel
theorem dX10_isApart_64 : decode cX10_isApart 64 = .ok (.iload_n 3, 1) := by decide +kernel
theorem dX10_isApart_65 : decode cX10_isApart 65 = .ok (.laload, 1) := by decide +kernel
theorem dX10_isApart_66 : decode cX10_isApart 66 = .ok (.iload_n 2, 1) := by decide +kernel
theorem dX10_isApart_67 : decode cX10_isApart 67 = .ok (.invokestatic 204, 3) := by decide +kernel
theorem dX10_isApart_70 : decode cX10_isApart 70 = .ok (.ifCond .eq 7, 3) := by decide +kernel
theorem dX10_isApart_73 : decode cX10_isApart 73 = .ok (.iconst 1, 1) := by decide +kernel
theorem dX10_isApart_74 : decode cX10_isApart 74 = .ok (.goto 4, 3) := by decide +kernel
theorem dX10_isApart_77 : decode cX10_isApart 77 = .ok (.iconst 0, 1) := by decide +kernel
theorem dX10_isApart_78 : decode cX10_isApart 78 = .ok (.istore_n 1, 1) := by decide +kernel
theorem dX10_isApart_79 : decode cX10_isApart 79 = .ok (.iinc 3 1, 3) := by decide +kernel
theorem dX10_isApart_82 : decode cX10_isApart 82 = .ok (.goto (-62), 3) := by decide +kernel
theorem dX10_isApart_85 : decode cX10_isApart 85 = .ok (.iinc 2 1, 3) := by decide +kernel
theorem dX10_isApart_88 : decode cX10_isApart 88 = .ok (.goto (-76), 3) := by decide +kernel
theorem dX10_isApart_91 : decode cX10_isApart 91 = .ok (.iload_n 1, 1) := by decide +kernel
theorem dX10_isApart_92 : decode cX10_isApart 92 = .ok (.ifCond .ne 7, 3) := by decide +kernel
theorem dX10_isApart_95 : decode cX10_isApart 95 = .ok (.iconst 1, 1) := by decide +kernel
theorem dX10_isApart_96 : decode cX10_isApart 96 = .ok (.goto 4, 3) := by decide +kernel
theorem dX10_isApart_99 : decode cX10_isApart 99 = .ok (.iconst 0, 1) := by decide +kernel
theorem dX10_isApart_100 : decode cX10_isApart 100 = .ok (.ireturn, 1) := by decide +kernel
set_option maxRecDepth 20000 in
theorem ggX10_delay_X10_findsLeads : GoodIn wsX10_delay wsX10_findsLeads := goodIn_r _ [10, 2, 3, 4, 5, 11, 12, 13, 9, 14, 15, 16, 17, 18, 19, 20, 21, 22, 23, 24, 25, 26, 27, 28, 29, 30, 31, 32, 33, 34, 35, 36, 37, 38, 39, 40, 41, 42, 43, 44, 45, 46, 47, 48, 49, 50, 51, 52, 53, 54, 55, 56, 60, 61, 62, 63, 64, 65, 66, 67, 68, 69, 70, 71, 72, 73, 74, 75, 76, 77, 78, 79, 80, 81, 82, 83, 84] rfl (by decide +kernel)
set_option maxRecDepth 20000 in
theorem gX10_delay_X10_findsLeads : GoodIn wsX10_delay (wsV RX10 208 RX10 yX10_findsLeads wsX10_findsLeads) := goodIn_app (goodIn_r _ [6, 7, 8, 9] rfl (by decide +kernel)) ggX10_delay_X10_findsLeads
set_option maxRecDepth 20000 in
theorem ggX10_delay_X10_has : GoodIn wsX10_delay wsX10_has := goodIn_r _ [59] rfl (by decide +kernel)
set_option maxRecDepth 20000 in
theorem gX10_delay_X10_has : GoodIn wsX10_delay (va_wsS RX10 204 yX10_has wsX10_has) := goodIn_app (goodIn_of _ (by decide +kernel)) ggX10_delay_X10_has
theorem dX10_delay_0 : decode cX10_delay 0 = .ok (.aload_n 0, 1) := by decide +kernel
theorem dX10_delay_1 : decode cX10_delay 1 = .ok (.invokevirtual 208, 3) := by decide +kernel
theorem dX10_delay_4 : decode cX10_delay 4 = .ok (.iconst 0, 1) := by decide +kernel
theorem dX10_delay_5 : decode cX10_delay 5 = .ok (.istore_n 1, 1) := by decide +kernel
theorem dX10_delay_6 : decode cX10_delay 6 = .ok (.iconst 1, 1) := by decide +kernel
theorem dX10_delay_7 : decode cX10_delay 7 = .ok (.istore_n 2, 1) := by decide +kernel
theorem dX10_delay_8 : decode cX10_delay 8 = .ok (.iconst 0, 1) := by decide +kernel
theorem dX10_delay_9 : decode cX10_delay 9 = .ok (.istore_n 3, 1) := by decide +kernel
theorem dX10_delay_10 : decode cX10_delay 10 = .ok (.iload_n 3, 1) := by decide +kernel
theorem dX10_delay_11 : decode cX10_delay 11 = .ok (.bipush 100, 2) := by decide +kernel
theorem dX10_delay_13 : decode cX10_delay 13 = .ok (.if_icmp .ge 16, 3) := by decide +kernel
theorem dX10_delay_16 : decode cX10_delay 16 = .ok (.aload_n 0, 1) := by decide +kernel
theorem dX10_delay_17 : decode cX10_delay 17 = .ok (.getfield 57, 3) := by decide +kernel
theorem dX10_delay_20 : decode cX10_delay 20 = .ok (.iload_n 3, 1) := by decide +kernel
theorem dX10_delay_21 : decode cX10_delay 21 = .ok (.iconst 0, 1) := by decide +kernel
theorem dX10_delay_22 : decode cX10_delay 22 = .ok (.iastore, 1) := by decide +kernel
theorem dX10_delay_23 : decode cX10_delay 23 = .ok (.iinc 3 1, 3) := by decide +kernel
theorem dX10_delay_26 : decode cX10_delay 26 = .ok (.goto (-16), 3) := by decide +kernel
theorem dX10_delay_29 : decode cX10_delay 29 = .ok (.iload_n 2, 1) := by decide +kernel
theorem dX10_delay_30 : decode cX10_delay 30 = .ok (.ifCond .eq 155, 3) := by decide +kernel
theorem dX10_delay_33 : decode cX10_delay 33 = .ok (.iconst 0, 1) := by decide +kernel
theorem dX10_delay_34 : decode cX10_delay 34 = .ok (.istore_n 2, 1) := by decide +kernel
theorem dX10_delay_35 : decode cX10_delay 35 = .ok (.iconst 0, 1) := by decide +kernel
theorem dX10_delay_36 : decode cX10_delay 36 = .ok (.istore_n 3, 1) := by decide +kernel
theorem dX10_delay_37 : decode cX10_delay 37 = .ok (.iload_n 3, 1) := by decide +kernel
theorem dX10_delay_38 : decode cX10_delay 38 = .ok (.bipush 100, 2) := by decide +kernel
theorem dX10_delay_40 : decode cX10_delay 40 = .ok (.if_icmp .ge 142, 3) := by decide +kernel
theorem dX10_delay_43 : decode cX10_delay 43 = .ok (.iconst 0, 1) := by decide +kernel
theorem dX10_delay_44 : decode cX10_delay 44 = .ok (.istore 4, 2) := by decide +kernel
theorem dX10_delay_46 : decode cX10_delay 46 = .ok (.iload 4, 2) := by decide +kernel
theorem dX10_delay_48 : decode cX10_delay 48 = .ok (.bipush 100, 2) := by decide +kernel
theorem dX10_delay_50 : decode cX10_delay 50 = .ok (.if_icmp .ge 126, 3) := by decide +kernel
theorem dX10_delay_53 : decode cX10_delay 53 = .ok (.aload_n 0, 1) := by decide +kernel
theorem dX10_delay_54 : decode cX10_delay 54 = .ok (.getfield 51, 3) := by decide +kernel
theorem dX10_delay_57 : decode cX10_delay 57 = .ok (.iload_n 3, 1) := by decide +kernel
theorem dX10_delay_58 : decode cX10_delay 58 = .ok (.laload, 1) := by decide +kernel
theorem dX10_delay_59 : decode cX10_delay 59 = .ok (.aload_n 0, 1) := by decide +kernel
theorem dX10_delay_60 : decode cX10_delay 60 = .ok (.getfield 54, 3) := by decide +kernel
theorem dX10_delay_63 : decode cX10_delay 63 = .ok (.iload_n 3, 1) := by decide +kernel
theorem dX10_delay_64 : decode cX10_delay 64 = .ok (.laload, 1) := by decide +kernel
theorem dX10_delay_65 : decode cX10_delay 65 = .ok (.iload 4, 2) := by decide +kernel
theorem dX10_delay_67 : decode cX10_delay 67 = .ok (.invokestatic 204, 3) := by decide +kernel
theorem dX10_delay_70 : decode cX10_delay 70 = .ok (.ifCond .eq 100, 3) := by decide +kernel
theorem dX10_delay_73 : decode cX10_delay 73 = .ok (.aload_n 0, 1) := by decide +kernel
theorem dX10_delay_74 : decode cX10_delay 74 = .ok (.getfield 57, 3) := by decide +kernel
theorem dX10_delay_77 : decode cX10_delay 77 = .ok (.iload 4, 2) := by decide +kernel
theorem dX10_delay_79 : decode cX10_delay 79 = .ok (.iaload, 1) := by decide +kernel
theorem dX10_delay_80 : decode cX10_delay 80 = .ok (.aload_n 0, 1) := by decide +kernel
theorem dX10_delay_81 : decode cX10_delay 81 = .ok (.getfield 44, 3) := by decide +kernel
theorem dX10_delay_84 : decode cX10_delay 84 = .ok (.iload_n 3, 1) := by decide +kernel
theorem dX10_delay_85 : decode cX10_delay 85 = .ok (.laload, 1) := by decide +kernel
theorem dX10_delay_86 : decode cX10_delay 86 = .ok (.aload_n 0, 1) := by decide +kernel
theorem dX10_delay_87 : decode cX10_delay 87 = .ok (.getfield 48, 3) := by decide +kernel
theorem dX10_delay_90 : decode cX10_delay 90 = .ok (.iload_n 3, 1) := by decide +kernel
theorem dX10_delay_91 : decode cX10_delay 91 = .ok (.laload, 1) := by decide +kernel
theorem dX10_delay_92 : decode cX10_delay 92 = .ok (.iload 4, 2) := by decide +kernel
theorem dX10_delay_94 : decode cX10_delay 94 = .ok (.invokestatic 204, 3) := by decide +kernel
theorem dX10_delay_97 : decode cX10_delay 97 = .ok (.ifCond .eq 7, 3) := by decide +kernel
theorem dX10_delay_100 : decode cX10_delay 100 = .ok (.iconst 1, 1) := by decide +kernel
theorem dX10_delay_101 : decode cX10_delay 101 = .ok (.goto 4, 3) := by decide +kernel
theorem dX10_delay_104 : decode cX10_delay 104 = .ok (.iconst 0, 1) := by decide +kernel
theorem dX10_delay_105 : decode cX10_delay 105 = .ok (.iadd, 1) := by decide +kernel
theorem dX10_delay_106 : decode cX10_delay 106 = .ok (.istore 5, 2) := by decide +kernel
theorem dX10_delay_108 : decode cX10_delay 108 = .ok (.iload_n 2, 1) := by decide +kernel
theorem dX10_delay_109 : decode cX10_delay 109 = .ok (.ifCond .ne 14, 3) := by decide +kernel
theorem dX10_delay_112 : decode cX10_delay 112 = .ok (.iload 5, 2) := by decide +kernel
theorem dX10_delay_114 : decode cX10_delay 114 = .ok (.aload_n 0, 1) := by decide +kernel
theorem dX10_delay_115 : decode cX10_delay 115 = .ok (.getfield 57, 3) := by decide +kernel
theorem dX10_delay_118 : decode cX10_delay 118 = .ok (.iload_n 3, 1) := by decide +kernel
theorem dX10_delay_119 : decode cX10_delay 119 = .ok (.iaload, 1) := by decide +kernel
theorem dX10_delay_120 : decode cX10_delay 120 = .ok (.if_icmp .le 7, 3) := by decide +kernel
theorem dX10_delay_123 : decode cX10_delay 123 = .ok (.iconst 1, 1) := by decide +kernel
theorem dX10_delay_124 : decode cX10_delay 124 = .ok (.goto 4, 3) := by decide +kernel
theorem dX10_delay_127 : decode cX10_delay 127 = .ok (.iconst 0, 1) := by decide +kernel
theorem dX10_delay_128 : decode cX10_delay 128 = .ok (.istore_n 2, 1) := by decide +kernel
theorem dX10_delay_129 : decode cX10_delay 129 = .ok (.aload_n 0, 1) := by decide +kernel
theorem dX10_delay_130 : decode cX10_delay 130 = .ok (.getfield 57, 3) := by decide +kernel
theorem dX10_delay_133 : decode cX10_delay 133 = .ok (.iload_n 3, 1) := by decide +kernel
theorem dX10_delay_134 : decode cX10_delay 134 = .ok (.iload 5, 2) := by decide +kernel
theorem dX10_delay_136 : decode cX10_delay 136 = .ok (.aload_n 0, 1) := by decide +kernel
theorem dX10_delay_137 : decode cX10_delay 137 = .ok (.getfield 57, 3) := by decide +kernel
theorem dX10_delay_140 : decode cX10_delay 140 = .ok (.iload_n 3, 1) := by decide +kernel
theorem dX10_delay_141 : decode cX10_delay 141 = .ok (.iaload, 1) := by decide +kernel
theorem dX10_delay_142 : decode cX10_delay 142 = .ok (.if_icmp .le 8, 3) := by decide +kernel
theorem dX10_delay_145 : decode cX10_delay 145 = .ok (.iload 5, 2) := by decide +kernel
theorem dX10_delay_147 : decode cX10_delay 147 = .ok (.goto 9, 3) := by decide +kernel
theorem dX10_delay_150 : decode cX10_delay 150 = .ok (.aload_n 0, 1) := by decide +kernel
theorem dX10_delay_151 : decode cX10_delay 151 = .ok (.getfield 57, 3) := by decide +kernel
theorem dX10_delay_154 : decode cX10_delay 154 = .ok (.iload_n 3, 1) := by decide +kernel
theorem dX10_delay_155 : decode cX10_delay 155 = .ok (.iaload, 1) := by decide +kernel
theorem dX10_delay_156 : decode cX10_delay 156 = .ok (.iastore, 1) := by decide +kernel
theorem dX10_delay_157 : decode cX10_delay 157 = .ok (.iload 5, 2) := by decide +kernel
theorem dX10_delay_159 : decode cX10_delay 159 = .ok (.iload_n 1, 1) := by decide +kernel
theorem dX10_delay_160 : decode cX10_delay 160 = .ok (.if_icmp .le 8, 3) := by decide +kernel
theorem dX10_delay_163 : decode cX10_delay 163 = .ok (.iload 5, 2) := by decide +kernel
theorem dX10_delay_165 : decode cX10_delay 165 = .ok (.goto 4, 3) := by decide +kernel
theorem dX10_delay_168 : decode cX10_delay 168 = .ok (.iload_n 1, 1) := by decide +kernel
theorem dX10_delay_169 : decode cX10_delay 169 = .ok (.istore_n 1, 1) := by decide +kernel
theorem dX10_delay_170 : decode cX10_delay 170 = .ok (.iinc 4 1, 3) := by decide +kernel
theorem dX10_delay_173 : decode cX10_delay 173 = .ok (.goto (-127), 3) := by decide +kernel
theorem dX10_delay_176 : decode cX10_delay 176 = .ok (.iinc 3 1, 3) := by decide +kernel
theorem dX10_delay_179 : decode cX10_delay 179 = .ok (.goto (-142), 3) := by decide +kernel
theorem dX10_delay_182 : decode cX10_delay 182 = .ok (.goto (-153), 3) := by decide +kernel
theorem dX10_delay_185 : decode cX10_delay 185 = .ok (.iload_n 1, 1) := by decide +kernel
theorem dX10_delay_186 : decode cX10_delay 186 = .ok (.ireturn, 1) := by decide +kernel
set_option maxRecDepth 20000 in
theorem ggX10_apartBy_X10_isApart : GoodIn wsX10_apartBy wsX10_isApart := goodIn_r _ [5, 6, 7, 8, 9, 10, 11, 12, 4, 13, 14, 15, 16, 17, 18, 19, 20, 21, 22, 23, 24, 25, 26, 27, 28, 29, 30, 31, 32, 33, 34, 35, 36, 37, 38, 39, 40, 41, 42, 43, 44, 45, 46, 47, 48, 49, 50, 51, 52, 53, 54, 55, 56, 57, 58, 59, 60, 61, 62, 63, 64, 65, 66, 72, 73, 74, 75, 76, 77, 78, 79, 80, 81, 82, 83, 84, 85, 86, 87, 88, 89, 90, 91, 92, 93, 94, 95, 96] rfl (by decide +kernel)
set_option maxRecDepth 20000 in
theorem gX10_apartBy_X10_isApart : GoodIn wsX10_apartBy (wsV RX10 214 RX10 yX10_isApart wsX10_isApart) := goodIn_app (goodIn_r _ [1, 2, 3, 4] rfl (by decide +kernel)) ggX10_apartBy_X10_isApart
set_option maxRecDepth 20000 in
theorem ggX10_apartBy_X10_delay : GoodIn wsX10_apartBy wsX10_delay := goodIn_r _ [70, 71, 8, 9, 6, 7, 10, 11, 12, 4, 13, 14, 15, 16, 17, 18, 19, 20, 21, 22, 23, 24, 25, 26, 27, 28, 29, 30, 31, 32, 33, 34, 35, 36, 37, 38, 39, 40, 41, 42, 43, 44, 45, 46, 47, 48, 49, 50, 51, 52, 53, 54, 55, 56, 57, 58, 59, 64, 65, 66, 72, 73, 74, 75, 76, 77, 78, 79, 80, 81, 82, 83, 84, 85, 86, 87, 88, 89, 90, 91, 92, 93, 94, 95, 96] rfl (by decide +kernel)
set_option maxRecDepth 20000 in
theorem gX10_apartBy_X10_delay : GoodIn wsX10_apartBy (wsV RX10 218 RX10 yX10_delay wsX10_delay) := goodIn_app (goodIn_r _ [67, 68, 69, 4] rfl (by decide +kernel)) ggX10_apartBy_X10_delay
theorem dX10_apartBy_0 : decode cX10_apartBy 0 = .ok (.aload_n 0, 1) := by decide +kernel
theorem dX10_apartBy_1 : decode cX10_apartBy 1 = .ok (.invokevirtual 214, 3) := by decide +kernel
theorem dX10_apartBy_4 : decode cX10_apartBy 4 = .ok (.istore_n 2, 1) := by decide +kernel
theorem dX10_apartBy_5 : decode cX10_apartBy 5 = .ok (.iload_n 1, 1) := by decide +kernel
theorem dX10_apartBy_6 : decode cX10_apartBy 6 = .ok (.ifCond .ne 15, 3) := by decide +kernel
theorem dX10_apartBy_9 : decode cX10_apartBy 9 = .ok (.iload_n 2, 1) := by decide +kernel
theorem dX10_apartBy_10 : decode cX10_apartBy 10 = .ok (.ifCond .eq 7, 3) := by decide +kernel
theorem dX10_apartBy_13 : decode cX10_apartBy 13 = .ok (.iconst 1, 1) := by decide +kernel
theorem dX10_apartBy_14 : decode cX10_apartBy 14 = .ok (.goto 19, 3) := by decide +kernel
theorem dX10_apartBy_17 : decode cX10_apartBy 17 = .ok (.iconst 0, 1) := by decide +kernel
theorem dX10_apartBy_18 : decode cX10_apartBy 18 = .ok (.goto 15, 3) := by decide +kernel
theorem dX10_apartBy_21 : decode cX10_apartBy 21 = .ok (.iload_n 2, 1) := by decide +kernel
theorem dX10_apartBy_22 : decode cX10_apartBy 22 = .ok (.ifCond .eq 10, 3) := by decide +kernel
theorem dX10_apartBy_25 : decode cX10_apartBy 25 = .ok (.aload_n 0, 1) := by decide +kernel
theorem dX10_apartBy_26 : decode cX10_apartBy 26 = .ok (.invokevirtual 218, 3) := by decide +kernel
theorem dX10_apartBy_29 : decode cX10_apartBy 29 = .ok (.goto 4, 3) := by decide +kernel
theorem dX10_apartBy_32 : decode cX10_apartBy 32 = .ok (.iconst (-1), 1) := by decide +kernel
theorem dX10_apartBy_33 : decode cX10_apartBy 33 = .ok (.ireturn, 1) := by decide +kernel
set_option maxRecDepth 20000 in
theorem ggX10_apart_X10_in : GoodIn wsX10_apart wsX10_in := goodIn_r _ [4] rfl (by decide +kernel)
set_option maxRecDepth 20000 in
theorem gX10_apart_X10_in : GoodIn wsX10_apart (va_wsS RX10 63 yX10_in wsX10_in) := goodIn_app (goodIn_of _ (by decide +kernel)) ggX10_apart_X10_in
set_option maxRecDepth 20000 in
theorem ggX10_apart_X10_apartBy : GoodIn wsX10_apart wsX10_apartBy := goodIn_r _ [8, 9, 10, 11, 3, 12, 13, 14, 15, 16, 17, 18, 19, 20, 21, 22, 23, 24, 25, 26, 27, 28, 29, 30, 31, 32, 33, 34, 35, 36, 37, 38, 39, 40, 41, 42, 43, 44, 45, 46, 47, 48, 49, 50, 51, 52, 53, 54, 55, 56, 57, 58, 59, 60, 61, 62, 63, 64, 65, 66, 67, 68, 69, 70, 71, 72, 73, 74, 75, 76, 77, 78, 84, 85, 86, 87, 88, 89, 90, 91, 92, 93, 94, 95, 96, 97, 98, 99, 100, 101, 102, 103, 104, 105, 106, 107, 108] rfl (by decide +kernel)
set_option maxRecDepth 20000 in
theorem gX10_apart_X10_apartBy : GoodIn wsX10_apart (wsV RX10 221 RX10 yX10_apartBy wsX10_apartBy) := goodIn_app (goodIn_r _ [5, 6, 7, 3] rfl (by decide +kernel)) ggX10_apart_X10_apartBy
set_option maxRecDepth 20000 in
theorem ggX10_apart_X10_bad : GoodIn wsX10_apart wsX10_bad := goodIn_r _ [82, 83, 84, 85, 86, 87, 88, 89, 90, 91, 92, 93, 94, 95, 96, 97, 98, 99, 100, 101, 102, 103, 104, 105, 106, 107, 108] rfl (by decide +kernel)
set_option maxRecDepth 20000 in
theorem gX10_apart_X10_bad : GoodIn wsX10_apart (wsV RX10 94 RX10 yX10_bad wsX10_bad) := goodIn_app (goodIn_r _ [79, 80, 81, 3] rfl (by decide +kernel)) ggX10_apart_X10_bad
theorem dX10_apart_0 : decode cX10_apart 0 = .ok (.iload_n 1, 1) := by decide +kernel
theorem dX10_apart_1 : decode cX10_apart 1 = .ok (.iconst 0, 1) := by decide +kernel
theorem dX10_apart_2 : decode cX10_apart 2 = .ok (.iconst 1, 1) := by decide +kernel
theorem dX10_apart_3 : decode cX10_apart 3 = .ok (.invokestatic 63, 3) := by decide +kernel
theorem dX10_apart_6 : decode cX10_apart 6 = .ok (.ifCond .eq 11, 3) := by decide +kernel
theorem dX10_apart_9 : decode cX10_apart 9 = .ok (.aload_n 0, 1) := by decide +kernel
theorem dX10_apart_10 : decode cX10_apart 10 = .ok (.iload_n 1, 1) := by decide +kernel
theorem dX10_apart_11 : decode cX10_apart 11 = .ok (.invokevirtual 221, 3) := by decide +kernel
theorem dX10_apart_14 : decode cX10_apart 14 = .ok (.goto 7, 3) := by decide +kernel
theorem dX10_apart_17 : decode cX10_apart 17 = .ok (.aload_n 0, 1) := by decide +kernel
theorem dX10_apart_18 : decode cX10_apart 18 = .ok (.invokevirtual 94, 3) := by decide +kernel
theorem dX10_apart_21 : decode cX10_apart 21 = .ok (.ireturn, 1) := by decide +kernel
set_option maxRecDepth 20000 in
theorem ggX10_soonest_X10_in : GoodIn wsX10_soonest wsX10_in := goodIn_r _ [7] rfl (by decide +kernel)
set_option maxRecDepth 20000 in
theorem gX10_soonest_X10_in : GoodIn wsX10_soonest (va_wsS RX10 63 yX10_in wsX10_in) := goodIn_app (goodIn_of _ (by decide +kernel)) ggX10_soonest_X10_in
set_option maxRecDepth 20000 in
theorem ggX10_soonest_X10_bad : GoodIn wsX10_soonest wsX10_bad := goodIn_r _ [11, 12, 50, 51, 52, 53, 54, 55, 56, 57, 58, 59, 60, 61, 62, 63, 64, 65, 66, 67, 68, 69, 70, 71, 72, 73, 74] rfl (by decide +kernel)
set_option maxRecDepth 20000 in
theorem gX10_soonest_X10_bad : GoodIn wsX10_soonest (wsV RX10 94 RX10 yX10_bad wsX10_bad) := goodIn_app (goodIn_r _ [8, 9, 10, 6] rfl (by decide +kernel)) ggX10_soonest_X10_bad
set_option maxRecDepth 20000 in
theorem ggX10_soonest_X10_findsSets : GoodIn wsX10_soonest wsX10_findsSets := goodIn_r _ [16, 1, 2, 3, 17, 18, 19, 6, 20, 21, 22, 23, 24, 25, 26, 27, 28, 29, 30, 31, 32, 33, 34, 35, 36, 37, 38, 39, 40, 41, 42, 43, 44, 45, 46, 50, 51, 52, 53, 54, 55, 56, 57, 58, 59, 60, 61, 62, 63, 64, 65, 66, 67, 68, 69, 70, 71, 72, 73, 74] rfl (by decide +kernel)
set_option maxRecDepth 20000 in
theorem gX10_soonest_X10_findsSets : GoodIn wsX10_soonest (wsV RX10 179 RX10 yX10_findsSets wsX10_findsSets) := goodIn_app (goodIn_r _ [13, 14, 15, 6] rfl (by decide +kernel)) ggX10_soonest_X10_findsSets
set_option maxRecDepth 20000 in
theorem ggX10_soonest_X10_verdict : GoodIn wsX10_soonest wsX10_verdict := goodIn_r _ [49] rfl (by decide +kernel)
set_option maxRecDepth 20000 in
theorem gX10_soonest_X10_verdict : GoodIn wsX10_soonest (va_wsS RX10 147 yX10_verdict wsX10_verdict) := goodIn_app (goodIn_of _ (by decide +kernel)) ggX10_soonest_X10_verdict
theorem dX10_soonest_0 : decode cX10_soonest 0 = .ok (.iload_n 1, 1) := by decide +kernel
theorem dX10_soonest_1 : decode cX10_soonest 1 = .ok (.iconst 0, 1) := by decide +kernel
theorem dX10_soonest_2 : decode cX10_soonest 2 = .ok (.iconst 1, 1) := by decide +kernel
theorem dX10_soonest_3 : decode cX10_soonest 3 = .ok (.invokestatic 63, 3) := by decide +kernel
theorem dX10_soonest_6 : decode cX10_soonest 6 = .ok (.ifCond .ne 8, 3) := by decide +kernel
theorem dX10_soonest_9 : decode cX10_soonest 9 = .ok (.aload_n 0, 1) := by decide +kernel
theorem dX10_soonest_10 : decode cX10_soonest 10 = .ok (.invokevirtual 94, 3) := by decide +kernel
theorem dX10_soonest_13 : decode cX10_soonest 13 = .ok (.ireturn, 1) := by decide +kernel
theorem dX10_soonest_14 : decode cX10_soonest 14 = .ok (.aload_n 0, 1) := by decide +kernel
theorem dX10_soonest_15 : decode cX10_soonest 15 = .ok (.invokevirtual 179, 3) := by decide +kernel
theorem dX10_soonest_18 : decode cX10_soonest 18 = .ok (.iconst 0, 1) := by decide +kernel
theorem dX10_soonest_19 : decode cX10_soonest 19 = .ok (.istore_n 2, 1) := by decide +kernel
theorem dX10_soonest_20 : decode cX10_soonest 20 = .ok (.iload_n 2, 1) := by decide +kernel
theorem dX10_soonest_21 : decode cX10_soonest 21 = .ok (.aload_n 0, 1) := by decide +kernel
theorem dX10_soonest_22 : decode cX10_soonest 22 = .ok (.getfield 159, 3) := by decide +kernel
theorem dX10_soonest_25 : decode cX10_soonest 25 = .ok (.if_icmp .ge 37, 3) := by decide +kernel
theorem dX10_soonest_28 : decode cX10_soonest 28 = .ok (.aload_n 0, 1) := by decide +kernel
theorem dX10_soonest_29 : decode cX10_soonest 29 = .ok (.getfield 35, 3) := by decide +kernel
theorem dX10_soonest_32 : decode cX10_soonest 32 = .ok (.iload_n 2, 1) := by decide +kernel
theorem dX10_soonest_33 : decode cX10_soonest 33 = .ok (.iaload, 1) := by decide +kernel
theorem dX10_soonest_34 : decode cX10_soonest 34 = .ok (.invokestatic 147, 3) := by decide +kernel
theorem dX10_soonest_37 : decode cX10_soonest 37 = .ok (.iload_n 1, 1) := by decide +kernel
theorem dX10_soonest_38 : decode cX10_soonest 38 = .ok (.ifCond .ne 7, 3) := by decide +kernel
theorem dX10_soonest_41 : decode cX10_soonest 41 = .ok (.iconst 1, 1) := by decide +kernel
theorem dX10_soonest_42 : decode cX10_soonest 42 = .ok (.goto 4, 3) := by decide +kernel
theorem dX10_soonest_45 : decode cX10_soonest 45 = .ok (.iconst 2, 1) := by decide +kernel
theorem dX10_soonest_46 : decode cX10_soonest 46 = .ok (.if_icmp .ne 10, 3) := by decide +kernel
theorem dX10_soonest_49 : decode cX10_soonest 49 = .ok (.aload_n 0, 1) := by decide +kernel
theorem dX10_soonest_50 : decode cX10_soonest 50 = .ok (.getfield 38, 3) := by decide +kernel
theorem dX10_soonest_53 : decode cX10_soonest 53 = .ok (.iload_n 2, 1) := by decide +kernel
theorem dX10_soonest_54 : decode cX10_soonest 54 = .ok (.iaload, 1) := by decide +kernel
theorem dX10_soonest_55 : decode cX10_soonest 55 = .ok (.ireturn, 1) := by decide +kernel
theorem dX10_soonest_56 : decode cX10_soonest 56 = .ok (.iinc 2 1, 3) := by decide +kernel
theorem dX10_soonest_59 : decode cX10_soonest 59 = .ok (.goto (-39), 3) := by decide +kernel
theorem dX10_soonest_62 : decode cX10_soonest 62 = .ok (.iconst (-1), 1) := by decide +kernel
theorem dX10_soonest_63 : decode cX10_soonest 63 = .ok (.ireturn, 1) := by decide +kernel
set_option maxRecDepth 20000 in
theorem ggX10_isApartWith_X10_isApart : GoodIn wsX10_isApartWith wsX10_isApart := goodIn_r _ [6, 7, 8, 9, 10, 11, 12, 13, 5, 14, 15, 16, 17, 18, 19, 20, 21, 22, 23, 24, 25, 26, 27, 28, 29, 30, 31, 32, 33, 34, 35, 36, 37, 38, 39, 40, 41, 42, 43, 44, 45, 46, 47, 1, 48, 49, 50, 51, 52, 53, 54, 55, 56, 57, 58, 59, 60, 61, 62, 63, 64, 65, 66, 67, 68, 69, 70, 71, 72, 73, 74, 75, 76, 77, 78, 79, 80, 81, 82, 83, 84, 85, 86, 87, 88, 89, 90, 91] rfl (by decide +kernel)
set_option maxRecDepth 20000 in
theorem gX10_isApartWith_X10_isApart : GoodIn wsX10_isApartWith (wsV RX10 214 RX10 yX10_isApart wsX10_isApart) := goodIn_app (goodIn_r _ [2, 3, 4, 5] rfl (by decide +kernel)) ggX10_isApartWith_X10_isApart
theorem dX10_isApartWith_0 : decode cX10_isApartWith 0 = .ok (.aload_n 0, 1) := by decide +kernel
theorem dX10_isApartWith_1 : decode cX10_isApartWith 1 = .ok (.getfield 22, 3) := by decide +kernel
theorem dX10_isApartWith_4 : decode cX10_isApartWith 4 = .ok (.istore_n 2, 1) := by decide +kernel
theorem dX10_isApartWith_5 : decode cX10_isApartWith 5 = .ok (.aload_n 0, 1) := by decide +kernel
theorem dX10_isApartWith_6 : decode cX10_isApartWith 6 = .ok (.dup, 1) := by decide +kernel
theorem dX10_isApartWith_7 : decode cX10_isApartWith 7 = .ok (.getfield 22, 3) := by decide +kernel
theorem dX10_isApartWith_10 : decode cX10_isApartWith 10 = .ok (.iload_n 1, 1) := by decide +kernel
theorem dX10_isApartWith_11 : decode cX10_isApartWith 11 = .ok (.ior, 1) := by decide +kernel
theorem dX10_isApartWith_12 : decode cX10_isApartWith 12 = .ok (.putfield 22, 3) := by decide +kernel
theorem dX10_isApartWith_15 : decode cX10_isApartWith 15 = .ok (.aload_n 0, 1) := by decide +kernel
theorem dX10_isApartWith_16 : decode cX10_isApartWith 16 = .ok (.invokevirtual 214, 3) := by decide +kernel
theorem dX10_isApartWith_19 : decode cX10_isApartWith 19 = .ok (.istore_n 3, 1) := by decide +kernel
theorem dX10_isApartWith_20 : decode cX10_isApartWith 20 = .ok (.aload_n 0, 1) := by decide +kernel
theorem dX10_isApartWith_21 : decode cX10_isApartWith 21 = .ok (.iload_n 2, 1) := by decide +kernel
theorem dX10_isApartWith_22 : decode cX10_isApartWith 22 = .ok (.putfield 22, 3) := by decide +kernel
theorem dX10_isApartWith_25 : decode cX10_isApartWith 25 = .ok (.iload_n 3, 1) := by decide +kernel
theorem dX10_isApartWith_26 : decode cX10_isApartWith 26 = .ok (.ireturn, 1) := by decide +kernel
set_option maxRecDepth 20000 in
theorem ggX10_areEyes_X10_in : GoodIn wsX10_areEyes wsX10_in := goodIn_r _ [6] rfl (by decide +kernel)
set_option maxRecDepth 20000 in
theorem gX10_areEyes_X10_in : GoodIn wsX10_areEyes (va_wsS RX10 63 yX10_in wsX10_in) := goodIn_app (goodIn_of _ (by decide +kernel)) ggX10_areEyes_X10_in
theorem dX10_areEyes_0 : decode cX10_areEyes 0 = .ok (.iload_n 1, 1) := by decide +kernel
theorem dX10_areEyes_1 : decode cX10_areEyes 1 = .ok (.iconst 0, 1) := by decide +kernel
theorem dX10_areEyes_2 : decode cX10_areEyes 2 = .ok (.sipush 255, 3) := by decide +kernel
theorem dX10_areEyes_5 : decode cX10_areEyes 5 = .ok (.invokestatic 63, 3) := by decide +kernel
theorem dX10_areEyes_8 : decode cX10_areEyes 8 = .ok (.ifCond .eq 21, 3) := by decide +kernel
theorem dX10_areEyes_11 : decode cX10_areEyes 11 = .ok (.iload_n 1, 1) := by decide +kernel
theorem dX10_areEyes_12 : decode cX10_areEyes 12 = .ok (.aload_n 0, 1) := by decide +kernel
theorem dX10_areEyes_13 : decode cX10_areEyes 13 = .ok (.getfield 22, 3) := by decide +kernel
theorem dX10_areEyes_16 : decode cX10_areEyes 16 = .ok (.aload_n 0, 1) := by decide +kernel
theorem dX10_areEyes_17 : decode cX10_areEyes 17 = .ok (.getfield 73, 3) := by decide +kernel
theorem dX10_areEyes_20 : decode cX10_areEyes 20 = .ok (.ior, 1) := by decide +kernel
theorem dX10_areEyes_21 : decode cX10_areEyes 21 = .ok (.iand, 1) := by decide +kernel
theorem dX10_areEyes_22 : decode cX10_areEyes 22 = .ok (.ifCond .ne 7, 3) := by decide +kernel
theorem dX10_areEyes_25 : decode cX10_areEyes 25 = .ok (.iconst 1, 1) := by decide +kernel
theorem dX10_areEyes_26 : decode cX10_areEyes 26 = .ok (.goto 4, 3) := by decide +kernel
theorem dX10_areEyes_29 : decode cX10_areEyes 29 = .ok (.iconst 0, 1) := by decide +kernel
theorem dX10_areEyes_30 : decode cX10_areEyes 30 = .ok (.ireturn, 1) := by decide +kernel
set_option maxRecDepth 20000 in
theorem ggX10_enough_X10_areEyes : GoodIn wsX10_enough wsX10_areEyes := goodIn_r _ [5, 6, 7, 8, 9, 4, 10, 83, 84, 85, 86, 87, 88, 89, 90, 91, 92, 93, 94, 95, 96, 97, 98, 99, 100, 101, 102, 103, 104, 105, 106, 107] rfl (by decide +kernel)
set_option maxRecDepth 20000 in
theorem gX10_enough_X10_areEyes : GoodIn wsX10_enough (wsV RX10 224 RX10 yX10_areEyes wsX10_areEyes) := goodIn_app (goodIn_r _ [1, 2, 3, 4] rfl (by decide +kernel)) ggX10_enough_X10_areEyes
set_option maxRecDepth 20000 in
theorem ggX10_enough_X10_bad : GoodIn wsX10_enough wsX10_bad := goodIn_r _ [14, 15, 83, 84, 85, 86, 87, 88, 89, 90, 91, 92, 93, 94, 95, 96, 97, 98, 99, 100, 101, 102, 103, 104, 105, 106, 107] rfl (by decide +kernel)
set_option maxRecDepth 20000 in
theorem gX10_enough_X10_bad : GoodIn wsX10_enough (wsV RX10 94 RX10 yX10_bad wsX10_bad) := goodIn_app (goodIn_r _ [11, 12, 13, 4] rfl (by decide +kernel)) ggX10_enough_X10_bad
set_option maxRecDepth 20000 in
theorem ggX10_enough_X10_isApartWith : GoodIn wsX10_enough wsX10_isApartWith := goodIn_r _ [19, 6, 20, 21, 22, 4, 23, 24, 25, 26, 27, 28, 29, 30, 31, 32, 33, 34, 35, 36, 37, 38, 39, 40, 41, 42, 43, 44, 45, 46, 47, 48, 49, 50, 51, 52, 53, 54, 55, 56, 7, 57, 58, 59, 60, 61, 62, 63, 64, 65, 66, 67, 68, 69, 70, 71, 72, 73, 74, 75, 76, 77, 78, 79, 80, 81, 82, 83, 84, 85, 86, 87, 88, 89, 90, 91, 92, 93, 94, 95, 96, 97, 98, 99, 100, 101, 102, 103, 104, 105, 106, 107] rfl (by decide +kernel)
set_option maxRecDepth 20000 in
theorem gX10_enough_X10_isApartWith : GoodIn wsX10_enough (wsV RX10 227 RX10 yX10_isApartWith wsX10_isApartWith) := goodIn_app (goodIn_r _ [16, 17, 18, 4] rfl (by decide +kernel)) ggX10_enough_X10_isApartWith
theorem dX10_enough_0 : decode cX10_enough 0 = .ok (.aload_n 0, 1) := by decide +kernel
theorem dX10_enough_1 : decode cX10_enough 1 = .ok (.iload_n 1, 1) := by decide +kernel
theorem dX10_enough_2 : decode cX10_enough 2 = .ok (.invokevirtual 224, 3) := by decide +kernel
theorem dX10_enough_5 : decode cX10_enough 5 = .ok (.ifCond .ne 8, 3) := by decide +kernel
theorem dX10_enough_8 : decode cX10_enough 8 = .ok (.aload_n 0, 1) := by decide +kernel
theorem dX10_enough_9 : decode cX10_enough 9 = .ok (.invokevirtual 94, 3) := by decide +kernel
theorem dX10_enough_12 : decode cX10_enough 12 = .ok (.ireturn, 1) := by decide +kernel
theorem dX10_enough_13 : decode cX10_enough 13 = .ok (.aload_n 0, 1) := by decide +kernel
theorem dX10_enough_14 : decode cX10_enough 14 = .ok (.iload_n 1, 1) := by decide +kernel
theorem dX10_enough_15 : decode cX10_enough 15 = .ok (.invokevirtual 227, 3) := by decide +kernel
theorem dX10_enough_18 : decode cX10_enough 18 = .ok (.ifCond .eq 7, 3) := by decide +kernel
theorem dX10_enough_21 : decode cX10_enough 21 = .ok (.iconst 1, 1) := by decide +kernel
theorem dX10_enough_22 : decode cX10_enough 22 = .ok (.goto 4, 3) := by decide +kernel
theorem dX10_enough_25 : decode cX10_enough 25 = .ok (.iconst 0, 1) := by decide +kernel
theorem dX10_enough_26 : decode cX10_enough 26 = .ok (.ireturn, 1) := by decide +kernel
set_option maxRecDepth 20000 in
theorem ggX10_fewest_X10_in : GoodIn wsX10_fewest wsX10_in := goodIn_r _ [4] rfl (by decide +kernel)
set_option maxRecDepth 20000 in
theorem gX10_fewest_X10_in : GoodIn wsX10_fewest (va_wsS RX10 63 yX10_in wsX10_in) := goodIn_app (goodIn_of _ (by decide +kernel)) ggX10_fewest_X10_in
set_option maxRecDepth 20000 in
theorem ggX10_fewest_X10_bad : GoodIn wsX10_fewest wsX10_bad := goodIn_r _ [8, 9, 86, 87, 88, 89, 90, 91, 92, 93, 94, 95, 96, 97, 98, 99, 100, 101, 102, 103, 104, 105, 106, 107, 108, 109, 110] rfl (by decide +kernel)
set_option maxRecDepth 20000 in
theorem gX10_fewest_X10_bad : GoodIn wsX10_fewest (wsV RX10 94 RX10 yX10_bad wsX10_bad) := goodIn_app (goodIn_r _ [5, 6, 7, 3] rfl (by decide +kernel)) ggX10_fewest_X10_bad
set_option maxRecDepth 20000 in
theorem ggX10_fewest_X10_ones : GoodIn wsX10_fewest wsX10_ones := goodIn_r _ [12] rfl (by decide +kernel)
set_option maxRecDepth 20000 in
theorem gX10_fewest_X10_ones : GoodIn wsX10_fewest (va_wsS RX10 150 yX10_ones wsX10_ones) := goodIn_app (goodIn_of _ (by decide +kernel)) ggX10_fewest_X10_ones
set_option maxRecDepth 20000 in
theorem ggX10_fewest_X10_areEyes : GoodIn wsX10_fewest wsX10_areEyes := goodIn_r _ [16, 17, 18, 1, 2, 3, 4, 86, 87, 88, 89, 90, 91, 92, 93, 94, 95, 96, 97, 98, 99, 100, 101, 102, 103, 104, 105, 106, 107, 108, 109, 110] rfl (by decide +kernel)
set_option maxRecDepth 20000 in
theorem gX10_fewest_X10_areEyes : GoodIn wsX10_fewest (wsV RX10 224 RX10 yX10_areEyes wsX10_areEyes) := goodIn_app (goodIn_r _ [13, 14, 15, 3] rfl (by decide +kernel)) ggX10_fewest_X10_areEyes
set_option maxRecDepth 20000 in
theorem ggX10_fewest_X10_isApartWith : GoodIn wsX10_fewest wsX10_isApartWith := goodIn_r _ [22, 17, 23, 24, 25, 3, 26, 27, 28, 29, 30, 31, 32, 33, 34, 35, 36, 37, 38, 39, 40, 41, 42, 43, 44, 45, 46, 47, 48, 49, 50, 51, 52, 53, 54, 55, 56, 57, 58, 59, 18, 60, 61, 62, 63, 64, 65, 66, 67, 68, 69, 70, 71, 72, 73, 74, 75, 76, 77, 78, 79, 80, 81, 82, 83, 84, 85, 86, 87, 88, 89, 90, 91, 92, 93, 94, 95, 96, 97, 98, 99, 100, 101, 102, 103, 104, 105, 106, 107, 108, 109, 110] rfl (by decide +kernel)
set_option maxRecDepth 20000 in
theorem gX10_fewest_X10_isApartWith : GoodIn wsX10_fewest (wsV RX10 227 RX10 yX10_isApartWith wsX10_isApartWith) := goodIn_app (goodIn_r _ [19, 20, 21, 3] rfl (by decide +kernel)) ggX10_fewest_X10_isApartWith
theorem dX10_fewest_0 : decode cX10_fewest 0 = .ok (.iload_n 1, 1) := by decide +kernel
theorem dX10_fewest_1 : decode cX10_fewest 1 = .ok (.iconst 0, 1) := by decide +kernel
theorem dX10_fewest_2 : decode cX10_fewest 2 = .ok (.iconst 1, 1) := by decide +kernel
theorem dX10_fewest_3 : decode cX10_fewest 3 = .ok (.invokestatic 63, 3) := by decide +kernel
theorem dX10_fewest_6 : decode cX10_fewest 6 = .ok (.ifCond .ne 8, 3) := by decide +kernel
theorem dX10_fewest_9 : decode cX10_fewest 9 = .ok (.aload_n 0, 1) := by decide +kernel
theorem dX10_fewest_10 : decode cX10_fewest 10 = .ok (.invokevirtual 94, 3) := by decide +kernel
theorem dX10_fewest_13 : decode cX10_fewest 13 = .ok (.ireturn, 1) := by decide +kernel
theorem dX10_fewest_14 : decode cX10_fewest 14 = .ok (.iconst 0, 1) := by decide +kernel
theorem dX10_fewest_15 : decode cX10_fewest 15 = .ok (.istore_n 2, 1) := by decide +kernel
theorem dX10_fewest_16 : decode cX10_fewest 16 = .ok (.iload_n 2, 1) := by decide +kernel
theorem dX10_fewest_17 : decode cX10_fewest 17 = .ok (.bipush 8, 2) := by decide +kernel
theorem dX10_fewest_19 : decode cX10_fewest 19 = .ok (.if_icmp .gt 58, 3) := by decide +kernel
theorem dX10_fewest_22 : decode cX10_fewest 22 = .ok (.iconst 0, 1) := by decide +kernel
theorem dX10_fewest_23 : decode cX10_fewest 23 = .ok (.istore_n 3, 1) := by decide +kernel
theorem dX10_fewest_24 : decode cX10_fewest 24 = .ok (.iload_n 3, 1) := by decide +kernel
theorem dX10_fewest_25 : decode cX10_fewest 25 = .ok (.sipush 256, 3) := by decide +kernel
theorem dX10_fewest_28 : decode cX10_fewest 28 = .ok (.if_icmp .ge 43, 3) := by decide +kernel
theorem dX10_fewest_31 : decode cX10_fewest 31 = .ok (.iload_n 3, 1) := by decide +kernel
theorem dX10_fewest_32 : decode cX10_fewest 32 = .ok (.invokestatic 150, 3) := by decide +kernel
theorem dX10_fewest_35 : decode cX10_fewest 35 = .ok (.iload_n 2, 1) := by decide +kernel
theorem dX10_fewest_36 : decode cX10_fewest 36 = .ok (.if_icmp .ne 29, 3) := by decide +kernel
theorem dX10_fewest_39 : decode cX10_fewest 39 = .ok (.aload_n 0, 1) := by decide +kernel
theorem dX10_fewest_40 : decode cX10_fewest 40 = .ok (.iload_n 3, 1) := by decide +kernel
theorem dX10_fewest_41 : decode cX10_fewest 41 = .ok (.invokevirtual 224, 3) := by decide +kernel
theorem dX10_fewest_44 : decode cX10_fewest 44 = .ok (.ifCond .eq 21, 3) := by decide +kernel
theorem dX10_fewest_47 : decode cX10_fewest 47 = .ok (.aload_n 0, 1) := by decide +kernel
theorem dX10_fewest_48 : decode cX10_fewest 48 = .ok (.iload_n 3, 1) := by decide +kernel
theorem dX10_fewest_49 : decode cX10_fewest 49 = .ok (.invokevirtual 227, 3) := by decide +kernel
theorem dX10_fewest_52 : decode cX10_fewest 52 = .ok (.ifCond .eq 13, 3) := by decide +kernel
theorem dX10_fewest_55 : decode cX10_fewest 55 = .ok (.iload_n 1, 1) := by decide +kernel
theorem dX10_fewest_56 : decode cX10_fewest 56 = .ok (.ifCond .ne 7, 3) := by decide +kernel
theorem dX10_fewest_59 : decode cX10_fewest 59 = .ok (.iload_n 3, 1) := by decide +kernel
theorem dX10_fewest_60 : decode cX10_fewest 60 = .ok (.goto 4, 3) := by decide +kernel
theorem dX10_fewest_63 : decode cX10_fewest 63 = .ok (.iload_n 2, 1) := by decide +kernel
theorem dX10_fewest_64 : decode cX10_fewest 64 = .ok (.ireturn, 1) := by decide +kernel
theorem dX10_fewest_65 : decode cX10_fewest 65 = .ok (.iinc 3 1, 3) := by decide +kernel
theorem dX10_fewest_68 : decode cX10_fewest 68 = .ok (.goto (-44), 3) := by decide +kernel
theorem dX10_fewest_71 : decode cX10_fewest 71 = .ok (.iinc 2 1, 3) := by decide +kernel
theorem dX10_fewest_74 : decode cX10_fewest 74 = .ok (.goto (-58), 3) := by decide +kernel
theorem dX10_fewest_77 : decode cX10_fewest 77 = .ok (.iconst (-1), 1) := by decide +kernel
theorem dX10_fewest_78 : decode cX10_fewest 78 = .ok (.ireturn, 1) := by decide +kernel
set_option maxRecDepth 20000 in
theorem ggX10_pair_X10_in : GoodIn wsX10_pair wsX10_in := goodIn_r _ [5] rfl (by decide +kernel)
set_option maxRecDepth 20000 in
theorem gX10_pair_X10_in : GoodIn wsX10_pair (va_wsS RX10 63 yX10_in wsX10_in) := goodIn_app (goodIn_of _ (by decide +kernel)) ggX10_pair_X10_in
set_option maxRecDepth 20000 in
theorem ggX10_pair_X10_isPlace : GoodIn wsX10_pair wsX10_isPlace := goodIn_r _ [8, 2, 3, 4, 5] rfl (by decide +kernel)
set_option maxRecDepth 20000 in
theorem gX10_pair_X10_isPlace : GoodIn wsX10_pair (va_wsS RX10 87 yX10_isPlace wsX10_isPlace) := goodIn_app (goodIn_of _ (by decide +kernel)) ggX10_pair_X10_isPlace
set_option maxRecDepth 20000 in
theorem ggX10_pair_X10_bad : GoodIn wsX10_pair wsX10_bad := goodIn_r _ [12, 13, 78, 79, 80, 81, 82, 83, 84, 85, 86, 87, 88, 89, 90, 91, 92, 93, 94, 95, 96, 97, 98, 99, 100, 101, 102] rfl (by decide +kernel)
set_option maxRecDepth 20000 in
theorem gX10_pair_X10_bad : GoodIn wsX10_pair (wsV RX10 94 RX10 yX10_bad wsX10_bad) := goodIn_app (goodIn_r _ [9, 10, 11, 4] rfl (by decide +kernel)) ggX10_pair_X10_bad
set_option maxRecDepth 20000 in
theorem ggX10_pair_X10_findsLeads : GoodIn wsX10_pair wsX10_findsLeads := goodIn_r _ [17, 18, 19, 20, 21, 22, 23, 24, 4, 25, 1, 26, 27, 28, 29, 30, 31, 32, 33, 34, 35, 36, 37, 38, 39, 40, 41, 42, 43, 44, 45, 46, 47, 48, 49, 50, 51, 52, 53, 54, 55, 56, 57, 58, 59, 60, 61, 62, 63, 64, 65, 66, 78, 79, 80, 81, 82, 83, 84, 85, 86, 87, 88, 89, 90, 91, 92, 93, 94, 95, 96, 97, 98, 99, 100, 101, 102] rfl (by decide +kernel)
set_option maxRecDepth 20000 in
theorem gX10_pair_X10_findsLeads : GoodIn wsX10_pair (wsV RX10 208 RX10 yX10_findsLeads wsX10_findsLeads) := goodIn_app (goodIn_r _ [14, 15, 16, 4] rfl (by decide +kernel)) ggX10_pair_X10_findsLeads
set_option maxRecDepth 20000 in
theorem ggX10_pair_X10_goesOn : GoodIn wsX10_pair wsX10_goesOn := goodIn_r _ [70, 18, 19, 71, 72, 4, 73, 78, 79, 80, 81, 82, 83, 84, 85, 86, 87, 88, 89, 90, 91, 92, 93, 94, 95, 96, 97, 98, 99, 100, 101, 102] rfl (by decide +kernel)
set_option maxRecDepth 20000 in
theorem gX10_pair_X10_goesOn : GoodIn wsX10_pair (wsV RX10 211 RX10 yX10_goesOn wsX10_goesOn) := goodIn_app (goodIn_r _ [67, 68, 69, 4] rfl (by decide +kernel)) ggX10_pair_X10_goesOn
set_option maxRecDepth 20000 in
theorem ggX10_pair_X10_isOfRing : GoodIn wsX10_pair wsX10_isOfRing := goodIn_r _ [77, 18, 19, 20, 21, 71, 72, 4, 73, 78, 79, 80, 81, 82, 83, 84, 85, 86, 87, 88, 89, 90, 91, 92, 93, 94, 95, 96, 97, 98, 99, 100, 101, 102] rfl (by decide +kernel)
set_option maxRecDepth 20000 in
theorem gX10_pair_X10_isOfRing : GoodIn wsX10_pair (wsV RX10 230 RX10 yX10_isOfRing wsX10_isOfRing) := goodIn_app (goodIn_r _ [74, 75, 76, 4] rfl (by decide +kernel)) ggX10_pair_X10_isOfRing
theorem dX10_pair_0 : decode cX10_pair 0 = .ok (.iload_n 1, 1) := by decide +kernel
theorem dX10_pair_1 : decode cX10_pair 1 = .ok (.iconst 0, 1) := by decide +kernel
theorem dX10_pair_2 : decode cX10_pair 2 = .ok (.bipush 19, 2) := by decide +kernel
theorem dX10_pair_4 : decode cX10_pair 4 = .ok (.invokestatic 63, 3) := by decide +kernel
theorem dX10_pair_7 : decode cX10_pair 7 = .ok (.ifCond .eq 10, 3) := by decide +kernel
theorem dX10_pair_10 : decode cX10_pair 10 = .ok (.iload_n 2, 1) := by decide +kernel
theorem dX10_pair_11 : decode cX10_pair 11 = .ok (.invokestatic 87, 3) := by decide +kernel
theorem dX10_pair_14 : decode cX10_pair 14 = .ok (.ifCond .ne 8, 3) := by decide +kernel
theorem dX10_pair_17 : decode cX10_pair 17 = .ok (.aload_n 0, 1) := by decide +kernel
theorem dX10_pair_18 : decode cX10_pair 18 = .ok (.invokevirtual 94, 3) := by decide +kernel
theorem dX10_pair_21 : decode cX10_pair 21 = .ok (.ireturn, 1) := by decide +kernel
theorem dX10_pair_22 : decode cX10_pair 22 = .ok (.aload_n 0, 1) := by decide +kernel
theorem dX10_pair_23 : decode cX10_pair 23 = .ok (.invokevirtual 208, 3) := by decide +kernel
theorem dX10_pair_26 : decode cX10_pair 26 = .ok (.aload_n 0, 1) := by decide +kernel
theorem dX10_pair_27 : decode cX10_pair 27 = .ok (.getfield 41, 3) := by decide +kernel
theorem dX10_pair_30 : decode cX10_pair 30 = .ok (.bipush 10, 2) := by decide +kernel
theorem dX10_pair_32 : decode cX10_pair 32 = .ok (.iload_n 1, 1) := by decide +kernel
theorem dX10_pair_33 : decode cX10_pair 33 = .ok (.imul, 1) := by decide +kernel
theorem dX10_pair_34 : decode cX10_pair 34 = .ok (.iload_n 2, 1) := by decide +kernel
theorem dX10_pair_35 : decode cX10_pair 35 = .ok (.iadd, 1) := by decide +kernel
theorem dX10_pair_36 : decode cX10_pair 36 = .ok (.iaload, 1) := by decide +kernel
theorem dX10_pair_37 : decode cX10_pair 37 = .ok (.ifCond .ne 5, 3) := by decide +kernel
theorem dX10_pair_40 : decode cX10_pair 40 = .ok (.iconst 0, 1) := by decide +kernel
theorem dX10_pair_41 : decode cX10_pair 41 = .ok (.ireturn, 1) := by decide +kernel
theorem dX10_pair_42 : decode cX10_pair 42 = .ok (.aload_n 0, 1) := by decide +kernel
theorem dX10_pair_43 : decode cX10_pair 43 = .ok (.invokevirtual 211, 3) := by decide +kernel
theorem dX10_pair_46 : decode cX10_pair 46 = .ok (.iload_n 1, 1) := by decide +kernel
theorem dX10_pair_47 : decode cX10_pair 47 = .ok (.bipush 10, 2) := by decide +kernel
theorem dX10_pair_49 : decode cX10_pair 49 = .ok (.if_icmp .lt 23, 3) := by decide +kernel
theorem dX10_pair_52 : decode cX10_pair 52 = .ok (.aload_n 0, 1) := by decide +kernel
theorem dX10_pair_53 : decode cX10_pair 53 = .ok (.bipush 10, 2) := by decide +kernel
theorem dX10_pair_55 : decode cX10_pair 55 = .ok (.iload_n 1, 1) := by decide +kernel
theorem dX10_pair_56 : decode cX10_pair 56 = .ok (.bipush 10, 2) := by decide +kernel
theorem dX10_pair_58 : decode cX10_pair 58 = .ok (.isub, 1) := by decide +kernel
theorem dX10_pair_59 : decode cX10_pair 59 = .ok (.imul, 1) := by decide +kernel
theorem dX10_pair_60 : decode cX10_pair 60 = .ok (.iload_n 2, 1) := by decide +kernel
theorem dX10_pair_61 : decode cX10_pair 61 = .ok (.iadd, 1) := by decide +kernel
theorem dX10_pair_62 : decode cX10_pair 62 = .ok (.invokevirtual 230, 3) := by decide +kernel
theorem dX10_pair_65 : decode cX10_pair 65 = .ok (.ifCond .eq 7, 3) := by decide +kernel
theorem dX10_pair_68 : decode cX10_pair 68 = .ok (.iconst 2, 1) := by decide +kernel
theorem dX10_pair_69 : decode cX10_pair 69 = .ok (.goto 4, 3) := by decide +kernel
theorem dX10_pair_72 : decode cX10_pair 72 = .ok (.iconst 1, 1) := by decide +kernel
theorem dX10_pair_73 : decode cX10_pair 73 = .ok (.ireturn, 1) := by decide +kernel
set_option maxRecDepth 20000 in
theorem ggX10_type_X10_in : GoodIn wsX10_type wsX10_in := goodIn_r _ [6] rfl (by decide +kernel)
set_option maxRecDepth 20000 in
theorem gX10_type_X10_in : GoodIn wsX10_type (va_wsS RX10 63 yX10_in wsX10_in) := goodIn_app (goodIn_of _ (by decide +kernel)) ggX10_type_X10_in
set_option maxRecDepth 20000 in
theorem ggX10_type_X10_bad : GoodIn wsX10_type wsX10_bad := goodIn_r _ [10, 11, 16, 17, 18, 19, 20, 21, 22, 23, 24, 25, 26, 27, 28, 29, 30, 31, 32, 33, 34, 35, 36, 37, 38, 39, 40] rfl (by decide +kernel)
set_option maxRecDepth 20000 in
theorem gX10_type_X10_bad : GoodIn wsX10_type (wsV RX10 94 RX10 yX10_bad wsX10_bad) := goodIn_app (goodIn_r _ [7, 8, 9, 5] rfl (by decide +kernel)) ggX10_type_X10_bad
set_option maxRecDepth 20000 in
theorem ggX10_type_X10_full : GoodIn wsX10_type wsX10_full := goodIn_r _ [15, 11, 16, 17, 18, 19, 20, 21, 22, 23, 24, 25, 26, 27, 28, 29, 30, 31, 32, 33, 34, 35, 36, 37, 38, 39, 40] rfl (by decide +kernel)
set_option maxRecDepth 20000 in
theorem gX10_type_X10_full : GoodIn wsX10_type (wsV RX10 100 RX10 yX10_full wsX10_full) := goodIn_app (goodIn_r _ [12, 13, 14, 5] rfl (by decide +kernel)) ggX10_type_X10_full
theorem dX10_type_0 : decode cX10_type 0 = .ok (.iload_n 1, 1) := by decide +kernel
theorem dX10_type_1 : decode cX10_type 1 = .ok (.iconst 0, 1) := by decide +kernel
theorem dX10_type_2 : decode cX10_type 2 = .ok (.bipush 127, 2) := by decide +kernel
theorem dX10_type_4 : decode cX10_type 4 = .ok (.invokestatic 63, 3) := by decide +kernel
theorem dX10_type_7 : decode cX10_type 7 = .ok (.ifCond .ne 8, 3) := by decide +kernel
theorem dX10_type_10 : decode cX10_type 10 = .ok (.aload_n 0, 1) := by decide +kernel
theorem dX10_type_11 : decode cX10_type 11 = .ok (.invokevirtual 94, 3) := by decide +kernel
theorem dX10_type_14 : decode cX10_type 14 = .ok (.ireturn, 1) := by decide +kernel
theorem dX10_type_15 : decode cX10_type 15 = .ok (.aload_n 0, 1) := by decide +kernel
theorem dX10_type_16 : decode cX10_type 16 = .ok (.getfield 233, 3) := by decide +kernel
theorem dX10_type_19 : decode cX10_type 19 = .ok (.bipush 120, 2) := by decide +kernel
theorem dX10_type_21 : decode cX10_type 21 = .ok (.if_icmp .ne 8, 3) := by decide +kernel
theorem dX10_type_24 : decode cX10_type 24 = .ok (.aload_n 0, 1) := by decide +kernel
theorem dX10_type_25 : decode cX10_type 25 = .ok (.invokevirtual 100, 3) := by decide +kernel
theorem dX10_type_28 : decode cX10_type 28 = .ok (.ireturn, 1) := by decide +kernel
theorem dX10_type_29 : decode cX10_type 29 = .ok (.aload_n 0, 1) := by decide +kernel
theorem dX10_type_30 : decode cX10_type 30 = .ok (.getfield 60, 3) := by decide +kernel
theorem dX10_type_33 : decode cX10_type 33 = .ok (.aload_n 0, 1) := by decide +kernel
theorem dX10_type_34 : decode cX10_type 34 = .ok (.getfield 233, 3) := by decide +kernel
theorem dX10_type_37 : decode cX10_type 37 = .ok (.iload_n 1, 1) := by decide +kernel
theorem dX10_type_38 : decode cX10_type 38 = .ok (.iastore, 1) := by decide +kernel
theorem dX10_type_39 : decode cX10_type 39 = .ok (.aload_n 0, 1) := by decide +kernel
theorem dX10_type_40 : decode cX10_type 40 = .ok (.dup, 1) := by decide +kernel
theorem dX10_type_41 : decode cX10_type 41 = .ok (.getfield 233, 3) := by decide +kernel
theorem dX10_type_44 : decode cX10_type 44 = .ok (.iconst 1, 1) := by decide +kernel
theorem dX10_type_45 : decode cX10_type 45 = .ok (.iadd, 1) := by decide +kernel
theorem dX10_type_46 : decode cX10_type 46 = .ok (.putfield 233, 3) := by decide +kernel
theorem dX10_type_49 : decode cX10_type 49 = .ok (.aload_n 0, 1) := by decide +kernel
theorem dX10_type_50 : decode cX10_type 50 = .ok (.getfield 233, 3) := by decide +kernel
theorem dX10_type_53 : decode cX10_type 53 = .ok (.ireturn, 1) := by decide +kernel
theorem dX10_clear_0 : decode cX10_clear 0 = .ok (.aload_n 0, 1) := by decide +kernel
theorem dX10_clear_1 : decode cX10_clear 1 = .ok (.getfield 233, 3) := by decide +kernel
theorem dX10_clear_4 : decode cX10_clear 4 = .ok (.istore_n 1, 1) := by decide +kernel
theorem dX10_clear_5 : decode cX10_clear 5 = .ok (.aload_n 0, 1) := by decide +kernel
theorem dX10_clear_6 : decode cX10_clear 6 = .ok (.iconst 0, 1) := by decide +kernel
theorem dX10_clear_7 : decode cX10_clear 7 = .ok (.putfield 233, 3) := by decide +kernel
theorem dX10_clear_10 : decode cX10_clear 10 = .ok (.iload_n 1, 1) := by decide +kernel
theorem dX10_clear_11 : decode cX10_clear 11 = .ok (.ireturn, 1) := by decide +kernel
theorem dX10_here_0 : decode cX10_here 0 = .ok (.aload_n 0, 1) := by decide +kernel
theorem dX10_here_1 : decode cX10_here 1 = .ok (.getfield 236, 3) := by decide +kernel
theorem dX10_here_4 : decode cX10_here 4 = .ok (.aload_n 0, 1) := by decide +kernel
theorem dX10_here_5 : decode cX10_here 5 = .ok (.getfield 233, 3) := by decide +kernel
theorem dX10_here_8 : decode cX10_here 8 = .ok (.if_icmp .ge 30, 3) := by decide +kernel
theorem dX10_here_11 : decode cX10_here 11 = .ok (.aload_n 0, 1) := by decide +kernel
theorem dX10_here_12 : decode cX10_here 12 = .ok (.getfield 60, 3) := by decide +kernel
theorem dX10_here_15 : decode cX10_here 15 = .ok (.aload_n 0, 1) := by decide +kernel
theorem dX10_here_16 : decode cX10_here 16 = .ok (.getfield 236, 3) := by decide +kernel
theorem dX10_here_19 : decode cX10_here 19 = .ok (.iaload, 1) := by decide +kernel
theorem dX10_here_20 : decode cX10_here 20 = .ok (.bipush 32, 2) := by decide +kernel
theorem dX10_here_22 : decode cX10_here 22 = .ok (.if_icmp .ne 16, 3) := by decide +kernel
theorem dX10_here_25 : decode cX10_here 25 = .ok (.aload_n 0, 1) := by decide +kernel
theorem dX10_here_26 : decode cX10_here 26 = .ok (.dup, 1) := by decide +kernel
theorem dX10_here_27 : decode cX10_here 27 = .ok (.getfield 236, 3) := by decide +kernel
theorem dX10_here_30 : decode cX10_here 30 = .ok (.iconst 1, 1) := by decide +kernel
theorem dX10_here_31 : decode cX10_here 31 = .ok (.iadd, 1) := by decide +kernel
theorem dX10_here_32 : decode cX10_here 32 = .ok (.putfield 236, 3) := by decide +kernel
theorem dX10_here_35 : decode cX10_here 35 = .ok (.goto (-35), 3) := by decide +kernel
theorem dX10_here_38 : decode cX10_here 38 = .ok (.aload_n 0, 1) := by decide +kernel
theorem dX10_here_39 : decode cX10_here 39 = .ok (.getfield 236, 3) := by decide +kernel
theorem dX10_here_42 : decode cX10_here 42 = .ok (.aload_n 0, 1) := by decide +kernel
theorem dX10_here_43 : decode cX10_here 43 = .ok (.getfield 233, 3) := by decide +kernel
theorem dX10_here_46 : decode cX10_here 46 = .ok (.if_icmp .ge 15, 3) := by decide +kernel
theorem dX10_here_49 : decode cX10_here 49 = .ok (.aload_n 0, 1) := by decide +kernel
theorem dX10_here_50 : decode cX10_here 50 = .ok (.getfield 60, 3) := by decide +kernel
theorem dX10_here_53 : decode cX10_here 53 = .ok (.aload_n 0, 1) := by decide +kernel
theorem dX10_here_54 : decode cX10_here 54 = .ok (.getfield 236, 3) := by decide +kernel
theorem dX10_here_57 : decode cX10_here 57 = .ok (.iaload, 1) := by decide +kernel
theorem dX10_here_58 : decode cX10_here 58 = .ok (.goto 4, 3) := by decide +kernel
theorem dX10_here_61 : decode cX10_here 61 = .ok (.iconst (-1), 1) := by decide +kernel
theorem dX10_here_62 : decode cX10_here 62 = .ok (.ireturn, 1) := by decide +kernel
theorem dX10_wrong_0 : decode cX10_wrong 0 = .ok (.aload_n 0, 1) := by decide +kernel
theorem dX10_wrong_1 : decode cX10_wrong 1 = .ok (.iload_n 1, 1) := by decide +kernel
theorem dX10_wrong_2 : decode cX10_wrong 2 = .ok (.putfield 239, 3) := by decide +kernel
theorem dX10_wrong_5 : decode cX10_wrong 5 = .ok (.iconst 0, 1) := by decide +kernel
theorem dX10_wrong_6 : decode cX10_wrong 6 = .ok (.ireturn, 1) := by decide +kernel
set_option maxRecDepth 20000 in
theorem ggX10_ends_X10_here : GoodIn wsX10_ends wsX10_here := goodIn_r _ [6, 1, 7, 8, 14, 15, 16, 17, 18, 19, 20, 21, 22, 23, 24, 25, 26, 27, 28, 29, 30, 31, 32, 33, 34, 35, 36, 37, 38] rfl (by decide +kernel)
set_option maxRecDepth 20000 in
theorem gX10_ends_X10_here : GoodIn wsX10_ends (wsV RX10 242 RX10 yX10_here wsX10_here) := goodIn_app (goodIn_r _ [2, 3, 4, 5] rfl (by decide +kernel)) ggX10_ends_X10_here
set_option maxRecDepth 20000 in
theorem ggX10_ends_X10_wrong : GoodIn wsX10_ends wsX10_wrong := goodIn_r _ [12, 13, 14, 15, 16, 17, 18, 19, 20, 21, 22, 23, 24, 25, 26, 27, 28, 29, 30, 31, 32, 33, 34, 35, 36, 37, 38] rfl (by decide +kernel)
set_option maxRecDepth 20000 in
theorem gX10_ends_X10_wrong : GoodIn wsX10_ends (wsV RX10 245 RX10 yX10_wrong wsX10_wrong) := goodIn_app (goodIn_r _ [9, 10, 11, 5] rfl (by decide +kernel)) ggX10_ends_X10_wrong
theorem dX10_ends_0 : decode cX10_ends 0 = .ok (.aload_n 0, 1) := by decide +kernel
theorem dX10_ends_1 : decode cX10_ends 1 = .ok (.invokevirtual 242, 3) := by decide +kernel
theorem dX10_ends_4 : decode cX10_ends 4 = .ok (.bipush 59, 2) := by decide +kernel
theorem dX10_ends_6 : decode cX10_ends 6 = .ok (.if_icmp .eq 12, 3) := by decide +kernel
theorem dX10_ends_9 : decode cX10_ends 9 = .ok (.aload_n 0, 1) := by decide +kernel
theorem dX10_ends_10 : decode cX10_ends 10 = .ok (.aload_n 0, 1) := by decide +kernel
theorem dX10_ends_11 : decode cX10_ends 11 = .ok (.getfield 236, 3) := by decide +kernel
theorem dX10_ends_14 : decode cX10_ends 14 = .ok (.invokevirtual 245, 3) := by decide +kernel
theorem dX10_ends_17 : decode cX10_ends 17 = .ok (.ireturn, 1) := by decide +kernel
theorem dX10_ends_18 : decode cX10_ends 18 = .ok (.aload_n 0, 1) := by decide +kernel
theorem dX10_ends_19 : decode cX10_ends 19 = .ok (.dup, 1) := by decide +kernel
theorem dX10_ends_20 : decode cX10_ends 20 = .ok (.getfield 236, 3) := by decide +kernel
theorem dX10_ends_23 : decode cX10_ends 23 = .ok (.iconst 1, 1) := by decide +kernel
theorem dX10_ends_24 : decode cX10_ends 24 = .ok (.iadd, 1) := by decide +kernel
theorem dX10_ends_25 : decode cX10_ends 25 = .ok (.putfield 236, 3) := by decide +kernel
theorem dX10_ends_28 : decode cX10_ends 28 = .ok (.iconst 1, 1) := by decide +kernel
theorem dX10_ends_29 : decode cX10_ends 29 = .ok (.ireturn, 1) := by decide +kernel
set_option maxRecDepth 20000 in
theorem ggX10_readsWay_X10_wrong : GoodIn wsX10_readsWay wsX10_wrong := goodIn_r _ [8, 9, 39, 40, 41, 42, 43, 44, 45, 46, 47, 48, 49, 50, 51, 52, 53, 54, 55, 56, 57, 58, 59, 60, 61, 62, 63] rfl (by decide +kernel)
set_option maxRecDepth 20000 in
theorem gX10_readsWay_X10_wrong : GoodIn wsX10_readsWay (wsV RX10 245 RX10 yX10_wrong wsX10_wrong) := goodIn_app (goodIn_r _ [4, 5, 6, 7] rfl (by decide +kernel)) ggX10_readsWay_X10_wrong
set_option maxRecDepth 20000 in
theorem ggX10_readsWay_X10_here : GoodIn wsX10_readsWay wsX10_here := goodIn_r _ [13, 1, 14, 3, 39, 40, 41, 42, 43, 44, 45, 46, 47, 48, 49, 50, 51, 52, 53, 54, 55, 56, 57, 58, 59, 60, 61, 62, 63] rfl (by decide +kernel)
set_option maxRecDepth 20000 in
theorem gX10_readsWay_X10_here : GoodIn wsX10_readsWay (wsV RX10 242 RX10 yX10_here wsX10_here) := goodIn_app (goodIn_r _ [10, 11, 12, 7] rfl (by decide +kernel)) ggX10_readsWay_X10_here
set_option maxRecDepth 20000 in
theorem ggX10_readsWay_X10_isDeed : GoodIn wsX10_readsWay wsX10_isDeed := goodIn_r _ [17, 18, 19, 7, 20] rfl (by decide +kernel)
set_option maxRecDepth 20000 in
theorem gX10_readsWay_X10_isDeed : GoodIn wsX10_readsWay (va_wsS RX10 91 yX10_isDeed wsX10_isDeed) := goodIn_app (goodIn_of _ (by decide +kernel)) ggX10_readsWay_X10_isDeed
set_option maxRecDepth 20000 in
theorem ggX10_readsWay_X10_isPlace : GoodIn wsX10_readsWay wsX10_isPlace := goodIn_r _ [23, 18, 19, 7, 20] rfl (by decide +kernel)
set_option maxRecDepth 20000 in
theorem gX10_readsWay_X10_isPlace : GoodIn wsX10_readsWay (va_wsS RX10 87 yX10_isPlace wsX10_isPlace) := goodIn_app (goodIn_of _ (by decide +kernel)) ggX10_readsWay_X10_isPlace
set_option maxRecDepth 20000 in
theorem ggX10_readsWay_X10_isThere : GoodIn wsX10_readsWay wsX10_isThere := goodIn_r _ [27, 2, 28, 29, 30, 39, 40, 41, 42, 43, 44, 45, 46, 47, 48, 49, 50, 51, 52, 53, 54, 55, 56, 57, 58, 59, 60, 61, 62, 63] rfl (by decide +kernel)
set_option maxRecDepth 20000 in
theorem gX10_readsWay_X10_isThere : GoodIn wsX10_readsWay (wsV RX10 97 RX10 yX10_isThere wsX10_isThere) := goodIn_app (goodIn_r _ [24, 25, 26, 7] rfl (by decide +kernel)) ggX10_readsWay_X10_isThere
set_option maxRecDepth 20000 in
theorem ggX10_readsWay_X10_comesWay : GoodIn wsX10_readsWay wsX10_comesWay := goodIn_r _ [34, 28, 2, 29, 30, 39, 40, 41, 42, 43, 44, 45, 46, 47, 48, 49, 50, 51, 52, 53, 54, 55, 56, 57, 58, 59, 60, 61, 62, 63] rfl (by decide +kernel)
set_option maxRecDepth 20000 in
theorem gX10_readsWay_X10_comesWay : GoodIn wsX10_readsWay (wsV RX10 106 RX10 yX10_comesWay wsX10_comesWay) := goodIn_app (goodIn_r _ [31, 32, 33, 7] rfl (by decide +kernel)) ggX10_readsWay_X10_comesWay
set_option maxRecDepth 20000 in
theorem ggX10_readsWay_X10_ends : GoodIn wsX10_readsWay wsX10_ends := goodIn_r _ [38, 1, 10, 11, 12, 7, 13, 14, 3, 4, 5, 6, 8, 9, 39, 40, 41, 42, 43, 44, 45, 46, 47, 48, 49, 50, 51, 52, 53, 54, 55, 56, 57, 58, 59, 60, 61, 62, 63] rfl (by decide +kernel)
set_option maxRecDepth 20000 in
theorem gX10_readsWay_X10_ends : GoodIn wsX10_readsWay (wsV RX10 248 RX10 yX10_ends wsX10_ends) := goodIn_app (goodIn_r _ [35, 36, 37, 7] rfl (by decide +kernel)) ggX10_readsWay_X10_ends
theorem dX10_readsWay_0 : decode cX10_readsWay 0 = .ok (.aload_n 0, 1) := by decide +kernel
theorem dX10_readsWay_1 : decode cX10_readsWay 1 = .ok (.getfield 236, 3) := by decide +kernel
theorem dX10_readsWay_4 : decode cX10_readsWay 4 = .ok (.istore_n 1, 1) := by decide +kernel
theorem dX10_readsWay_5 : decode cX10_readsWay 5 = .ok (.aload_n 0, 1) := by decide +kernel
theorem dX10_readsWay_6 : decode cX10_readsWay 6 = .ok (.getfield 70, 3) := by decide +kernel
theorem dX10_readsWay_9 : decode cX10_readsWay 9 = .ok (.bipush 24, 2) := by decide +kernel
theorem dX10_readsWay_11 : decode cX10_readsWay 11 = .ok (.if_icmp .ne 9, 3) := by decide +kernel
theorem dX10_readsWay_14 : decode cX10_readsWay 14 = .ok (.aload_n 0, 1) := by decide +kernel
theorem dX10_readsWay_15 : decode cX10_readsWay 15 = .ok (.iload_n 1, 1) := by decide +kernel
theorem dX10_readsWay_16 : decode cX10_readsWay 16 = .ok (.invokevirtual 245, 3) := by decide +kernel
theorem dX10_readsWay_19 : decode cX10_readsWay 19 = .ok (.ireturn, 1) := by decide +kernel
theorem dX10_readsWay_20 : decode cX10_readsWay 20 = .ok (.aload_n 0, 1) := by decide +kernel
theorem dX10_readsWay_21 : decode cX10_readsWay 21 = .ok (.getfield 60, 3) := by decide +kernel
theorem dX10_readsWay_24 : decode cX10_readsWay 24 = .ok (.aload_n 0, 1) := by decide +kernel
theorem dX10_readsWay_25 : decode cX10_readsWay 25 = .ok (.getfield 236, 3) := by decide +kernel
theorem dX10_readsWay_28 : decode cX10_readsWay 28 = .ok (.iaload, 1) := by decide +kernel
theorem dX10_readsWay_29 : decode cX10_readsWay 29 = .ok (.bipush 48, 2) := by decide +kernel
theorem dX10_readsWay_31 : decode cX10_readsWay 31 = .ok (.isub, 1) := by decide +kernel
theorem dX10_readsWay_32 : decode cX10_readsWay 32 = .ok (.istore_n 2, 1) := by decide +kernel
theorem dX10_readsWay_33 : decode cX10_readsWay 33 = .ok (.aload_n 0, 1) := by decide +kernel
theorem dX10_readsWay_34 : decode cX10_readsWay 34 = .ok (.dup, 1) := by decide +kernel
theorem dX10_readsWay_35 : decode cX10_readsWay 35 = .ok (.getfield 236, 3) := by decide +kernel
theorem dX10_readsWay_38 : decode cX10_readsWay 38 = .ok (.iconst 1, 1) := by decide +kernel
theorem dX10_readsWay_39 : decode cX10_readsWay 39 = .ok (.iadd, 1) := by decide +kernel
theorem dX10_readsWay_40 : decode cX10_readsWay 40 = .ok (.putfield 236, 3) := by decide +kernel
theorem dX10_readsWay_43 : decode cX10_readsWay 43 = .ok (.aload_n 0, 1) := by decide +kernel
theorem dX10_readsWay_44 : decode cX10_readsWay 44 = .ok (.invokevirtual 242, 3) := by decide +kernel
theorem dX10_readsWay_47 : decode cX10_readsWay 47 = .ok (.bipush 97, 2) := by decide +kernel
theorem dX10_readsWay_49 : decode cX10_readsWay 49 = .ok (.isub, 1) := by decide +kernel
theorem dX10_readsWay_50 : decode cX10_readsWay 50 = .ok (.istore_n 3, 1) := by decide +kernel
theorem dX10_readsWay_51 : decode cX10_readsWay 51 = .ok (.iload_n 3, 1) := by decide +kernel
theorem dX10_readsWay_52 : decode cX10_readsWay 52 = .ok (.invokestatic 91, 3) := by decide +kernel
theorem dX10_readsWay_55 : decode cX10_readsWay 55 = .ok (.ifCond .ne 12, 3) := by decide +kernel
theorem dX10_readsWay_58 : decode cX10_readsWay 58 = .ok (.aload_n 0, 1) := by decide +kernel
theorem dX10_readsWay_59 : decode cX10_readsWay 59 = .ok (.aload_n 0, 1) := by decide +kernel
theorem dX10_readsWay_60 : decode cX10_readsWay 60 = .ok (.getfield 236, 3) := by decide +kernel
theorem dX10_readsWay_63 : decode cX10_readsWay 63 = .ok (.invokevirtual 245, 3) := by decide +kernel
theorem dX10_readsWay_66 : decode cX10_readsWay 66 = .ok (.ireturn, 1) := by decide +kernel
theorem dX10_readsWay_67 : decode cX10_readsWay 67 = .ok (.aload_n 0, 1) := by decide +kernel
theorem dX10_readsWay_68 : decode cX10_readsWay 68 = .ok (.dup, 1) := by decide +kernel
theorem dX10_readsWay_69 : decode cX10_readsWay 69 = .ok (.getfield 236, 3) := by decide +kernel
theorem dX10_readsWay_72 : decode cX10_readsWay 72 = .ok (.iconst 1, 1) := by decide +kernel
theorem dX10_readsWay_73 : decode cX10_readsWay 73 = .ok (.iadd, 1) := by decide +kernel
theorem dX10_readsWay_74 : decode cX10_readsWay 74 = .ok (.putfield 236, 3) := by decide +kernel
theorem dX10_readsWay_77 : decode cX10_readsWay 77 = .ok (.aload_n 0, 1) := by decide +kernel
theorem dX10_readsWay_78 : decode cX10_readsWay 78 = .ok (.invokevirtual 242, 3) := by decide +kernel
theorem dX10_readsWay_81 : decode cX10_readsWay 81 = .ok (.bipush 48, 2) := by decide +kernel
theorem dX10_readsWay_83 : decode cX10_readsWay 83 = .ok (.isub, 1) := by decide +kernel
theorem dX10_readsWay_84 : decode cX10_readsWay 84 = .ok (.istore 4, 2) := by decide +kernel
theorem dX10_readsWay_86 : decode cX10_readsWay 86 = .ok (.iload 4, 2) := by decide +kernel
theorem dX10_readsWay_88 : decode cX10_readsWay 88 = .ok (.invokestatic 87, 3) := by decide +kernel
theorem dX10_readsWay_91 : decode cX10_readsWay 91 = .ok (.ifCond .ne 12, 3) := by decide +kernel
theorem dX10_readsWay_94 : decode cX10_readsWay 94 = .ok (.aload_n 0, 1) := by decide +kernel
theorem dX10_readsWay_95 : decode cX10_readsWay 95 = .ok (.aload_n 0, 1) := by decide +kernel
theorem dX10_readsWay_96 : decode cX10_readsWay 96 = .ok (.getfield 236, 3) := by decide +kernel
theorem dX10_readsWay_99 : decode cX10_readsWay 99 = .ok (.invokevirtual 245, 3) := by decide +kernel
theorem dX10_readsWay_102 : decode cX10_readsWay 102 = .ok (.ireturn, 1) := by decide +kernel
theorem dX10_readsWay_103 : decode cX10_readsWay 103 = .ok (.aload_n 0, 1) := by decide +kernel
theorem dX10_readsWay_104 : decode cX10_readsWay 104 = .ok (.dup, 1) := by decide +kernel
theorem dX10_readsWay_105 : decode cX10_readsWay 105 = .ok (.getfield 236, 3) := by decide +kernel
theorem dX10_readsWay_108 : decode cX10_readsWay 108 = .ok (.iconst 1, 1) := by decide +kernel
theorem dX10_readsWay_109 : decode cX10_readsWay 109 = .ok (.iadd, 1) := by decide +kernel
theorem dX10_readsWay_110 : decode cX10_readsWay 110 = .ok (.putfield 236, 3) := by decide +kernel
theorem dX10_readsWay_113 : decode cX10_readsWay 113 = .ok (.aload_n 0, 1) := by decide +kernel
theorem dX10_readsWay_114 : decode cX10_readsWay 114 = .ok (.iload_n 2, 1) := by decide +kernel
theorem dX10_readsWay_115 : decode cX10_readsWay 115 = .ok (.iload_n 3, 1) := by decide +kernel
theorem dX10_readsWay_116 : decode cX10_readsWay 116 = .ok (.iload 4, 2) := by decide +kernel
theorem dX10_readsWay_118 : decode cX10_readsWay 118 = .ok (.invokevirtual 97, 3) := by decide +kernel
theorem dX10_readsWay_121 : decode cX10_readsWay 121 = .ok (.ifCond .eq 9, 3) := by decide +kernel
theorem dX10_readsWay_124 : decode cX10_readsWay 124 = .ok (.aload_n 0, 1) := by decide +kernel
theorem dX10_readsWay_125 : decode cX10_readsWay 125 = .ok (.iload_n 1, 1) := by decide +kernel
theorem dX10_readsWay_126 : decode cX10_readsWay 126 = .ok (.invokevirtual 245, 3) := by decide +kernel
theorem dX10_readsWay_129 : decode cX10_readsWay 129 = .ok (.ireturn, 1) := by decide +kernel
theorem dX10_readsWay_130 : decode cX10_readsWay 130 = .ok (.aload_n 0, 1) := by decide +kernel
theorem dX10_readsWay_131 : decode cX10_readsWay 131 = .ok (.iload_n 2, 1) := by decide +kernel
theorem dX10_readsWay_132 : decode cX10_readsWay 132 = .ok (.iload_n 3, 1) := by decide +kernel
theorem dX10_readsWay_133 : decode cX10_readsWay 133 = .ok (.iload 4, 2) := by decide +kernel
theorem dX10_readsWay_135 : decode cX10_readsWay 135 = .ok (.invokevirtual 106, 3) := by decide +kernel
theorem dX10_readsWay_138 : decode cX10_readsWay 138 = .ok (.aload_n 0, 1) := by decide +kernel
theorem dX10_readsWay_139 : decode cX10_readsWay 139 = .ok (.invokevirtual 248, 3) := by decide +kernel
theorem dX10_readsWay_142 : decode cX10_readsWay 142 = .ok (.ireturn, 1) := by decide +kernel
set_option maxRecDepth 20000 in
theorem ggX10_readsDeeds_X10_here : GoodIn wsX10_readsDeeds wsX10_here := goodIn_r _ [9, 1, 10, 2, 26, 27, 28, 29, 30, 31, 32, 33, 34, 35, 36, 37, 38, 39, 40, 41, 42, 43, 44, 45, 46, 47, 48, 49, 50] rfl (by decide +kernel)
set_option maxRecDepth 20000 in
theorem gX10_readsDeeds_X10_here : GoodIn wsX10_readsDeeds (wsV RX10 242 RX10 yX10_here wsX10_here) := goodIn_app (goodIn_r _ [5, 6, 7, 8] rfl (by decide +kernel)) ggX10_readsDeeds_X10_here
set_option maxRecDepth 20000 in
theorem ggX10_readsDeeds_X10_isDeed : GoodIn wsX10_readsDeeds wsX10_isDeed := goodIn_r _ [13, 14, 15, 8, 16] rfl (by decide +kernel)
set_option maxRecDepth 20000 in
theorem gX10_readsDeeds_X10_isDeed : GoodIn wsX10_readsDeeds (va_wsS RX10 91 yX10_isDeed wsX10_isDeed) := goodIn_app (goodIn_of _ (by decide +kernel)) ggX10_readsDeeds_X10_isDeed
set_option maxRecDepth 20000 in
theorem ggX10_readsDeeds_X10_ends : GoodIn wsX10_readsDeeds wsX10_ends := goodIn_r _ [20, 1, 5, 6, 7, 8, 9, 10, 2, 21, 22, 23, 24, 25, 26, 27, 28, 29, 30, 31, 32, 33, 34, 35, 36, 37, 38, 39, 40, 41, 42, 43, 44, 45, 46, 47, 48, 49, 50] rfl (by decide +kernel)
set_option maxRecDepth 20000 in
theorem gX10_readsDeeds_X10_ends : GoodIn wsX10_readsDeeds (wsV RX10 248 RX10 yX10_ends wsX10_ends) := goodIn_app (goodIn_r _ [17, 18, 19, 8] rfl (by decide +kernel)) ggX10_readsDeeds_X10_ends
theorem dX10_readsDeeds_0 : decode cX10_readsDeeds 0 = .ok (.aload_n 0, 1) := by decide +kernel
theorem dX10_readsDeeds_1 : decode cX10_readsDeeds 1 = .ok (.dup, 1) := by decide +kernel
theorem dX10_readsDeeds_2 : decode cX10_readsDeeds 2 = .ok (.getfield 236, 3) := by decide +kernel
theorem dX10_readsDeeds_5 : decode cX10_readsDeeds 5 = .ok (.iconst 1, 1) := by decide +kernel
theorem dX10_readsDeeds_6 : decode cX10_readsDeeds 6 = .ok (.iadd, 1) := by decide +kernel
theorem dX10_readsDeeds_7 : decode cX10_readsDeeds 7 = .ok (.putfield 236, 3) := by decide +kernel
theorem dX10_readsDeeds_10 : decode cX10_readsDeeds 10 = .ok (.iconst 0, 1) := by decide +kernel
theorem dX10_readsDeeds_11 : decode cX10_readsDeeds 11 = .ok (.istore_n 2, 1) := by decide +kernel
theorem dX10_readsDeeds_12 : decode cX10_readsDeeds 12 = .ok (.aload_n 0, 1) := by decide +kernel
theorem dX10_readsDeeds_13 : decode cX10_readsDeeds 13 = .ok (.invokevirtual 242, 3) := by decide +kernel
theorem dX10_readsDeeds_16 : decode cX10_readsDeeds 16 = .ok (.bipush 97, 2) := by decide +kernel
theorem dX10_readsDeeds_18 : decode cX10_readsDeeds 18 = .ok (.isub, 1) := by decide +kernel
theorem dX10_readsDeeds_19 : decode cX10_readsDeeds 19 = .ok (.invokestatic 91, 3) := by decide +kernel
theorem dX10_readsDeeds_22 : decode cX10_readsDeeds 22 = .ok (.ifCond .eq 33, 3) := by decide +kernel
theorem dX10_readsDeeds_25 : decode cX10_readsDeeds 25 = .ok (.iload_n 2, 1) := by decide +kernel
theorem dX10_readsDeeds_26 : decode cX10_readsDeeds 26 = .ok (.iconst 1, 1) := by decide +kernel
theorem dX10_readsDeeds_27 : decode cX10_readsDeeds 27 = .ok (.aload_n 0, 1) := by decide +kernel
theorem dX10_readsDeeds_28 : decode cX10_readsDeeds 28 = .ok (.getfield 60, 3) := by decide +kernel
theorem dX10_readsDeeds_31 : decode cX10_readsDeeds 31 = .ok (.aload_n 0, 1) := by decide +kernel
theorem dX10_readsDeeds_32 : decode cX10_readsDeeds 32 = .ok (.getfield 236, 3) := by decide +kernel
theorem dX10_readsDeeds_35 : decode cX10_readsDeeds 35 = .ok (.iaload, 1) := by decide +kernel
theorem dX10_readsDeeds_36 : decode cX10_readsDeeds 36 = .ok (.bipush 97, 2) := by decide +kernel
theorem dX10_readsDeeds_38 : decode cX10_readsDeeds 38 = .ok (.isub, 1) := by decide +kernel
theorem dX10_readsDeeds_39 : decode cX10_readsDeeds 39 = .ok (.ishl, 1) := by decide +kernel
theorem dX10_readsDeeds_40 : decode cX10_readsDeeds 40 = .ok (.ior, 1) := by decide +kernel
theorem dX10_readsDeeds_41 : decode cX10_readsDeeds 41 = .ok (.istore_n 2, 1) := by decide +kernel
theorem dX10_readsDeeds_42 : decode cX10_readsDeeds 42 = .ok (.aload_n 0, 1) := by decide +kernel
theorem dX10_readsDeeds_43 : decode cX10_readsDeeds 43 = .ok (.dup, 1) := by decide +kernel
theorem dX10_readsDeeds_44 : decode cX10_readsDeeds 44 = .ok (.getfield 236, 3) := by decide +kernel
theorem dX10_readsDeeds_47 : decode cX10_readsDeeds 47 = .ok (.iconst 1, 1) := by decide +kernel
theorem dX10_readsDeeds_48 : decode cX10_readsDeeds 48 = .ok (.iadd, 1) := by decide +kernel
theorem dX10_readsDeeds_49 : decode cX10_readsDeeds 49 = .ok (.putfield 236, 3) := by decide +kernel
theorem dX10_readsDeeds_52 : decode cX10_readsDeeds 52 = .ok (.goto (-40), 3) := by decide +kernel
theorem dX10_readsDeeds_55 : decode cX10_readsDeeds 55 = .ok (.aload_n 0, 1) := by decide +kernel
theorem dX10_readsDeeds_56 : decode cX10_readsDeeds 56 = .ok (.iload_n 1, 1) := by decide +kernel
theorem dX10_readsDeeds_57 : decode cX10_readsDeeds 57 = .ok (.bipush 33, 2) := by decide +kernel
theorem dX10_readsDeeds_59 : decode cX10_readsDeeds 59 = .ok (.if_icmp .ne 7, 3) := by decide +kernel
theorem dX10_readsDeeds_62 : decode cX10_readsDeeds 62 = .ok (.iload_n 2, 1) := by decide +kernel
theorem dX10_readsDeeds_63 : decode cX10_readsDeeds 63 = .ok (.goto 7, 3) := by decide +kernel
theorem dX10_readsDeeds_66 : decode cX10_readsDeeds 66 = .ok (.aload_n 0, 1) := by decide +kernel
theorem dX10_readsDeeds_67 : decode cX10_readsDeeds 67 = .ok (.getfield 73, 3) := by decide +kernel
theorem dX10_readsDeeds_70 : decode cX10_readsDeeds 70 = .ok (.putfield 73, 3) := by decide +kernel
theorem dX10_readsDeeds_73 : decode cX10_readsDeeds 73 = .ok (.aload_n 0, 1) := by decide +kernel
theorem dX10_readsDeeds_74 : decode cX10_readsDeeds 74 = .ok (.iload_n 1, 1) := by decide +kernel
theorem dX10_readsDeeds_75 : decode cX10_readsDeeds 75 = .ok (.bipush 63, 2) := by decide +kernel
theorem dX10_readsDeeds_77 : decode cX10_readsDeeds 77 = .ok (.if_icmp .ne 13, 3) := by decide +kernel
theorem dX10_readsDeeds_80 : decode cX10_readsDeeds 80 = .ok (.sipush 255, 3) := by decide +kernel
theorem dX10_readsDeeds_83 : decode cX10_readsDeeds 83 = .ok (.iload_n 2, 1) := by decide +kernel
theorem dX10_readsDeeds_84 : decode cX10_readsDeeds 84 = .ok (.iconst (-1), 1) := by decide +kernel
theorem dX10_readsDeeds_85 : decode cX10_readsDeeds 85 = .ok (.ixor, 1) := by decide +kernel
theorem dX10_readsDeeds_86 : decode cX10_readsDeeds 86 = .ok (.iand, 1) := by decide +kernel
theorem dX10_readsDeeds_87 : decode cX10_readsDeeds 87 = .ok (.goto 7, 3) := by decide +kernel
theorem dX10_readsDeeds_90 : decode cX10_readsDeeds 90 = .ok (.aload_n 0, 1) := by decide +kernel
theorem dX10_readsDeeds_91 : decode cX10_readsDeeds 91 = .ok (.getfield 22, 3) := by decide +kernel
theorem dX10_readsDeeds_94 : decode cX10_readsDeeds 94 = .ok (.putfield 22, 3) := by decide +kernel
theorem dX10_readsDeeds_97 : decode cX10_readsDeeds 97 = .ok (.aload_n 0, 1) := by decide +kernel
theorem dX10_readsDeeds_98 : decode cX10_readsDeeds 98 = .ok (.invokevirtual 248, 3) := by decide +kernel
theorem dX10_readsDeeds_101 : decode cX10_readsDeeds 101 = .ok (.ireturn, 1) := by decide +kernel
set_option maxRecDepth 20000 in
theorem ggX10_readsOrder_X10_here : GoodIn wsX10_readsOrder wsX10_here := goodIn_r _ [6, 1, 7, 8, 49, 50, 51, 52, 53, 54, 55, 56, 57, 58, 59, 60, 61, 62, 63, 64, 65, 66, 67, 68, 69, 70, 71, 72, 73] rfl (by decide +kernel)
set_option maxRecDepth 20000 in
theorem gX10_readsOrder_X10_here : GoodIn wsX10_readsOrder (wsV RX10 242 RX10 yX10_here wsX10_here) := goodIn_app (goodIn_r _ [2, 3, 4, 5] rfl (by decide +kernel)) ggX10_readsOrder_X10_here
set_option maxRecDepth 20000 in
theorem ggX10_readsOrder_X10_readsDeeds : GoodIn wsX10_readsOrder wsX10_readsDeeds := goodIn_r _ [12, 1, 8, 13, 14, 2, 3, 4, 5, 6, 7, 15, 16, 17, 18, 19, 20, 21, 22, 23, 24, 25, 26, 27, 28, 29, 49, 50, 51, 52, 53, 54, 55, 56, 57, 58, 59, 60, 61, 62, 63, 64, 65, 66, 67, 68, 69, 70, 71, 72, 73] rfl (by decide +kernel)
set_option maxRecDepth 20000 in
theorem gX10_readsOrder_X10_readsDeeds : GoodIn wsX10_readsOrder (wsV RX10 251 RX10 yX10_readsDeeds wsX10_readsDeeds) := goodIn_app (goodIn_r _ [9, 10, 11, 5] rfl (by decide +kernel)) ggX10_readsOrder_X10_readsDeeds
set_option maxRecDepth 20000 in
theorem ggX10_readsOrder_X10_isPlace : GoodIn wsX10_readsOrder wsX10_isPlace := goodIn_r _ [32, 18, 19, 5, 20] rfl (by decide +kernel)
set_option maxRecDepth 20000 in
theorem gX10_readsOrder_X10_isPlace : GoodIn wsX10_readsOrder (va_wsS RX10 87 yX10_isPlace wsX10_isPlace) := goodIn_app (goodIn_of _ (by decide +kernel)) ggX10_readsOrder_X10_isPlace
set_option maxRecDepth 20000 in
theorem ggX10_readsOrder_X10_readsWay : GoodIn wsX10_readsOrder wsX10_readsWay := goodIn_r _ [36, 1, 37, 8, 25, 26, 27, 5, 28, 29, 2, 3, 4, 6, 7, 15, 16, 17, 18, 19, 20, 30, 31, 32, 38, 39, 40, 41, 42, 43, 44, 45, 46, 47, 48, 21, 22, 23, 24, 49, 50, 51, 52, 53, 54, 55, 56, 57, 58, 59, 60, 61, 62, 63, 64, 65, 66, 67, 68, 69, 70, 71, 72, 73] rfl (by decide +kernel)
set_option maxRecDepth 20000 in
theorem gX10_readsOrder_X10_readsWay : GoodIn wsX10_readsOrder (wsV RX10 254 RX10 yX10_readsWay wsX10_readsWay) := goodIn_app (goodIn_r _ [33, 34, 35, 5] rfl (by decide +kernel)) ggX10_readsOrder_X10_readsWay
set_option maxRecDepth 20000 in
theorem ggX10_readsOrder_X10_wrong : GoodIn wsX10_readsOrder wsX10_wrong := goodIn_r _ [28, 29, 49, 50, 51, 52, 53, 54, 55, 56, 57, 58, 59, 60, 61, 62, 63, 64, 65, 66, 67, 68, 69, 70, 71, 72, 73] rfl (by decide +kernel)
set_option maxRecDepth 20000 in
theorem gX10_readsOrder_X10_wrong : GoodIn wsX10_readsOrder (wsV RX10 245 RX10 yX10_wrong wsX10_wrong) := goodIn_app (goodIn_r _ [25, 26, 27, 5] rfl (by decide +kernel)) ggX10_readsOrder_X10_wrong
theorem dX10_readsOrder_0 : decode cX10_readsOrder 0 = .ok (.aload_n 0, 1) := by decide +kernel
theorem dX10_readsOrder_1 : decode cX10_readsOrder 1 = .ok (.invokevirtual 242, 3) := by decide +kernel
theorem dX10_readsOrder_4 : decode cX10_readsOrder 4 = .ok (.istore_n 1, 1) := by decide +kernel
theorem dX10_readsOrder_5 : decode cX10_readsOrder 5 = .ok (.iload_n 1, 1) := by decide +kernel
theorem dX10_readsOrder_6 : decode cX10_readsOrder 6 = .ok (.bipush 33, 2) := by decide +kernel
theorem dX10_readsOrder_8 : decode cX10_readsOrder 8 = .ok (.if_icmp .eq 9, 3) := by decide +kernel
theorem dX10_readsOrder_11 : decode cX10_readsOrder 11 = .ok (.iload_n 1, 1) := by decide +kernel
theorem dX10_readsOrder_12 : decode cX10_readsOrder 12 = .ok (.bipush 63, 2) := by decide +kernel
theorem dX10_readsOrder_14 : decode cX10_readsOrder 14 = .ok (.if_icmp .ne 9, 3) := by decide +kernel
theorem dX10_readsOrder_17 : decode cX10_readsOrder 17 = .ok (.aload_n 0, 1) := by decide +kernel
theorem dX10_readsOrder_18 : decode cX10_readsOrder 18 = .ok (.iload_n 1, 1) := by decide +kernel
theorem dX10_readsOrder_19 : decode cX10_readsOrder 19 = .ok (.invokevirtual 251, 3) := by decide +kernel
theorem dX10_readsOrder_22 : decode cX10_readsOrder 22 = .ok (.ireturn, 1) := by decide +kernel
theorem dX10_readsOrder_23 : decode cX10_readsOrder 23 = .ok (.iload_n 1, 1) := by decide +kernel
theorem dX10_readsOrder_24 : decode cX10_readsOrder 24 = .ok (.bipush 48, 2) := by decide +kernel
theorem dX10_readsOrder_26 : decode cX10_readsOrder 26 = .ok (.isub, 1) := by decide +kernel
theorem dX10_readsOrder_27 : decode cX10_readsOrder 27 = .ok (.invokestatic 87, 3) := by decide +kernel
theorem dX10_readsOrder_30 : decode cX10_readsOrder 30 = .ok (.ifCond .eq 10, 3) := by decide +kernel
theorem dX10_readsOrder_33 : decode cX10_readsOrder 33 = .ok (.aload_n 0, 1) := by decide +kernel
theorem dX10_readsOrder_34 : decode cX10_readsOrder 34 = .ok (.invokevirtual 254, 3) := by decide +kernel
theorem dX10_readsOrder_37 : decode cX10_readsOrder 37 = .ok (.goto 11, 3) := by decide +kernel
theorem dX10_readsOrder_40 : decode cX10_readsOrder 40 = .ok (.aload_n 0, 1) := by decide +kernel
theorem dX10_readsOrder_41 : decode cX10_readsOrder 41 = .ok (.aload_n 0, 1) := by decide +kernel
theorem dX10_readsOrder_42 : decode cX10_readsOrder 42 = .ok (.getfield 236, 3) := by decide +kernel
theorem dX10_readsOrder_45 : decode cX10_readsOrder 45 = .ok (.invokevirtual 245, 3) := by decide +kernel
theorem dX10_readsOrder_48 : decode cX10_readsOrder 48 = .ok (.ireturn, 1) := by decide +kernel
set_option maxRecDepth 20000 in
theorem ggX10_reads_X10_here : GoodIn wsX10_reads wsX10_here := goodIn_r _ [11, 1, 2, 12, 78, 79, 80, 81, 82, 83, 84, 85, 86, 87, 88, 89, 90, 91, 92, 93, 94, 95, 96, 97, 98, 99, 100, 101, 102] rfl (by decide +kernel)
set_option maxRecDepth 20000 in
theorem gX10_reads_X10_here : GoodIn wsX10_reads (wsV RX10 242 RX10 yX10_here wsX10_here) := goodIn_app (goodIn_r _ [7, 8, 9, 10] rfl (by decide +kernel)) ggX10_reads_X10_here
set_option maxRecDepth 20000 in
theorem ggX10_reads_X10_readsOrder : GoodIn wsX10_reads wsX10_readsOrder := goodIn_r _ [16, 1, 7, 8, 9, 10, 11, 2, 12, 17, 18, 19, 20, 5, 4, 21, 22, 23, 24, 25, 26, 27, 28, 29, 30, 31, 32, 33, 34, 6, 35, 36, 37, 38, 39, 40, 41, 3, 42, 43, 44, 45, 46, 47, 48, 49, 50, 51, 52, 78, 79, 80, 81, 82, 83, 84, 85, 86, 87, 88, 89, 90, 91, 92, 93, 94, 95, 96, 97, 98, 99, 100, 101, 102] rfl (by decide +kernel)
set_option maxRecDepth 20000 in
theorem gX10_reads_X10_readsOrder : GoodIn wsX10_reads (wsV RX10 257 RX10 yX10_readsOrder wsX10_readsOrder) := goodIn_app (goodIn_r _ [13, 14, 15, 10] rfl (by decide +kernel)) ggX10_reads_X10_readsOrder
set_option maxRecDepth 20000 in
theorem ggX10_reads_X10_leavesState : GoodIn wsX10_reads wsX10_leavesState := goodIn_r _ [56, 57, 58, 3, 4, 5, 59, 60, 46, 47, 48, 61, 78, 79, 80, 81, 82, 83, 84, 85, 86, 87, 88, 89, 90, 91, 92, 93, 94, 95, 96, 97, 98, 99, 100, 101, 102] rfl (by decide +kernel)
set_option maxRecDepth 20000 in
theorem gX10_reads_X10_leavesState : GoodIn wsX10_reads (wsV RX10 103 RX10 yX10_leavesState wsX10_leavesState) := goodIn_app (goodIn_r _ [53, 54, 55, 10] rfl (by decide +kernel)) ggX10_reads_X10_leavesState
set_option maxRecDepth 20000 in
theorem ggX10_reads_X10_begins : GoodIn wsX10_reads wsX10_begins := goodIn_r _ [65, 59, 60, 66, 67, 68, 10, 69, 4, 70, 71, 72, 73, 3, 47, 46, 48, 74, 75, 76, 77, 5, 78, 79, 80, 81, 82, 83, 84, 85, 86, 87, 88, 89, 90, 91, 92, 93, 94, 95, 96, 97, 98, 99, 100, 101, 102] rfl (by decide +kernel)
set_option maxRecDepth 20000 in
theorem gX10_reads_X10_begins : GoodIn wsX10_reads (wsV RX10 110 RX10 yX10_begins wsX10_begins) := goodIn_app (goodIn_r _ [62, 63, 64, 10] rfl (by decide +kernel)) ggX10_reads_X10_begins
theorem dX10_reads_0 : decode cX10_reads 0 = .ok (.aload_n 0, 1) := by decide +kernel
theorem dX10_reads_1 : decode cX10_reads 1 = .ok (.iconst 0, 1) := by decide +kernel
theorem dX10_reads_2 : decode cX10_reads 2 = .ok (.putfield 236, 3) := by decide +kernel
theorem dX10_reads_5 : decode cX10_reads 5 = .ok (.aload_n 0, 1) := by decide +kernel
theorem dX10_reads_6 : decode cX10_reads 6 = .ok (.invokevirtual 242, 3) := by decide +kernel
theorem dX10_reads_9 : decode cX10_reads 9 = .ok (.iconst (-1), 1) := by decide +kernel
theorem dX10_reads_10 : decode cX10_reads 10 = .ok (.if_icmp .ne 11, 3) := by decide +kernel
theorem dX10_reads_13 : decode cX10_reads 13 = .ok (.bipush (-10), 2) := by decide +kernel
theorem dX10_reads_15 : decode cX10_reads 15 = .ok (.aload_n 0, 1) := by decide +kernel
theorem dX10_reads_16 : decode cX10_reads 16 = .ok (.getfield 233, 3) := by decide +kernel
theorem dX10_reads_19 : decode cX10_reads 19 = .ok (.isub, 1) := by decide +kernel
theorem dX10_reads_20 : decode cX10_reads 20 = .ok (.ireturn, 1) := by decide +kernel
theorem dX10_reads_21 : decode cX10_reads 21 = .ok (.aload_n 0, 1) := by decide +kernel
theorem dX10_reads_22 : decode cX10_reads 22 = .ok (.getfield 70, 3) := by decide +kernel
theorem dX10_reads_25 : decode cX10_reads 25 = .ok (.istore_n 1, 1) := by decide +kernel
theorem dX10_reads_26 : decode cX10_reads 26 = .ok (.aload_n 0, 1) := by decide +kernel
theorem dX10_reads_27 : decode cX10_reads 27 = .ok (.getfield 22, 3) := by decide +kernel
theorem dX10_reads_30 : decode cX10_reads 30 = .ok (.istore_n 2, 1) := by decide +kernel
theorem dX10_reads_31 : decode cX10_reads 31 = .ok (.aload_n 0, 1) := by decide +kernel
theorem dX10_reads_32 : decode cX10_reads 32 = .ok (.getfield 73, 3) := by decide +kernel
theorem dX10_reads_35 : decode cX10_reads 35 = .ok (.istore_n 3, 1) := by decide +kernel
theorem dX10_reads_36 : decode cX10_reads 36 = .ok (.iconst 0, 1) := by decide +kernel
theorem dX10_reads_37 : decode cX10_reads 37 = .ok (.istore 4, 2) := by decide +kernel
theorem dX10_reads_39 : decode cX10_reads 39 = .ok (.iconst 1, 1) := by decide +kernel
theorem dX10_reads_40 : decode cX10_reads 40 = .ok (.istore 5, 2) := by decide +kernel
theorem dX10_reads_42 : decode cX10_reads 42 = .ok (.iload 5, 2) := by decide +kernel
theorem dX10_reads_44 : decode cX10_reads 44 = .ok (.ifCond .eq 23, 3) := by decide +kernel
theorem dX10_reads_47 : decode cX10_reads 47 = .ok (.aload_n 0, 1) := by decide +kernel
theorem dX10_reads_48 : decode cX10_reads 48 = .ok (.invokevirtual 242, 3) := by decide +kernel
theorem dX10_reads_51 : decode cX10_reads 51 = .ok (.iconst (-1), 1) := by decide +kernel
theorem dX10_reads_52 : decode cX10_reads 52 = .ok (.if_icmp .eq 15, 3) := by decide +kernel
theorem dX10_reads_55 : decode cX10_reads 55 = .ok (.aload_n 0, 1) := by decide +kernel
theorem dX10_reads_56 : decode cX10_reads 56 = .ok (.invokevirtual 257, 3) := by decide +kernel
theorem dX10_reads_59 : decode cX10_reads 59 = .ok (.istore 5, 2) := by decide +kernel
theorem dX10_reads_61 : decode cX10_reads 61 = .ok (.iinc 4 1, 3) := by decide +kernel
theorem dX10_reads_64 : decode cX10_reads 64 = .ok (.goto (-22), 3) := by decide +kernel
theorem dX10_reads_67 : decode cX10_reads 67 = .ok (.iload 5, 2) := by decide +kernel
theorem dX10_reads_69 : decode cX10_reads 69 = .ok (.ifCond .ne 26, 3) := by decide +kernel
theorem dX10_reads_72 : decode cX10_reads 72 = .ok (.aload_n 0, 1) := by decide +kernel
theorem dX10_reads_73 : decode cX10_reads 73 = .ok (.iload_n 1, 1) := by decide +kernel
theorem dX10_reads_74 : decode cX10_reads 74 = .ok (.putfield 70, 3) := by decide +kernel
theorem dX10_reads_77 : decode cX10_reads 77 = .ok (.aload_n 0, 1) := by decide +kernel
theorem dX10_reads_78 : decode cX10_reads 78 = .ok (.iload_n 2, 1) := by decide +kernel
theorem dX10_reads_79 : decode cX10_reads 79 = .ok (.putfield 22, 3) := by decide +kernel
theorem dX10_reads_82 : decode cX10_reads 82 = .ok (.aload_n 0, 1) := by decide +kernel
theorem dX10_reads_83 : decode cX10_reads 83 = .ok (.iload_n 3, 1) := by decide +kernel
theorem dX10_reads_84 : decode cX10_reads 84 = .ok (.putfield 73, 3) := by decide +kernel
theorem dX10_reads_87 : decode cX10_reads 87 = .ok (.bipush (-10), 2) := by decide +kernel
theorem dX10_reads_89 : decode cX10_reads 89 = .ok (.aload_n 0, 1) := by decide +kernel
theorem dX10_reads_90 : decode cX10_reads 90 = .ok (.getfield 239, 3) := by decide +kernel
theorem dX10_reads_93 : decode cX10_reads 93 = .ok (.isub, 1) := by decide +kernel
theorem dX10_reads_94 : decode cX10_reads 94 = .ok (.ireturn, 1) := by decide +kernel
theorem dX10_reads_95 : decode cX10_reads 95 = .ok (.aload_n 0, 1) := by decide +kernel
theorem dX10_reads_96 : decode cX10_reads 96 = .ok (.getfield 70, 3) := by decide +kernel
theorem dX10_reads_99 : decode cX10_reads 99 = .ok (.istore 6, 2) := by decide +kernel
theorem dX10_reads_101 : decode cX10_reads 101 = .ok (.aload_n 0, 1) := by decide +kernel
theorem dX10_reads_102 : decode cX10_reads 102 = .ok (.getfield 22, 3) := by decide +kernel
theorem dX10_reads_105 : decode cX10_reads 105 = .ok (.istore 7, 2) := by decide +kernel
theorem dX10_reads_107 : decode cX10_reads 107 = .ok (.aload_n 0, 1) := by decide +kernel
theorem dX10_reads_108 : decode cX10_reads 108 = .ok (.getfield 73, 3) := by decide +kernel
theorem dX10_reads_111 : decode cX10_reads 111 = .ok (.istore 8, 2) := by decide +kernel
theorem dX10_reads_113 : decode cX10_reads 113 = .ok (.aload_n 0, 1) := by decide +kernel
theorem dX10_reads_114 : decode cX10_reads 114 = .ok (.iload_n 1, 1) := by decide +kernel
theorem dX10_reads_115 : decode cX10_reads 115 = .ok (.putfield 70, 3) := by decide +kernel
theorem dX10_reads_118 : decode cX10_reads 118 = .ok (.aload_n 0, 1) := by decide +kernel
theorem dX10_reads_119 : decode cX10_reads 119 = .ok (.iload_n 2, 1) := by decide +kernel
theorem dX10_reads_120 : decode cX10_reads 120 = .ok (.putfield 22, 3) := by decide +kernel
theorem dX10_reads_123 : decode cX10_reads 123 = .ok (.aload_n 0, 1) := by decide +kernel
theorem dX10_reads_124 : decode cX10_reads 124 = .ok (.iload_n 3, 1) := by decide +kernel
theorem dX10_reads_125 : decode cX10_reads 125 = .ok (.putfield 73, 3) := by decide +kernel
theorem dX10_reads_128 : decode cX10_reads 128 = .ok (.aload_n 0, 1) := by decide +kernel
theorem dX10_reads_129 : decode cX10_reads 129 = .ok (.invokevirtual 103, 3) := by decide +kernel
theorem dX10_reads_132 : decode cX10_reads 132 = .ok (.aload_n 0, 1) := by decide +kernel
theorem dX10_reads_133 : decode cX10_reads 133 = .ok (.iload 6, 2) := by decide +kernel
theorem dX10_reads_135 : decode cX10_reads 135 = .ok (.putfield 70, 3) := by decide +kernel
theorem dX10_reads_138 : decode cX10_reads 138 = .ok (.aload_n 0, 1) := by decide +kernel
theorem dX10_reads_139 : decode cX10_reads 139 = .ok (.iload 7, 2) := by decide +kernel
theorem dX10_reads_141 : decode cX10_reads 141 = .ok (.putfield 22, 3) := by decide +kernel
theorem dX10_reads_144 : decode cX10_reads 144 = .ok (.aload_n 0, 1) := by decide +kernel
theorem dX10_reads_145 : decode cX10_reads 145 = .ok (.iload 8, 2) := by decide +kernel
theorem dX10_reads_147 : decode cX10_reads 147 = .ok (.putfield 73, 3) := by decide +kernel
theorem dX10_reads_150 : decode cX10_reads 150 = .ok (.aload_n 0, 1) := by decide +kernel
theorem dX10_reads_151 : decode cX10_reads 151 = .ok (.invokevirtual 110, 3) := by decide +kernel
theorem dX10_reads_154 : decode cX10_reads 154 = .ok (.iload 4, 2) := by decide +kernel
theorem dX10_reads_156 : decode cX10_reads 156 = .ok (.ireturn, 1) := by decide +kernel
theorem dX10_toldBy_0 : decode cX10_toldBy 0 = .ok (.iload_n 1, 1) := by decide +kernel
theorem dX10_toldBy_1 : decode cX10_toldBy 1 = .ok (.iconst 3, 1) := by decide +kernel
theorem dX10_toldBy_2 : decode cX10_toldBy 2 = .ok (.if_icmp .ge 12, 3) := by decide +kernel
theorem dX10_toldBy_5 : decode cX10_toldBy 5 = .ok (.aload_n 0, 1) := by decide +kernel
theorem dX10_toldBy_6 : decode cX10_toldBy 6 = .ok (.getfield 7, 3) := by decide +kernel
theorem dX10_toldBy_9 : decode cX10_toldBy 9 = .ok (.iload_n 1, 1) := by decide +kernel
theorem dX10_toldBy_10 : decode cX10_toldBy 10 = .ok (.iaload, 1) := by decide +kernel
theorem dX10_toldBy_11 : decode cX10_toldBy 11 = .ok (.goto 56, 3) := by decide +kernel
theorem dX10_toldBy_14 : decode cX10_toldBy 14 = .ok (.iload_n 1, 1) := by decide +kernel
theorem dX10_toldBy_15 : decode cX10_toldBy 15 = .ok (.iconst 3, 1) := by decide +kernel
theorem dX10_toldBy_16 : decode cX10_toldBy 16 = .ok (.if_icmp .ne 10, 3) := by decide +kernel
theorem dX10_toldBy_19 : decode cX10_toldBy 19 = .ok (.aload_n 0, 1) := by decide +kernel
theorem dX10_toldBy_20 : decode cX10_toldBy 20 = .ok (.getfield 233, 3) := by decide +kernel
theorem dX10_toldBy_23 : decode cX10_toldBy 23 = .ok (.goto 44, 3) := by decide +kernel
theorem dX10_toldBy_26 : decode cX10_toldBy 26 = .ok (.iload_n 1, 1) := by decide +kernel
theorem dX10_toldBy_27 : decode cX10_toldBy 27 = .ok (.iconst 4, 1) := by decide +kernel
theorem dX10_toldBy_28 : decode cX10_toldBy 28 = .ok (.if_icmp .ne 10, 3) := by decide +kernel
theorem dX10_toldBy_31 : decode cX10_toldBy 31 = .ok (.aload_n 0, 1) := by decide +kernel
theorem dX10_toldBy_32 : decode cX10_toldBy 32 = .ok (.getfield 70, 3) := by decide +kernel
theorem dX10_toldBy_35 : decode cX10_toldBy 35 = .ok (.goto 32, 3) := by decide +kernel
theorem dX10_toldBy_38 : decode cX10_toldBy 38 = .ok (.iload_n 1, 1) := by decide +kernel
theorem dX10_toldBy_39 : decode cX10_toldBy 39 = .ok (.iconst 5, 1) := by decide +kernel
theorem dX10_toldBy_40 : decode cX10_toldBy 40 = .ok (.if_icmp .ne 10, 3) := by decide +kernel
theorem dX10_toldBy_43 : decode cX10_toldBy 43 = .ok (.aload_n 0, 1) := by decide +kernel
theorem dX10_toldBy_44 : decode cX10_toldBy 44 = .ok (.getfield 22, 3) := by decide +kernel
theorem dX10_toldBy_47 : decode cX10_toldBy 47 = .ok (.goto 20, 3) := by decide +kernel
theorem dX10_toldBy_50 : decode cX10_toldBy 50 = .ok (.iload_n 1, 1) := by decide +kernel
theorem dX10_toldBy_51 : decode cX10_toldBy 51 = .ok (.bipush 6, 2) := by decide +kernel
theorem dX10_toldBy_53 : decode cX10_toldBy 53 = .ok (.if_icmp .ne 10, 3) := by decide +kernel
theorem dX10_toldBy_56 : decode cX10_toldBy 56 = .ok (.aload_n 0, 1) := by decide +kernel
theorem dX10_toldBy_57 : decode cX10_toldBy 57 = .ok (.getfield 73, 3) := by decide +kernel
theorem dX10_toldBy_60 : decode cX10_toldBy 60 = .ok (.goto 7, 3) := by decide +kernel
theorem dX10_toldBy_63 : decode cX10_toldBy 63 = .ok (.aload_n 0, 1) := by decide +kernel
theorem dX10_toldBy_64 : decode cX10_toldBy 64 = .ok (.getfield 67, 3) := by decide +kernel
theorem dX10_toldBy_67 : decode cX10_toldBy 67 = .ok (.ireturn, 1) := by decide +kernel
set_option maxRecDepth 20000 in
theorem ggX10_told_X10_in : GoodIn wsX10_told wsX10_in := goodIn_r _ [4] rfl (by decide +kernel)
set_option maxRecDepth 20000 in
theorem gX10_told_X10_in : GoodIn wsX10_told (va_wsS RX10 63 yX10_in wsX10_in) := goodIn_app (goodIn_of _ (by decide +kernel)) ggX10_told_X10_in
set_option maxRecDepth 20000 in
theorem ggX10_told_X10_toldBy : GoodIn wsX10_told wsX10_toldBy := goodIn_r _ [8, 9, 10, 11, 12, 13, 14, 19, 20, 21, 22, 23, 24, 25, 26, 27, 28, 29, 30, 31, 32, 33, 34, 35, 36, 37, 38, 39, 40, 41, 42, 43] rfl (by decide +kernel)
set_option maxRecDepth 20000 in
theorem gX10_told_X10_toldBy : GoodIn wsX10_told (wsV RX10 260 RX10 yX10_toldBy wsX10_toldBy) := goodIn_app (goodIn_r _ [5, 6, 7, 3] rfl (by decide +kernel)) ggX10_told_X10_toldBy
set_option maxRecDepth 20000 in
theorem ggX10_told_X10_bad : GoodIn wsX10_told wsX10_bad := goodIn_r _ [18, 9, 19, 20, 21, 22, 23, 24, 25, 26, 27, 28, 29, 30, 31, 32, 33, 34, 35, 36, 37, 38, 39, 40, 41, 42, 43] rfl (by decide +kernel)
set_option maxRecDepth 20000 in
theorem gX10_told_X10_bad : GoodIn wsX10_told (wsV RX10 94 RX10 yX10_bad wsX10_bad) := goodIn_app (goodIn_r _ [15, 16, 17, 3] rfl (by decide +kernel)) ggX10_told_X10_bad
theorem dX10_told_0 : decode cX10_told 0 = .ok (.iload_n 1, 1) := by decide +kernel
theorem dX10_told_1 : decode cX10_told 1 = .ok (.iconst 0, 1) := by decide +kernel
theorem dX10_told_2 : decode cX10_told 2 = .ok (.bipush 7, 2) := by decide +kernel
theorem dX10_told_4 : decode cX10_told 4 = .ok (.invokestatic 63, 3) := by decide +kernel
theorem dX10_told_7 : decode cX10_told 7 = .ok (.ifCond .eq 11, 3) := by decide +kernel
theorem dX10_told_10 : decode cX10_told 10 = .ok (.aload_n 0, 1) := by decide +kernel
theorem dX10_told_11 : decode cX10_told 11 = .ok (.iload_n 1, 1) := by decide +kernel
theorem dX10_told_12 : decode cX10_told 12 = .ok (.invokevirtual 260, 3) := by decide +kernel
theorem dX10_told_15 : decode cX10_told 15 = .ok (.goto 7, 3) := by decide +kernel
theorem dX10_told_18 : decode cX10_told 18 = .ok (.aload_n 0, 1) := by decide +kernel
theorem dX10_told_19 : decode cX10_told 19 = .ok (.invokevirtual 94, 3) := by decide +kernel
theorem dX10_told_22 : decode cX10_told 22 = .ok (.ireturn, 1) := by decide +kernel
set_option maxRecDepth 20000 in
theorem ggX10_digest_X10_toldBy : GoodIn wsX10_digest wsX10_toldBy := goodIn_r _ [11, 12, 13, 3, 14, 15, 16, 135, 136, 137, 138, 139, 140, 141, 142, 143, 144, 145, 146, 147, 148, 149, 150, 151, 152, 153, 154, 155, 156, 157, 158, 159] rfl (by decide +kernel)
set_option maxRecDepth 20000 in
theorem gX10_digest_X10_toldBy : GoodIn wsX10_digest (wsV RX10 260 RX10 yX10_toldBy wsX10_toldBy) := goodIn_app (goodIn_r _ [7, 8, 9, 10] rfl (by decide +kernel)) ggX10_digest_X10_toldBy
set_option maxRecDepth 20000 in
theorem ggX10_digest_X10_knownBy : GoodIn wsX10_digest wsX10_knownBy := goodIn_r _ [20, 21, 14, 22, 23, 10, 24, 25, 26, 27, 28, 29, 30, 31, 32, 33, 34, 35, 3, 5, 4, 6, 36, 37, 38, 39, 15, 135, 136, 137, 138, 139, 140, 141, 142, 143, 144, 145, 146, 147, 148, 149, 150, 151, 152, 153, 154, 155, 156, 157, 158, 159] rfl (by decide +kernel)
set_option maxRecDepth 20000 in
theorem gX10_digest_X10_knownBy : GoodIn wsX10_digest (wsV RX10 153 RX10 yX10_knownBy wsX10_knownBy) := goodIn_app (goodIn_r _ [17, 18, 19, 10] rfl (by decide +kernel)) ggX10_digest_X10_knownBy
set_option maxRecDepth 20000 in
theorem ggX10_digest_X10_allBy : GoodIn wsX10_digest wsX10_allBy := goodIn_r _ [43, 44, 45, 46, 47, 10, 48, 32, 33, 34, 35, 3, 5, 4, 6, 36, 37, 38, 39, 15, 49, 50, 51, 52, 53, 54, 55, 56, 57, 58, 14, 59, 60, 61, 62, 28, 29, 30, 31, 63, 64, 65, 66, 67, 68, 69, 70, 22, 23, 24, 71, 72, 73, 74, 75, 76, 77, 78, 79, 80, 81, 82, 83, 84, 85, 86, 87, 88, 89, 90, 91, 92, 93, 94, 135, 136, 137, 138, 139, 140, 141, 142, 143, 144, 145, 146, 147, 148, 149, 150, 151, 152, 153, 154, 155, 156, 157, 158, 159] rfl (by decide +kernel)
set_option maxRecDepth 20000 in
theorem gX10_digest_X10_allBy : GoodIn wsX10_digest (wsV RX10 191 RX10 yX10_allBy wsX10_allBy) := goodIn_app (goodIn_r _ [40, 41, 42, 10] rfl (by decide +kernel)) ggX10_digest_X10_allBy
set_option maxRecDepth 20000 in
theorem ggX10_digest_X10_apartBy : GoodIn wsX10_digest wsX10_apartBy := goodIn_r _ [98, 99, 100, 101, 10, 102, 103, 104, 105, 106, 107, 108, 109, 110, 71, 72, 73, 74, 75, 76, 77, 78, 79, 80, 81, 82, 83, 84, 85, 86, 87, 3, 4, 6, 5, 36, 37, 38, 39, 15, 88, 89, 90, 28, 29, 30, 31, 14, 111, 112, 113, 114, 115, 116, 117, 118, 119, 120, 121, 122, 123, 124, 125, 126, 127, 128, 129, 130, 131, 132, 133, 134, 135, 136, 137, 138, 139, 140, 141, 142, 143, 144, 145, 146, 147, 148, 149, 150, 151, 152, 153, 154, 155, 156, 157, 158, 159] rfl (by decide +kernel)
set_option maxRecDepth 20000 in
theorem gX10_digest_X10_apartBy : GoodIn wsX10_digest (wsV RX10 221 RX10 yX10_apartBy wsX10_apartBy) := goodIn_app (goodIn_r _ [95, 96, 97, 10] rfl (by decide +kernel)) ggX10_digest_X10_apartBy
theorem dX10_digest_0 : decode cX10_digest 0 = .ok (.ldc2_w 263, 3) := by decide +kernel
theorem dX10_digest_3 : decode cX10_digest 3 = .ok (.lstore_n 1, 1) := by decide +kernel
theorem dX10_digest_4 : decode cX10_digest 4 = .ok (.iconst 0, 1) := by decide +kernel
theorem dX10_digest_5 : decode cX10_digest 5 = .ok (.istore_n 3, 1) := by decide +kernel
theorem dX10_digest_6 : decode cX10_digest 6 = .ok (.iload_n 3, 1) := by decide +kernel
theorem dX10_digest_7 : decode cX10_digest 7 = .ok (.bipush 8, 2) := by decide +kernel
theorem dX10_digest_9 : decode cX10_digest 9 = .ok (.if_icmp .ge 22, 3) := by decide +kernel
theorem dX10_digest_12 : decode cX10_digest 12 = .ok (.ldc2_w 265, 3) := by decide +kernel
theorem dX10_digest_15 : decode cX10_digest 15 = .ok (.lload_n 1, 1) := by decide +kernel
theorem dX10_digest_16 : decode cX10_digest 16 = .ok (.lmul, 1) := by decide +kernel
theorem dX10_digest_17 : decode cX10_digest 17 = .ok (.aload_n 0, 1) := by decide +kernel
theorem dX10_digest_18 : decode cX10_digest 18 = .ok (.iload_n 3, 1) := by decide +kernel
theorem dX10_digest_19 : decode cX10_digest 19 = .ok (.invokevirtual 260, 3) := by decide +kernel
theorem dX10_digest_22 : decode cX10_digest 22 = .ok (.i2l, 1) := by decide +kernel
theorem dX10_digest_23 : decode cX10_digest 23 = .ok (.ladd, 1) := by decide +kernel
theorem dX10_digest_24 : decode cX10_digest 24 = .ok (.lstore_n 1, 1) := by decide +kernel
theorem dX10_digest_25 : decode cX10_digest 25 = .ok (.iinc 3 1, 3) := by decide +kernel
theorem dX10_digest_28 : decode cX10_digest 28 = .ok (.goto (-22), 3) := by decide +kernel
theorem dX10_digest_31 : decode cX10_digest 31 = .ok (.iconst 0, 1) := by decide +kernel
theorem dX10_digest_32 : decode cX10_digest 32 = .ok (.istore_n 3, 1) := by decide +kernel
theorem dX10_digest_33 : decode cX10_digest 33 = .ok (.iload_n 3, 1) := by decide +kernel
theorem dX10_digest_34 : decode cX10_digest 34 = .ok (.aload_n 0, 1) := by decide +kernel
theorem dX10_digest_35 : decode cX10_digest 35 = .ok (.getfield 70, 3) := by decide +kernel
theorem dX10_digest_38 : decode cX10_digest 38 = .ok (.if_icmp .ge 51, 3) := by decide +kernel
theorem dX10_digest_41 : decode cX10_digest 41 = .ok (.ldc2_w 265, 3) := by decide +kernel
theorem dX10_digest_44 : decode cX10_digest 44 = .ok (.lload_n 1, 1) := by decide +kernel
theorem dX10_digest_45 : decode cX10_digest 45 = .ok (.lmul, 1) := by decide +kernel
theorem dX10_digest_46 : decode cX10_digest 46 = .ok (.aload_n 0, 1) := by decide +kernel
theorem dX10_digest_47 : decode cX10_digest 47 = .ok (.getfield 13, 3) := by decide +kernel
theorem dX10_digest_50 : decode cX10_digest 50 = .ok (.iload_n 3, 1) := by decide +kernel
theorem dX10_digest_51 : decode cX10_digest 51 = .ok (.iaload, 1) := by decide +kernel
theorem dX10_digest_52 : decode cX10_digest 52 = .ok (.i2l, 1) := by decide +kernel
theorem dX10_digest_53 : decode cX10_digest 53 = .ok (.ladd, 1) := by decide +kernel
theorem dX10_digest_54 : decode cX10_digest 54 = .ok (.lstore_n 1, 1) := by decide +kernel
theorem dX10_digest_55 : decode cX10_digest 55 = .ok (.ldc2_w 265, 3) := by decide +kernel
theorem dX10_digest_58 : decode cX10_digest 58 = .ok (.lload_n 1, 1) := by decide +kernel
theorem dX10_digest_59 : decode cX10_digest 59 = .ok (.lmul, 1) := by decide +kernel
theorem dX10_digest_60 : decode cX10_digest 60 = .ok (.aload_n 0, 1) := by decide +kernel
theorem dX10_digest_61 : decode cX10_digest 61 = .ok (.getfield 16, 3) := by decide +kernel
theorem dX10_digest_64 : decode cX10_digest 64 = .ok (.iload_n 3, 1) := by decide +kernel
theorem dX10_digest_65 : decode cX10_digest 65 = .ok (.iaload, 1) := by decide +kernel
theorem dX10_digest_66 : decode cX10_digest 66 = .ok (.i2l, 1) := by decide +kernel
theorem dX10_digest_67 : decode cX10_digest 67 = .ok (.ladd, 1) := by decide +kernel
theorem dX10_digest_68 : decode cX10_digest 68 = .ok (.lstore_n 1, 1) := by decide +kernel
theorem dX10_digest_69 : decode cX10_digest 69 = .ok (.ldc2_w 265, 3) := by decide +kernel
theorem dX10_digest_72 : decode cX10_digest 72 = .ok (.lload_n 1, 1) := by decide +kernel
theorem dX10_digest_73 : decode cX10_digest 73 = .ok (.lmul, 1) := by decide +kernel
theorem dX10_digest_74 : decode cX10_digest 74 = .ok (.aload_n 0, 1) := by decide +kernel
theorem dX10_digest_75 : decode cX10_digest 75 = .ok (.getfield 19, 3) := by decide +kernel
theorem dX10_digest_78 : decode cX10_digest 78 = .ok (.iload_n 3, 1) := by decide +kernel
theorem dX10_digest_79 : decode cX10_digest 79 = .ok (.iaload, 1) := by decide +kernel
theorem dX10_digest_80 : decode cX10_digest 80 = .ok (.i2l, 1) := by decide +kernel
theorem dX10_digest_81 : decode cX10_digest 81 = .ok (.ladd, 1) := by decide +kernel
theorem dX10_digest_82 : decode cX10_digest 82 = .ok (.lstore_n 1, 1) := by decide +kernel
theorem dX10_digest_83 : decode cX10_digest 83 = .ok (.iinc 3 1, 3) := by decide +kernel
theorem dX10_digest_86 : decode cX10_digest 86 = .ok (.goto (-53), 3) := by decide +kernel
theorem dX10_digest_89 : decode cX10_digest 89 = .ok (.iconst 0, 1) := by decide +kernel
theorem dX10_digest_90 : decode cX10_digest 90 = .ok (.istore_n 3, 1) := by decide +kernel
theorem dX10_digest_91 : decode cX10_digest 91 = .ok (.iload_n 3, 1) := by decide +kernel
theorem dX10_digest_92 : decode cX10_digest 92 = .ok (.iconst 4, 1) := by decide +kernel
theorem dX10_digest_93 : decode cX10_digest 93 = .ok (.if_icmp .ge 22, 3) := by decide +kernel
theorem dX10_digest_96 : decode cX10_digest 96 = .ok (.ldc2_w 265, 3) := by decide +kernel
theorem dX10_digest_99 : decode cX10_digest 99 = .ok (.lload_n 1, 1) := by decide +kernel
theorem dX10_digest_100 : decode cX10_digest 100 = .ok (.lmul, 1) := by decide +kernel
theorem dX10_digest_101 : decode cX10_digest 101 = .ok (.aload_n 0, 1) := by decide +kernel
theorem dX10_digest_102 : decode cX10_digest 102 = .ok (.iload_n 3, 1) := by decide +kernel
theorem dX10_digest_103 : decode cX10_digest 103 = .ok (.invokevirtual 153, 3) := by decide +kernel
theorem dX10_digest_106 : decode cX10_digest 106 = .ok (.i2l, 1) := by decide +kernel
theorem dX10_digest_107 : decode cX10_digest 107 = .ok (.ladd, 1) := by decide +kernel
theorem dX10_digest_108 : decode cX10_digest 108 = .ok (.lstore_n 1, 1) := by decide +kernel
theorem dX10_digest_109 : decode cX10_digest 109 = .ok (.iinc 3 1, 3) := by decide +kernel
theorem dX10_digest_112 : decode cX10_digest 112 = .ok (.goto (-21), 3) := by decide +kernel
theorem dX10_digest_115 : decode cX10_digest 115 = .ok (.ldc2_w 265, 3) := by decide +kernel
theorem dX10_digest_118 : decode cX10_digest 118 = .ok (.lload_n 1, 1) := by decide +kernel
theorem dX10_digest_119 : decode cX10_digest 119 = .ok (.lmul, 1) := by decide +kernel
theorem dX10_digest_120 : decode cX10_digest 120 = .ok (.aload_n 0, 1) := by decide +kernel
theorem dX10_digest_121 : decode cX10_digest 121 = .ok (.iconst 0, 1) := by decide +kernel
theorem dX10_digest_122 : decode cX10_digest 122 = .ok (.invokevirtual 191, 3) := by decide +kernel
theorem dX10_digest_125 : decode cX10_digest 125 = .ok (.i2l, 1) := by decide +kernel
theorem dX10_digest_126 : decode cX10_digest 126 = .ok (.ladd, 1) := by decide +kernel
theorem dX10_digest_127 : decode cX10_digest 127 = .ok (.lstore_n 1, 1) := by decide +kernel
theorem dX10_digest_128 : decode cX10_digest 128 = .ok (.ldc2_w 265, 3) := by decide +kernel
theorem dX10_digest_131 : decode cX10_digest 131 = .ok (.lload_n 1, 1) := by decide +kernel
theorem dX10_digest_132 : decode cX10_digest 132 = .ok (.lmul, 1) := by decide +kernel
theorem dX10_digest_133 : decode cX10_digest 133 = .ok (.aload_n 0, 1) := by decide +kernel
theorem dX10_digest_134 : decode cX10_digest 134 = .ok (.iconst 4, 1) := by decide +kernel
theorem dX10_digest_135 : decode cX10_digest 135 = .ok (.invokevirtual 191, 3) := by decide +kernel
theorem dX10_digest_138 : decode cX10_digest 138 = .ok (.i2l, 1) := by decide +kernel
theorem dX10_digest_139 : decode cX10_digest 139 = .ok (.ladd, 1) := by decide +kernel
theorem dX10_digest_140 : decode cX10_digest 140 = .ok (.lstore_n 1, 1) := by decide +kernel
theorem dX10_digest_141 : decode cX10_digest 141 = .ok (.ldc2_w 265, 3) := by decide +kernel
theorem dX10_digest_144 : decode cX10_digest 144 = .ok (.lload_n 1, 1) := by decide +kernel
theorem dX10_digest_145 : decode cX10_digest 145 = .ok (.lmul, 1) := by decide +kernel
theorem dX10_digest_146 : decode cX10_digest 146 = .ok (.aload_n 0, 1) := by decide +kernel
theorem dX10_digest_147 : decode cX10_digest 147 = .ok (.iconst 5, 1) := by decide +kernel
theorem dX10_digest_148 : decode cX10_digest 148 = .ok (.invokevirtual 191, 3) := by decide +kernel
theorem dX10_digest_151 : decode cX10_digest 151 = .ok (.i2l, 1) := by decide +kernel
theorem dX10_digest_152 : decode cX10_digest 152 = .ok (.ladd, 1) := by decide +kernel
theorem dX10_digest_153 : decode cX10_digest 153 = .ok (.lstore_n 1, 1) := by decide +kernel
theorem dX10_digest_154 : decode cX10_digest 154 = .ok (.ldc2_w 265, 3) := by decide +kernel
theorem dX10_digest_157 : decode cX10_digest 157 = .ok (.lload_n 1, 1) := by decide +kernel
theorem dX10_digest_158 : decode cX10_digest 158 = .ok (.lmul, 1) := by decide +kernel
theorem dX10_digest_159 : decode cX10_digest 159 = .ok (.aload_n 0, 1) := by decide +kernel
theorem dX10_digest_160 : decode cX10_digest 160 = .ok (.iconst 0, 1) := by decide +kernel
theorem dX10_digest_161 : decode cX10_digest 161 = .ok (.invokevirtual 221, 3) := by decide +kernel
theorem dX10_digest_164 : decode cX10_digest 164 = .ok (.i2l, 1) := by decide +kernel
theorem dX10_digest_165 : decode cX10_digest 165 = .ok (.ladd, 1) := by decide +kernel
theorem dX10_digest_166 : decode cX10_digest 166 = .ok (.lstore_n 1, 1) := by decide +kernel
theorem dX10_digest_167 : decode cX10_digest 167 = .ok (.ldc2_w 265, 3) := by decide +kernel
theorem dX10_digest_170 : decode cX10_digest 170 = .ok (.lload_n 1, 1) := by decide +kernel
theorem dX10_digest_171 : decode cX10_digest 171 = .ok (.lmul, 1) := by decide +kernel
theorem dX10_digest_172 : decode cX10_digest 172 = .ok (.aload_n 0, 1) := by decide +kernel
theorem dX10_digest_173 : decode cX10_digest 173 = .ok (.iconst 1, 1) := by decide +kernel
theorem dX10_digest_174 : decode cX10_digest 174 = .ok (.invokevirtual 221, 3) := by decide +kernel
theorem dX10_digest_177 : decode cX10_digest 177 = .ok (.i2l, 1) := by decide +kernel
theorem dX10_digest_178 : decode cX10_digest 178 = .ok (.ladd, 1) := by decide +kernel
theorem dX10_digest_179 : decode cX10_digest 179 = .ok (.lreturn, 1) := by decide +kernel
