theorem dX0_init_0 : decode cX0_init 0 = .ok (.aload_n 0, 1) := by decide +kernel
theorem dX0_init_1 : decode cX0_init 1 = .ok (.invokespecial 3, 3) := by decide +kernel
theorem dX0_init_4 : decode cX0_init 4 = .ok (.aload_n 0, 1) := by decide +kernel
theorem dX0_init_5 : decode cX0_init 5 = .ok (.bipush 6, 2) := by decide +kernel
theorem dX0_init_7 : decode cX0_init 7 = .ok (.newarray .int, 2) := by decide +kernel
theorem dX0_init_9 : decode cX0_init 9 = .ok (.putfield 9, 3) := by decide +kernel
theorem dX0_init_12 : decode cX0_init 12 = .ok (.aload_n 0, 1) := by decide +kernel
theorem dX0_init_13 : decode cX0_init 13 = .ok (.bipush 6, 2) := by decide +kernel
theorem dX0_init_15 : decode cX0_init 15 = .ok (.newarray .int, 2) := by decide +kernel
theorem dX0_init_17 : decode cX0_init 17 = .ok (.putfield 15, 3) := by decide +kernel
theorem dX0_init_20 : decode cX0_init 20 = .ok (.aload_n 0, 1) := by decide +kernel
theorem dX0_init_21 : decode cX0_init 21 = .ok (.bipush 64, 2) := by decide +kernel
theorem dX0_init_23 : decode cX0_init 23 = .ok (.newarray .int, 2) := by decide +kernel
theorem dX0_init_25 : decode cX0_init 25 = .ok (.putfield 18, 3) := by decide +kernel
theorem dX0_init_28 : decode cX0_init 28 = .ok (.return_, 1) := by decide +kernel
set_option maxRecDepth 20000 in
theorem ggX0_seek_X7_costOf : GoodIn wsX0_seek wsX7_costOf := goodIn_r _ [13, 14, 15, 12, 16, 17, 5, 6, 7, 18, 19, 20, 21, 22, 23, 24, 25, 26, 27, 28, 29, 30] (by decide +kernel) (by decide +kernel)
set_option maxRecDepth 20000 in
theorem gX0_seek_X7_costOf_n30 : GoodIn wsX0_seek (wsX7_costOf) := ggX0_seek_X7_costOf
set_option maxRecDepth 20000 in
theorem ggX0_seek_X7_carryTenths : GoodIn wsX0_seek wsX7_carryTenths := goodIn_r _ [27, 28, 29, 12, 30] (by decide +kernel) (by decide +kernel)
set_option maxRecDepth 20000 in
theorem gX0_seek_X7_carryTenths_n34 : GoodIn wsX0_seek (wsX7_carryTenths) := ggX0_seek_X7_carryTenths
set_option maxRecDepth 20000 in
theorem ggX0_seek_X0_bestTown : GoodIn wsX0_seek wsX0_bestTown := goodIn_r _ [35, 1, 36, 37, 38, 34, 39, 8, 3, 40, 41, 42, 43, 44, 45, 46, 47, 48, 49, 50, 51, 52, 53, 54, 55, 56, 57, 58, 59, 60, 61, 62, 63, 64, 65] (by decide +kernel) (by decide +kernel)
set_option maxRecDepth 20000 in
theorem gX0_seek_X0_bestTown : GoodIn wsX0_seek (wsV RX0 44 RX0 yX0_bestTown wsX0_bestTown) := goodIn_app (goodIn_of _ (by decide +kernel)) ggX0_seek_X0_bestTown
set_option maxRecDepth 20000 in
theorem ggX0_seek_X0_withTown : GoodIn wsX0_seek wsX0_withTown := goodIn_r _ [39, 1, 8, 3, 40, 41, 42, 43, 44, 45, 46, 47, 48, 49, 50, 51, 52, 53, 54, 55, 56, 57, 58, 59, 60, 61, 62, 63, 64, 65] (by decide +kernel) (by decide +kernel)
set_option maxRecDepth 20000 in
theorem gX0_seek_X0_withTown : GoodIn wsX0_seek (wsV RX0 48 RX0 yX0_withTown wsX0_withTown) := goodIn_app (goodIn_of _ (by decide +kernel)) ggX0_seek_X0_withTown
theorem dX0_seek_0 : decode cX0_seek 0 = .ok (.iconst 0, 1) := by decide +kernel
theorem dX0_seek_1 : decode cX0_seek 1 = .ok (.istore_n 2, 1) := by decide +kernel
theorem dX0_seek_2 : decode cX0_seek 2 = .ok (.iload_n 2, 1) := by decide +kernel
theorem dX0_seek_3 : decode cX0_seek 3 = .ok (.aload_n 1, 1) := by decide +kernel
theorem dX0_seek_4 : decode cX0_seek 4 = .ok (.getfield 21, 3) := by decide +kernel
theorem dX0_seek_7 : decode cX0_seek 7 = .ok (.if_icmp .ge 35, 3) := by decide +kernel
theorem dX0_seek_10 : decode cX0_seek 10 = .ok (.aload_n 1, 1) := by decide +kernel
theorem dX0_seek_11 : decode cX0_seek 11 = .ok (.getfield 27, 3) := by decide +kernel
theorem dX0_seek_14 : decode cX0_seek 14 = .ok (.iload_n 2, 1) := by decide +kernel
theorem dX0_seek_15 : decode cX0_seek 15 = .ok (.iaload, 1) := by decide +kernel
theorem dX0_seek_16 : decode cX0_seek 16 = .ok (.istore_n 3, 1) := by decide +kernel
theorem dX0_seek_17 : decode cX0_seek 17 = .ok (.aload_n 0, 1) := by decide +kernel
theorem dX0_seek_18 : decode cX0_seek 18 = .ok (.getfield 15, 3) := by decide +kernel
theorem dX0_seek_21 : decode cX0_seek 21 = .ok (.iload_n 2, 1) := by decide +kernel
theorem dX0_seek_22 : decode cX0_seek 22 = .ok (.iconst 0, 1) := by decide +kernel
theorem dX0_seek_23 : decode cX0_seek 23 = .ok (.iload_n 3, 1) := by decide +kernel
theorem dX0_seek_24 : decode cX0_seek 24 = .ok (.iconst 0, 1) := by decide +kernel
theorem dX0_seek_25 : decode cX0_seek 25 = .ok (.invokestatic 30, 3) := by decide +kernel
theorem dX0_seek_28 : decode cX0_seek 28 = .ok (.iload_n 3, 1) := by decide +kernel
theorem dX0_seek_29 : decode cX0_seek 29 = .ok (.invokestatic 34, 3) := by decide +kernel
theorem dX0_seek_32 : decode cX0_seek 32 = .ok (.invokestatic 38, 3) := by decide +kernel
theorem dX0_seek_35 : decode cX0_seek 35 = .ok (.iastore, 1) := by decide +kernel
theorem dX0_seek_36 : decode cX0_seek 36 = .ok (.iinc 2 1, 3) := by decide +kernel
theorem dX0_seek_39 : decode cX0_seek 39 = .ok (.goto (-37), 3) := by decide +kernel
theorem dX0_seek_42 : decode cX0_seek 42 = .ok (.iconst 1, 1) := by decide +kernel
theorem dX0_seek_43 : decode cX0_seek 43 = .ok (.aload_n 1, 1) := by decide +kernel
theorem dX0_seek_44 : decode cX0_seek 44 = .ok (.getfield 21, 3) := by decide +kernel
theorem dX0_seek_47 : decode cX0_seek 47 = .ok (.ishl, 1) := by decide +kernel
theorem dX0_seek_48 : decode cX0_seek 48 = .ok (.iconst 1, 1) := by decide +kernel
theorem dX0_seek_49 : decode cX0_seek 49 = .ok (.isub, 1) := by decide +kernel
theorem dX0_seek_50 : decode cX0_seek 50 = .ok (.istore_n 2, 1) := by decide +kernel
theorem dX0_seek_51 : decode cX0_seek 51 = .ok (.aload_n 0, 1) := by decide +kernel
theorem dX0_seek_52 : decode cX0_seek 52 = .ok (.getfield 18, 3) := by decide +kernel
theorem dX0_seek_55 : decode cX0_seek 55 = .ok (.iload_n 2, 1) := by decide +kernel
theorem dX0_seek_56 : decode cX0_seek 56 = .ok (.iconst 0, 1) := by decide +kernel
theorem dX0_seek_57 : decode cX0_seek 57 = .ok (.iastore, 1) := by decide +kernel
theorem dX0_seek_58 : decode cX0_seek 58 = .ok (.iload_n 2, 1) := by decide +kernel
theorem dX0_seek_59 : decode cX0_seek 59 = .ok (.iconst 1, 1) := by decide +kernel
theorem dX0_seek_60 : decode cX0_seek 60 = .ok (.isub, 1) := by decide +kernel
theorem dX0_seek_61 : decode cX0_seek 61 = .ok (.istore_n 3, 1) := by decide +kernel
theorem dX0_seek_62 : decode cX0_seek 62 = .ok (.iload_n 3, 1) := by decide +kernel
theorem dX0_seek_63 : decode cX0_seek 63 = .ok (.ifCond .lt 27, 3) := by decide +kernel
theorem dX0_seek_66 : decode cX0_seek 66 = .ok (.aload_n 0, 1) := by decide +kernel
theorem dX0_seek_67 : decode cX0_seek 67 = .ok (.getfield 18, 3) := by decide +kernel
theorem dX0_seek_70 : decode cX0_seek 70 = .ok (.iload_n 3, 1) := by decide +kernel
theorem dX0_seek_71 : decode cX0_seek 71 = .ok (.aload_n 0, 1) := by decide +kernel
theorem dX0_seek_72 : decode cX0_seek 72 = .ok (.aload_n 1, 1) := by decide +kernel
theorem dX0_seek_73 : decode cX0_seek 73 = .ok (.iload_n 3, 1) := by decide +kernel
theorem dX0_seek_74 : decode cX0_seek 74 = .ok (.aload_n 0, 1) := by decide +kernel
theorem dX0_seek_75 : decode cX0_seek 75 = .ok (.aload_n 1, 1) := by decide +kernel
theorem dX0_seek_76 : decode cX0_seek 76 = .ok (.iload_n 3, 1) := by decide +kernel
theorem dX0_seek_77 : decode cX0_seek 77 = .ok (.invokevirtual 44, 3) := by decide +kernel
theorem dX0_seek_80 : decode cX0_seek 80 = .ok (.invokevirtual 48, 3) := by decide +kernel
theorem dX0_seek_83 : decode cX0_seek 83 = .ok (.iastore, 1) := by decide +kernel
theorem dX0_seek_84 : decode cX0_seek 84 = .ok (.iinc 3 (-1), 3) := by decide +kernel
theorem dX0_seek_87 : decode cX0_seek 87 = .ok (.goto (-25), 3) := by decide +kernel
theorem dX0_seek_90 : decode cX0_seek 90 = .ok (.aload_n 0, 1) := by decide +kernel
theorem dX0_seek_91 : decode cX0_seek 91 = .ok (.aload_n 0, 1) := by decide +kernel
theorem dX0_seek_92 : decode cX0_seek 92 = .ok (.getfield 18, 3) := by decide +kernel
theorem dX0_seek_95 : decode cX0_seek 95 = .ok (.iconst 0, 1) := by decide +kernel
theorem dX0_seek_96 : decode cX0_seek 96 = .ok (.iaload, 1) := by decide +kernel
theorem dX0_seek_97 : decode cX0_seek 97 = .ok (.putfield 52, 3) := by decide +kernel
theorem dX0_seek_100 : decode cX0_seek 100 = .ok (.iconst 0, 1) := by decide +kernel
theorem dX0_seek_101 : decode cX0_seek 101 = .ok (.istore_n 3, 1) := by decide +kernel
theorem dX0_seek_102 : decode cX0_seek 102 = .ok (.iconst 0, 1) := by decide +kernel
theorem dX0_seek_103 : decode cX0_seek 103 = .ok (.istore 4, 2) := by decide +kernel
theorem dX0_seek_105 : decode cX0_seek 105 = .ok (.iload 4, 2) := by decide +kernel
theorem dX0_seek_107 : decode cX0_seek 107 = .ok (.aload_n 1, 1) := by decide +kernel
theorem dX0_seek_108 : decode cX0_seek 108 = .ok (.getfield 21, 3) := by decide +kernel
theorem dX0_seek_111 : decode cX0_seek 111 = .ok (.if_icmp .ge 34, 3) := by decide +kernel
theorem dX0_seek_114 : decode cX0_seek 114 = .ok (.aload_n 0, 1) := by decide +kernel
theorem dX0_seek_115 : decode cX0_seek 115 = .ok (.getfield 9, 3) := by decide +kernel
theorem dX0_seek_118 : decode cX0_seek 118 = .ok (.iload 4, 2) := by decide +kernel
theorem dX0_seek_120 : decode cX0_seek 120 = .ok (.aload_n 0, 1) := by decide +kernel
theorem dX0_seek_121 : decode cX0_seek 121 = .ok (.aload_n 1, 1) := by decide +kernel
theorem dX0_seek_122 : decode cX0_seek 122 = .ok (.iload_n 3, 1) := by decide +kernel
theorem dX0_seek_123 : decode cX0_seek 123 = .ok (.invokevirtual 44, 3) := by decide +kernel
theorem dX0_seek_126 : decode cX0_seek 126 = .ok (.iastore, 1) := by decide +kernel
theorem dX0_seek_127 : decode cX0_seek 127 = .ok (.iload_n 3, 1) := by decide +kernel
theorem dX0_seek_128 : decode cX0_seek 128 = .ok (.iconst 1, 1) := by decide +kernel
theorem dX0_seek_129 : decode cX0_seek 129 = .ok (.aload_n 0, 1) := by decide +kernel
theorem dX0_seek_130 : decode cX0_seek 130 = .ok (.getfield 9, 3) := by decide +kernel
theorem dX0_seek_133 : decode cX0_seek 133 = .ok (.iload 4, 2) := by decide +kernel
theorem dX0_seek_135 : decode cX0_seek 135 = .ok (.iaload, 1) := by decide +kernel
theorem dX0_seek_136 : decode cX0_seek 136 = .ok (.ishl, 1) := by decide +kernel
theorem dX0_seek_137 : decode cX0_seek 137 = .ok (.ior, 1) := by decide +kernel
theorem dX0_seek_138 : decode cX0_seek 138 = .ok (.istore_n 3, 1) := by decide +kernel
theorem dX0_seek_139 : decode cX0_seek 139 = .ok (.iinc 4 1, 3) := by decide +kernel
theorem dX0_seek_142 : decode cX0_seek 142 = .ok (.goto (-37), 3) := by decide +kernel
theorem dX0_seek_145 : decode cX0_seek 145 = .ok (.return_, 1) := by decide +kernel
set_option maxRecDepth 20000 in
theorem ggX0_bestTown_X0_withTown : GoodIn wsX0_bestTown wsX0_withTown := goodIn_r _ [6, 1, 7, 8, 9, 10, 11, 12, 13, 14, 15, 16, 17, 18, 19, 20, 21, 22, 23, 24, 25, 26, 27, 28, 29, 30, 31, 32, 33, 34] (by decide +kernel) (by decide +kernel)
set_option maxRecDepth 20000 in
theorem gX0_bestTown_X0_withTown : GoodIn wsX0_bestTown (wsV RX0 48 RX0 yX0_withTown wsX0_withTown) := goodIn_app (goodIn_of _ (by decide +kernel)) ggX0_bestTown_X0_withTown
theorem dX0_bestTown_0 : decode cX0_bestTown 0 = .ok (.iconst (-1), 1) := by decide +kernel
theorem dX0_bestTown_1 : decode cX0_bestTown 1 = .ok (.istore_n 3, 1) := by decide +kernel
theorem dX0_bestTown_2 : decode cX0_bestTown 2 = .ok (.iconst 0, 1) := by decide +kernel
theorem dX0_bestTown_3 : decode cX0_bestTown 3 = .ok (.istore 4, 2) := by decide +kernel
theorem dX0_bestTown_5 : decode cX0_bestTown 5 = .ok (.iconst 0, 1) := by decide +kernel
theorem dX0_bestTown_6 : decode cX0_bestTown 6 = .ok (.istore 5, 2) := by decide +kernel
theorem dX0_bestTown_8 : decode cX0_bestTown 8 = .ok (.iload 5, 2) := by decide +kernel
theorem dX0_bestTown_10 : decode cX0_bestTown 10 = .ok (.aload_n 1, 1) := by decide +kernel
theorem dX0_bestTown_11 : decode cX0_bestTown 11 = .ok (.getfield 21, 3) := by decide +kernel
theorem dX0_bestTown_14 : decode cX0_bestTown 14 = .ok (.if_icmp .ge 47, 3) := by decide +kernel
theorem dX0_bestTown_17 : decode cX0_bestTown 17 = .ok (.iload_n 2, 1) := by decide +kernel
theorem dX0_bestTown_18 : decode cX0_bestTown 18 = .ok (.iload 5, 2) := by decide +kernel
theorem dX0_bestTown_20 : decode cX0_bestTown 20 = .ok (.ishr, 1) := by decide +kernel
theorem dX0_bestTown_21 : decode cX0_bestTown 21 = .ok (.iconst 1, 1) := by decide +kernel
theorem dX0_bestTown_22 : decode cX0_bestTown 22 = .ok (.iand, 1) := by decide +kernel
theorem dX0_bestTown_23 : decode cX0_bestTown 23 = .ok (.ifCond .ne 32, 3) := by decide +kernel
theorem dX0_bestTown_26 : decode cX0_bestTown 26 = .ok (.aload_n 0, 1) := by decide +kernel
theorem dX0_bestTown_27 : decode cX0_bestTown 27 = .ok (.aload_n 1, 1) := by decide +kernel
theorem dX0_bestTown_28 : decode cX0_bestTown 28 = .ok (.iload_n 2, 1) := by decide +kernel
theorem dX0_bestTown_29 : decode cX0_bestTown 29 = .ok (.iload 5, 2) := by decide +kernel
theorem dX0_bestTown_31 : decode cX0_bestTown 31 = .ok (.invokevirtual 48, 3) := by decide +kernel
theorem dX0_bestTown_34 : decode cX0_bestTown 34 = .ok (.istore 6, 2) := by decide +kernel
theorem dX0_bestTown_36 : decode cX0_bestTown 36 = .ok (.iload_n 3, 1) := by decide +kernel
theorem dX0_bestTown_37 : decode cX0_bestTown 37 = .ok (.iconst (-1), 1) := by decide +kernel
theorem dX0_bestTown_38 : decode cX0_bestTown 38 = .ok (.if_icmp .eq 10, 3) := by decide +kernel
theorem dX0_bestTown_41 : decode cX0_bestTown 41 = .ok (.iload 6, 2) := by decide +kernel
theorem dX0_bestTown_43 : decode cX0_bestTown 43 = .ok (.iload 4, 2) := by decide +kernel
theorem dX0_bestTown_45 : decode cX0_bestTown 45 = .ok (.if_icmp .ge 10, 3) := by decide +kernel
theorem dX0_bestTown_48 : decode cX0_bestTown 48 = .ok (.iload 5, 2) := by decide +kernel
theorem dX0_bestTown_50 : decode cX0_bestTown 50 = .ok (.istore_n 3, 1) := by decide +kernel
theorem dX0_bestTown_51 : decode cX0_bestTown 51 = .ok (.iload 6, 2) := by decide +kernel
theorem dX0_bestTown_53 : decode cX0_bestTown 53 = .ok (.istore 4, 2) := by decide +kernel
theorem dX0_bestTown_55 : decode cX0_bestTown 55 = .ok (.iinc 5 1, 3) := by decide +kernel
theorem dX0_bestTown_58 : decode cX0_bestTown 58 = .ok (.goto (-50), 3) := by decide +kernel
theorem dX0_bestTown_61 : decode cX0_bestTown 61 = .ok (.iload_n 3, 1) := by decide +kernel
theorem dX0_bestTown_62 : decode cX0_bestTown 62 = .ok (.iconst (-1), 1) := by decide +kernel
theorem dX0_bestTown_63 : decode cX0_bestTown 63 = .ok (.if_icmp .ne 7, 3) := by decide +kernel
theorem dX0_bestTown_66 : decode cX0_bestTown 66 = .ok (.iconst 0, 1) := by decide +kernel
theorem dX0_bestTown_67 : decode cX0_bestTown 67 = .ok (.goto 4, 3) := by decide +kernel
theorem dX0_bestTown_70 : decode cX0_bestTown 70 = .ok (.iload_n 3, 1) := by decide +kernel
theorem dX0_bestTown_71 : decode cX0_bestTown 71 = .ok (.ireturn, 1) := by decide +kernel
set_option maxRecDepth 20000 in
theorem ggX0_withTown_J6_bitCount_0f7a4 : GoodIn wsX0_withTown wsJ6_bitCount_0f7a4 := goodIn_r _ [7, 8, 9, 10] (by decide +kernel) (by decide +kernel)
set_option maxRecDepth 20000 in
theorem gX0_withTown_J6_bitCount_0f7a4 : GoodIn wsX0_withTown (va_wsS RX0 55 yJ6_bitCount_0f7a4 wsJ6_bitCount_0f7a4) := goodIn_app (goodIn_of _ (by decide +kernel)) ggX0_withTown_J6_bitCount_0f7a4
set_option maxRecDepth 20000 in
theorem ggX0_withTown_X2_oftenOf : GoodIn wsX0_withTown wsX2_oftenOf := goodIn_r _ [15, 16, 17, 18, 19, 14, 20, 21, 22, 23, 24, 25] (by decide +kernel) (by decide +kernel)
set_option maxRecDepth 20000 in
theorem gX0_withTown_X2_oftenOf : GoodIn wsX0_withTown (wsV RX0 60 RX2 yX2_oftenOf wsX2_oftenOf) := goodIn_app (goodIn_of _ (by decide +kernel)) ggX0_withTown_X2_oftenOf
theorem dX0_withTown_0 : decode cX0_withTown 0 = .ok (.iload_n 2, 1) := by decide +kernel
theorem dX0_withTown_1 : decode cX0_withTown 1 = .ok (.invokestatic 55, 3) := by decide +kernel
theorem dX0_withTown_4 : decode cX0_withTown 4 = .ok (.istore 4, 2) := by decide +kernel
theorem dX0_withTown_6 : decode cX0_withTown 6 = .ok (.iload_n 2, 1) := by decide +kernel
theorem dX0_withTown_7 : decode cX0_withTown 7 = .ok (.iconst 1, 1) := by decide +kernel
theorem dX0_withTown_8 : decode cX0_withTown 8 = .ok (.iload_n 3, 1) := by decide +kernel
theorem dX0_withTown_9 : decode cX0_withTown 9 = .ok (.ishl, 1) := by decide +kernel
theorem dX0_withTown_10 : decode cX0_withTown 10 = .ok (.ior, 1) := by decide +kernel
theorem dX0_withTown_11 : decode cX0_withTown 11 = .ok (.istore 5, 2) := by decide +kernel
theorem dX0_withTown_13 : decode cX0_withTown 13 = .ok (.iload 4, 2) := by decide +kernel
theorem dX0_withTown_15 : decode cX0_withTown 15 = .ok (.aload_n 1, 1) := by decide +kernel
theorem dX0_withTown_16 : decode cX0_withTown 16 = .ok (.getfield 21, 3) := by decide +kernel
theorem dX0_withTown_19 : decode cX0_withTown 19 = .ok (.if_icmp .ge 13, 3) := by decide +kernel
theorem dX0_withTown_22 : decode cX0_withTown 22 = .ok (.iload 5, 2) := by decide +kernel
theorem dX0_withTown_24 : decode cX0_withTown 24 = .ok (.aload_n 0, 1) := by decide +kernel
theorem dX0_withTown_25 : decode cX0_withTown 25 = .ok (.getfield 18, 3) := by decide +kernel
theorem dX0_withTown_28 : decode cX0_withTown 28 = .ok (.arraylength, 1) := by decide +kernel
theorem dX0_withTown_29 : decode cX0_withTown 29 = .ok (.if_icmp .lt 5, 3) := by decide +kernel
theorem dX0_withTown_32 : decode cX0_withTown 32 = .ok (.iconst 0, 1) := by decide +kernel
theorem dX0_withTown_33 : decode cX0_withTown 33 = .ok (.ireturn, 1) := by decide +kernel
theorem dX0_withTown_34 : decode cX0_withTown 34 = .ok (.aload_n 1, 1) := by decide +kernel
theorem dX0_withTown_35 : decode cX0_withTown 35 = .ok (.iload_n 3, 1) := by decide +kernel
theorem dX0_withTown_36 : decode cX0_withTown 36 = .ok (.invokevirtual 60, 3) := by decide +kernel
theorem dX0_withTown_39 : decode cX0_withTown 39 = .ok (.aload_n 0, 1) := by decide +kernel
theorem dX0_withTown_40 : decode cX0_withTown 40 = .ok (.getfield 15, 3) := by decide +kernel
theorem dX0_withTown_43 : decode cX0_withTown 43 = .ok (.iload 4, 2) := by decide +kernel
theorem dX0_withTown_45 : decode cX0_withTown 45 = .ok (.iaload, 1) := by decide +kernel
theorem dX0_withTown_46 : decode cX0_withTown 46 = .ok (.imul, 1) := by decide +kernel
theorem dX0_withTown_47 : decode cX0_withTown 47 = .ok (.aload_n 0, 1) := by decide +kernel
theorem dX0_withTown_48 : decode cX0_withTown 48 = .ok (.getfield 18, 3) := by decide +kernel
theorem dX0_withTown_51 : decode cX0_withTown 51 = .ok (.iload 5, 2) := by decide +kernel
theorem dX0_withTown_53 : decode cX0_withTown 53 = .ok (.iaload, 1) := by decide +kernel
theorem dX0_withTown_54 : decode cX0_withTown 54 = .ok (.iadd, 1) := by decide +kernel
theorem dX0_withTown_55 : decode cX0_withTown 55 = .ok (.ireturn, 1) := by decide +kernel
set_option maxRecDepth 20000 in
theorem ggX0_exchangesFrom_X4_hookOf : GoodIn wsX0_exchangesFrom wsX4_hookOf := goodIn_r _ [6, 7, 12, 13, 14, 15, 16, 17, 18, 19] (by decide +kernel) (by decide +kernel)
set_option maxRecDepth 20000 in
theorem gX0_exchangesFrom_X4_hookOf : GoodIn wsX0_exchangesFrom (wsV RX0 63 RX4 yX4_hookOf wsX4_hookOf) := goodIn_app (goodIn_of _ (by decide +kernel)) ggX0_exchangesFrom_X4_hookOf
theorem dX0_exchangesFrom_0 : decode cX0_exchangesFrom 0 = .ok (.iconst 0, 1) := by decide +kernel
theorem dX0_exchangesFrom_1 : decode cX0_exchangesFrom 1 = .ok (.istore_n 3, 1) := by decide +kernel
theorem dX0_exchangesFrom_2 : decode cX0_exchangesFrom 2 = .ok (.iconst 0, 1) := by decide +kernel
theorem dX0_exchangesFrom_3 : decode cX0_exchangesFrom 3 = .ok (.istore 4, 2) := by decide +kernel
theorem dX0_exchangesFrom_5 : decode cX0_exchangesFrom 5 = .ok (.iconst 0, 1) := by decide +kernel
theorem dX0_exchangesFrom_6 : decode cX0_exchangesFrom 6 = .ok (.istore 5, 2) := by decide +kernel
theorem dX0_exchangesFrom_8 : decode cX0_exchangesFrom 8 = .ok (.iload 5, 2) := by decide +kernel
theorem dX0_exchangesFrom_10 : decode cX0_exchangesFrom 10 = .ok (.iload_n 2, 1) := by decide +kernel
theorem dX0_exchangesFrom_11 : decode cX0_exchangesFrom 11 = .ok (.if_icmp .ge 79, 3) := by decide +kernel
theorem dX0_exchangesFrom_14 : decode cX0_exchangesFrom 14 = .ok (.iload 4, 2) := by decide +kernel
theorem dX0_exchangesFrom_16 : decode cX0_exchangesFrom 16 = .ok (.iload 5, 2) := by decide +kernel
theorem dX0_exchangesFrom_18 : decode cX0_exchangesFrom 18 = .ok (.ishr, 1) := by decide +kernel
theorem dX0_exchangesFrom_19 : decode cX0_exchangesFrom 19 = .ok (.iconst 1, 1) := by decide +kernel
theorem dX0_exchangesFrom_20 : decode cX0_exchangesFrom 20 = .ok (.iand, 1) := by decide +kernel
theorem dX0_exchangesFrom_21 : decode cX0_exchangesFrom 21 = .ok (.ifCond .ne 6, 3) := by decide +kernel
theorem dX0_exchangesFrom_24 : decode cX0_exchangesFrom 24 = .ok (.iinc 3 1, 3) := by decide +kernel
theorem dX0_exchangesFrom_27 : decode cX0_exchangesFrom 27 = .ok (.iload 5, 2) := by decide +kernel
theorem dX0_exchangesFrom_29 : decode cX0_exchangesFrom 29 = .ok (.istore 6, 2) := by decide +kernel
theorem dX0_exchangesFrom_31 : decode cX0_exchangesFrom 31 = .ok (.iconst 0, 1) := by decide +kernel
theorem dX0_exchangesFrom_32 : decode cX0_exchangesFrom 32 = .ok (.istore 7, 2) := by decide +kernel
theorem dX0_exchangesFrom_34 : decode cX0_exchangesFrom 34 = .ok (.iload 7, 2) := by decide +kernel
theorem dX0_exchangesFrom_36 : decode cX0_exchangesFrom 36 = .ok (.iload_n 2, 1) := by decide +kernel
theorem dX0_exchangesFrom_37 : decode cX0_exchangesFrom 37 = .ok (.if_icmp .ge 47, 3) := by decide +kernel
theorem dX0_exchangesFrom_40 : decode cX0_exchangesFrom 40 = .ok (.iload 6, 2) := by decide +kernel
theorem dX0_exchangesFrom_42 : decode cX0_exchangesFrom 42 = .ok (.iconst (-1), 1) := by decide +kernel
theorem dX0_exchangesFrom_43 : decode cX0_exchangesFrom 43 = .ok (.if_icmp .eq 41, 3) := by decide +kernel
theorem dX0_exchangesFrom_46 : decode cX0_exchangesFrom 46 = .ok (.iload 4, 2) := by decide +kernel
theorem dX0_exchangesFrom_48 : decode cX0_exchangesFrom 48 = .ok (.iload 6, 2) := by decide +kernel
theorem dX0_exchangesFrom_50 : decode cX0_exchangesFrom 50 = .ok (.ishr, 1) := by decide +kernel
theorem dX0_exchangesFrom_51 : decode cX0_exchangesFrom 51 = .ok (.iconst 1, 1) := by decide +kernel
theorem dX0_exchangesFrom_52 : decode cX0_exchangesFrom 52 = .ok (.iand, 1) := by decide +kernel
theorem dX0_exchangesFrom_53 : decode cX0_exchangesFrom 53 = .ok (.ifCond .ne 31, 3) := by decide +kernel
theorem dX0_exchangesFrom_56 : decode cX0_exchangesFrom 56 = .ok (.iload 4, 2) := by decide +kernel
theorem dX0_exchangesFrom_58 : decode cX0_exchangesFrom 58 = .ok (.iconst 1, 1) := by decide +kernel
theorem dX0_exchangesFrom_59 : decode cX0_exchangesFrom 59 = .ok (.iload 6, 2) := by decide +kernel
theorem dX0_exchangesFrom_61 : decode cX0_exchangesFrom 61 = .ok (.ishl, 1) := by decide +kernel
theorem dX0_exchangesFrom_62 : decode cX0_exchangesFrom 62 = .ok (.ior, 1) := by decide +kernel
theorem dX0_exchangesFrom_63 : decode cX0_exchangesFrom 63 = .ok (.istore 4, 2) := by decide +kernel
theorem dX0_exchangesFrom_65 : decode cX0_exchangesFrom 65 = .ok (.aload_n 1, 1) := by decide +kernel
theorem dX0_exchangesFrom_66 : decode cX0_exchangesFrom 66 = .ok (.aload_n 0, 1) := by decide +kernel
theorem dX0_exchangesFrom_67 : decode cX0_exchangesFrom 67 = .ok (.getfield 9, 3) := by decide +kernel
theorem dX0_exchangesFrom_70 : decode cX0_exchangesFrom 70 = .ok (.iload 6, 2) := by decide +kernel
theorem dX0_exchangesFrom_72 : decode cX0_exchangesFrom 72 = .ok (.iaload, 1) := by decide +kernel
theorem dX0_exchangesFrom_73 : decode cX0_exchangesFrom 73 = .ok (.invokevirtual 63, 3) := by decide +kernel
theorem dX0_exchangesFrom_76 : decode cX0_exchangesFrom 76 = .ok (.istore 6, 2) := by decide +kernel
theorem dX0_exchangesFrom_78 : decode cX0_exchangesFrom 78 = .ok (.iinc 7 1, 3) := by decide +kernel
theorem dX0_exchangesFrom_81 : decode cX0_exchangesFrom 81 = .ok (.goto (-47), 3) := by decide +kernel
theorem dX0_exchangesFrom_84 : decode cX0_exchangesFrom 84 = .ok (.iinc 5 1, 3) := by decide +kernel
theorem dX0_exchangesFrom_87 : decode cX0_exchangesFrom 87 = .ok (.goto (-79), 3) := by decide +kernel
theorem dX0_exchangesFrom_90 : decode cX0_exchangesFrom 90 = .ok (.iload_n 2, 1) := by decide +kernel
theorem dX0_exchangesFrom_91 : decode cX0_exchangesFrom 91 = .ok (.iload_n 3, 1) := by decide +kernel
theorem dX0_exchangesFrom_92 : decode cX0_exchangesFrom 92 = .ok (.isub, 1) := by decide +kernel
theorem dX0_exchangesFrom_93 : decode cX0_exchangesFrom 93 = .ok (.ireturn, 1) := by decide +kernel
theorem dX1_init_0 : decode cX1_init 0 = .ok (.aload_n 0, 1) := by decide +kernel
theorem dX1_init_1 : decode cX1_init 1 = .ok (.invokespecial 3, 3) := by decide +kernel
theorem dX1_init_4 : decode cX1_init 4 = .ok (.aload_n 0, 1) := by decide +kernel
theorem dX1_init_5 : decode cX1_init 5 = .ok (.bipush 24, 2) := by decide +kernel
theorem dX1_init_7 : decode cX1_init 7 = .ok (.newarray .int, 2) := by decide +kernel
theorem dX1_init_9 : decode cX1_init 9 = .ok (.putfield 9, 3) := by decide +kernel
theorem dX1_init_12 : decode cX1_init 12 = .ok (.return_, 1) := by decide +kernel
theorem dX1_add_0 : decode cX1_add 0 = .ok (.aload_n 0, 1) := by decide +kernel
theorem dX1_add_1 : decode cX1_add 1 = .ok (.getfield 15, 3) := by decide +kernel
theorem dX1_add_4 : decode cX1_add 4 = .ok (.ifCond .lt 35, 3) := by decide +kernel
theorem dX1_add_7 : decode cX1_add 7 = .ok (.aload_n 0, 1) := by decide +kernel
theorem dX1_add_8 : decode cX1_add 8 = .ok (.getfield 15, 3) := by decide +kernel
theorem dX1_add_11 : decode cX1_add 11 = .ok (.aload_n 0, 1) := by decide +kernel
theorem dX1_add_12 : decode cX1_add 12 = .ok (.getfield 9, 3) := by decide +kernel
theorem dX1_add_15 : decode cX1_add 15 = .ok (.arraylength, 1) := by decide +kernel
theorem dX1_add_16 : decode cX1_add 16 = .ok (.if_icmp .ge 23, 3) := by decide +kernel
theorem dX1_add_19 : decode cX1_add 19 = .ok (.aload_n 0, 1) := by decide +kernel
theorem dX1_add_20 : decode cX1_add 20 = .ok (.getfield 9, 3) := by decide +kernel
theorem dX1_add_23 : decode cX1_add 23 = .ok (.aload_n 0, 1) := by decide +kernel
theorem dX1_add_24 : decode cX1_add 24 = .ok (.getfield 15, 3) := by decide +kernel
theorem dX1_add_27 : decode cX1_add 27 = .ok (.iload_n 1, 1) := by decide +kernel
theorem dX1_add_28 : decode cX1_add 28 = .ok (.iastore, 1) := by decide +kernel
theorem dX1_add_29 : decode cX1_add 29 = .ok (.aload_n 0, 1) := by decide +kernel
theorem dX1_add_30 : decode cX1_add 30 = .ok (.dup, 1) := by decide +kernel
theorem dX1_add_31 : decode cX1_add 31 = .ok (.getfield 15, 3) := by decide +kernel
theorem dX1_add_34 : decode cX1_add 34 = .ok (.iconst 1, 1) := by decide +kernel
theorem dX1_add_35 : decode cX1_add 35 = .ok (.iadd, 1) := by decide +kernel
theorem dX1_add_36 : decode cX1_add 36 = .ok (.putfield 15, 3) := by decide +kernel
theorem dX1_add_39 : decode cX1_add 39 = .ok (.return_, 1) := by decide +kernel
theorem dX1_codeAt_0 : decode cX1_codeAt 0 = .ok (.iload_n 1, 1) := by decide +kernel
theorem dX1_codeAt_1 : decode cX1_codeAt 1 = .ok (.ifCond .lt 20, 3) := by decide +kernel
theorem dX1_codeAt_4 : decode cX1_codeAt 4 = .ok (.iload_n 1, 1) := by decide +kernel
theorem dX1_codeAt_5 : decode cX1_codeAt 5 = .ok (.aload_n 0, 1) := by decide +kernel
theorem dX1_codeAt_6 : decode cX1_codeAt 6 = .ok (.getfield 15, 3) := by decide +kernel
theorem dX1_codeAt_9 : decode cX1_codeAt 9 = .ok (.if_icmp .ge 12, 3) := by decide +kernel
theorem dX1_codeAt_12 : decode cX1_codeAt 12 = .ok (.aload_n 0, 1) := by decide +kernel
theorem dX1_codeAt_13 : decode cX1_codeAt 13 = .ok (.getfield 9, 3) := by decide +kernel
theorem dX1_codeAt_16 : decode cX1_codeAt 16 = .ok (.iload_n 1, 1) := by decide +kernel
theorem dX1_codeAt_17 : decode cX1_codeAt 17 = .ok (.iaload, 1) := by decide +kernel
theorem dX1_codeAt_18 : decode cX1_codeAt 18 = .ok (.goto 4, 3) := by decide +kernel
theorem dX1_codeAt_21 : decode cX1_codeAt 21 = .ok (.iconst 0, 1) := by decide +kernel
theorem dX1_codeAt_22 : decode cX1_codeAt 22 = .ok (.ireturn, 1) := by decide +kernel
set_option maxRecDepth 20000 in
theorem ggX1_digitAt_X1_codeAt : GoodIn wsX1_digitAt wsX1_codeAt := goodIn_r _ [5, 6, 7, 8, 9] (by decide +kernel) (by decide +kernel)
set_option maxRecDepth 20000 in
theorem gX1_digitAt_X1_codeAt : GoodIn wsX1_digitAt (wsV RX1 19 RX1 yX1_codeAt wsX1_codeAt) := goodIn_app (goodIn_of _ (by decide +kernel)) ggX1_digitAt_X1_codeAt
theorem dX1_digitAt_0 : decode cX1_digitAt 0 = .ok (.aload_n 0, 1) := by decide +kernel
theorem dX1_digitAt_1 : decode cX1_digitAt 1 = .ok (.iload_n 1, 1) := by decide +kernel
theorem dX1_digitAt_2 : decode cX1_digitAt 2 = .ok (.invokevirtual 19, 3) := by decide +kernel
theorem dX1_digitAt_5 : decode cX1_digitAt 5 = .ok (.bipush 48, 2) := by decide +kernel
theorem dX1_digitAt_7 : decode cX1_digitAt 7 = .ok (.isub, 1) := by decide +kernel
theorem dX1_digitAt_8 : decode cX1_digitAt 8 = .ok (.ireturn, 1) := by decide +kernel
set_option maxRecDepth 20000 in
theorem ggX1_hooksTold_X1_codeAt : GoodIn wsX1_hooksTold wsX1_codeAt := goodIn_r _ [6, 1, 7, 8, 9] (by decide +kernel) (by decide +kernel)
set_option maxRecDepth 20000 in
theorem gX1_hooksTold_X1_codeAt : GoodIn wsX1_hooksTold (wsV RX1 19 RX1 yX1_codeAt wsX1_codeAt) := goodIn_app (goodIn_of _ (by decide +kernel)) ggX1_hooksTold_X1_codeAt
theorem dX1_hooksTold_0 : decode cX1_hooksTold 0 = .ok (.iconst 0, 1) := by decide +kernel
theorem dX1_hooksTold_1 : decode cX1_hooksTold 1 = .ok (.istore_n 1, 1) := by decide +kernel
theorem dX1_hooksTold_2 : decode cX1_hooksTold 2 = .ok (.iload_n 1, 1) := by decide +kernel
theorem dX1_hooksTold_3 : decode cX1_hooksTold 3 = .ok (.aload_n 0, 1) := by decide +kernel
theorem dX1_hooksTold_4 : decode cX1_hooksTold 4 = .ok (.getfield 15, 3) := by decide +kernel
theorem dX1_hooksTold_7 : decode cX1_hooksTold 7 = .ok (.if_icmp .ge 25, 3) := by decide +kernel
theorem dX1_hooksTold_10 : decode cX1_hooksTold 10 = .ok (.aload_n 0, 1) := by decide +kernel
theorem dX1_hooksTold_11 : decode cX1_hooksTold 11 = .ok (.iload_n 1, 1) := by decide +kernel
theorem dX1_hooksTold_12 : decode cX1_hooksTold 12 = .ok (.invokevirtual 19, 3) := by decide +kernel
theorem dX1_hooksTold_15 : decode cX1_hooksTold 15 = .ok (.bipush 59, 2) := by decide +kernel
theorem dX1_hooksTold_17 : decode cX1_hooksTold 17 = .ok (.if_icmp .ne 9, 3) := by decide +kernel
theorem dX1_hooksTold_20 : decode cX1_hooksTold 20 = .ok (.iload_n 1, 1) := by decide +kernel
theorem dX1_hooksTold_21 : decode cX1_hooksTold 21 = .ok (.iconst 1, 1) := by decide +kernel
theorem dX1_hooksTold_22 : decode cX1_hooksTold 22 = .ok (.iadd, 1) := by decide +kernel
theorem dX1_hooksTold_23 : decode cX1_hooksTold 23 = .ok (.iconst 3, 1) := by decide +kernel
theorem dX1_hooksTold_24 : decode cX1_hooksTold 24 = .ok (.idiv, 1) := by decide +kernel
theorem dX1_hooksTold_25 : decode cX1_hooksTold 25 = .ok (.ireturn, 1) := by decide +kernel
theorem dX1_hooksTold_26 : decode cX1_hooksTold 26 = .ok (.iinc 1 1, 3) := by decide +kernel
theorem dX1_hooksTold_29 : decode cX1_hooksTold 29 = .ok (.goto (-27), 3) := by decide +kernel
theorem dX1_hooksTold_32 : decode cX1_hooksTold 32 = .ok (.iconst 0, 1) := by decide +kernel
theorem dX1_hooksTold_33 : decode cX1_hooksTold 33 = .ok (.ireturn, 1) := by decide +kernel
set_option maxRecDepth 20000 in
theorem ggX1_isFloor_X1_hooksTold : GoodIn wsX1_isFloor wsX1_hooksTold := goodIn_r _ [6, 1, 7, 8, 9, 5, 10, 11, 19, 20] (by decide +kernel) (by decide +kernel)
set_option maxRecDepth 20000 in
theorem gX1_isFloor_X1_hooksTold : GoodIn wsX1_isFloor (wsV RX1 23 RX1 yX1_hooksTold wsX1_hooksTold) := goodIn_app (goodIn_of _ (by decide +kernel)) ggX1_isFloor_X1_hooksTold
set_option maxRecDepth 20000 in
theorem ggX1_isFloor_X1_firstWrong : GoodIn wsX1_isFloor wsX1_firstWrong := goodIn_r _ [15, 1, 7, 8, 9, 5, 10, 11, 16, 17, 18, 19, 20] (by decide +kernel) (by decide +kernel)
set_option maxRecDepth 20000 in
theorem gX1_isFloor_X1_firstWrong : GoodIn wsX1_isFloor (wsV RX1 27 RX1 yX1_firstWrong wsX1_firstWrong) := goodIn_app (goodIn_of _ (by decide +kernel)) ggX1_isFloor_X1_firstWrong
theorem dX1_isFloor_0 : decode cX1_isFloor 0 = .ok (.aload_n 0, 1) := by decide +kernel
theorem dX1_isFloor_1 : decode cX1_isFloor 1 = .ok (.invokevirtual 23, 3) := by decide +kernel
theorem dX1_isFloor_4 : decode cX1_isFloor 4 = .ok (.istore_n 1, 1) := by decide +kernel
theorem dX1_isFloor_5 : decode cX1_isFloor 5 = .ok (.iload_n 1, 1) := by decide +kernel
theorem dX1_isFloor_6 : decode cX1_isFloor 6 = .ok (.ifCond .le 28, 3) := by decide +kernel
theorem dX1_isFloor_9 : decode cX1_isFloor 9 = .ok (.aload_n 0, 1) := by decide +kernel
theorem dX1_isFloor_10 : decode cX1_isFloor 10 = .ok (.getfield 15, 3) := by decide +kernel
theorem dX1_isFloor_13 : decode cX1_isFloor 13 = .ok (.iconst 4, 1) := by decide +kernel
theorem dX1_isFloor_14 : decode cX1_isFloor 14 = .ok (.iload_n 1, 1) := by decide +kernel
theorem dX1_isFloor_15 : decode cX1_isFloor 15 = .ok (.imul, 1) := by decide +kernel
theorem dX1_isFloor_16 : decode cX1_isFloor 16 = .ok (.if_icmp .ne 18, 3) := by decide +kernel
theorem dX1_isFloor_19 : decode cX1_isFloor 19 = .ok (.aload_n 0, 1) := by decide +kernel
theorem dX1_isFloor_20 : decode cX1_isFloor 20 = .ok (.invokevirtual 27, 3) := by decide +kernel
theorem dX1_isFloor_23 : decode cX1_isFloor 23 = .ok (.aload_n 0, 1) := by decide +kernel
theorem dX1_isFloor_24 : decode cX1_isFloor 24 = .ok (.getfield 15, 3) := by decide +kernel
theorem dX1_isFloor_27 : decode cX1_isFloor 27 = .ok (.if_icmp .ne 7, 3) := by decide +kernel
theorem dX1_isFloor_30 : decode cX1_isFloor 30 = .ok (.iconst 1, 1) := by decide +kernel
theorem dX1_isFloor_31 : decode cX1_isFloor 31 = .ok (.goto 4, 3) := by decide +kernel
theorem dX1_isFloor_34 : decode cX1_isFloor 34 = .ok (.iconst 0, 1) := by decide +kernel
theorem dX1_isFloor_35 : decode cX1_isFloor 35 = .ok (.ireturn, 1) := by decide +kernel
set_option maxRecDepth 20000 in
theorem ggX1_firstWrong_X1_codeAt : GoodIn wsX1_firstWrong wsX1_codeAt := goodIn_r _ [6, 1, 7, 11, 12] (by decide +kernel) (by decide +kernel)
set_option maxRecDepth 20000 in
theorem gX1_firstWrong_X1_codeAt : GoodIn wsX1_firstWrong (wsV RX1 19 RX1 yX1_codeAt wsX1_codeAt) := goodIn_app (goodIn_of _ (by decide +kernel)) ggX1_firstWrong_X1_codeAt
set_option maxRecDepth 20000 in
theorem ggX1_firstWrong_X1_canTellOfHooks : GoodIn wsX1_firstWrong wsX1_canTellOfHooks := goodIn_r _ [10] (by decide +kernel) (by decide +kernel)
set_option maxRecDepth 20000 in
theorem gX1_firstWrong_X1_canTellOfHooks : GoodIn wsX1_firstWrong (va_wsS RX1 30 yX1_canTellOfHooks wsX1_canTellOfHooks) := goodIn_app (goodIn_of _ (by decide +kernel)) ggX1_firstWrong_X1_canTellOfHooks
theorem dX1_firstWrong_0 : decode cX1_firstWrong 0 = .ok (.iconst 0, 1) := by decide +kernel
theorem dX1_firstWrong_1 : decode cX1_firstWrong 1 = .ok (.istore_n 1, 1) := by decide +kernel
theorem dX1_firstWrong_2 : decode cX1_firstWrong 2 = .ok (.iconst 0, 1) := by decide +kernel
theorem dX1_firstWrong_3 : decode cX1_firstWrong 3 = .ok (.istore_n 2, 1) := by decide +kernel
theorem dX1_firstWrong_4 : decode cX1_firstWrong 4 = .ok (.iload_n 2, 1) := by decide +kernel
theorem dX1_firstWrong_5 : decode cX1_firstWrong 5 = .ok (.aload_n 0, 1) := by decide +kernel
theorem dX1_firstWrong_6 : decode cX1_firstWrong 6 = .ok (.getfield 15, 3) := by decide +kernel
theorem dX1_firstWrong_9 : decode cX1_firstWrong 9 = .ok (.if_icmp .ge 62, 3) := by decide +kernel
theorem dX1_firstWrong_12 : decode cX1_firstWrong 12 = .ok (.aload_n 0, 1) := by decide +kernel
theorem dX1_firstWrong_13 : decode cX1_firstWrong 13 = .ok (.iload_n 2, 1) := by decide +kernel
theorem dX1_firstWrong_14 : decode cX1_firstWrong 14 = .ok (.invokevirtual 19, 3) := by decide +kernel
theorem dX1_firstWrong_17 : decode cX1_firstWrong 17 = .ok (.istore_n 3, 1) := by decide +kernel
theorem dX1_firstWrong_18 : decode cX1_firstWrong 18 = .ok (.iload_n 1, 1) := by decide +kernel
theorem dX1_firstWrong_19 : decode cX1_firstWrong 19 = .ok (.ifCond .le 24, 3) := by decide +kernel
theorem dX1_firstWrong_22 : decode cX1_firstWrong 22 = .ok (.iload_n 2, 1) := by decide +kernel
theorem dX1_firstWrong_23 : decode cX1_firstWrong 23 = .ok (.iconst 4, 1) := by decide +kernel
theorem dX1_firstWrong_24 : decode cX1_firstWrong 24 = .ok (.iload_n 1, 1) := by decide +kernel
theorem dX1_firstWrong_25 : decode cX1_firstWrong 25 = .ok (.imul, 1) := by decide +kernel
theorem dX1_firstWrong_26 : decode cX1_firstWrong 26 = .ok (.if_icmp .ge 15, 3) := by decide +kernel
theorem dX1_firstWrong_29 : decode cX1_firstWrong 29 = .ok (.iload_n 3, 1) := by decide +kernel
theorem dX1_firstWrong_30 : decode cX1_firstWrong 30 = .ok (.bipush 48, 2) := by decide +kernel
theorem dX1_firstWrong_32 : decode cX1_firstWrong 32 = .ok (.if_icmp .lt 9, 3) := by decide +kernel
theorem dX1_firstWrong_35 : decode cX1_firstWrong 35 = .ok (.iload_n 3, 1) := by decide +kernel
theorem dX1_firstWrong_36 : decode cX1_firstWrong 36 = .ok (.bipush 57, 2) := by decide +kernel
theorem dX1_firstWrong_38 : decode cX1_firstWrong 38 = .ok (.if_icmp .le 27, 3) := by decide +kernel
theorem dX1_firstWrong_41 : decode cX1_firstWrong 41 = .ok (.iload_n 2, 1) := by decide +kernel
theorem dX1_firstWrong_42 : decode cX1_firstWrong 42 = .ok (.ireturn, 1) := by decide +kernel
theorem dX1_firstWrong_43 : decode cX1_firstWrong 43 = .ok (.iload_n 2, 1) := by decide +kernel
theorem dX1_firstWrong_44 : decode cX1_firstWrong 44 = .ok (.iload_n 3, 1) := by decide +kernel
theorem dX1_firstWrong_45 : decode cX1_firstWrong 45 = .ok (.invokestatic 30, 3) := by decide +kernel
theorem dX1_firstWrong_48 : decode cX1_firstWrong 48 = .ok (.ifCond .ne 5, 3) := by decide +kernel
theorem dX1_firstWrong_51 : decode cX1_firstWrong 51 = .ok (.iload_n 2, 1) := by decide +kernel
theorem dX1_firstWrong_52 : decode cX1_firstWrong 52 = .ok (.ireturn, 1) := by decide +kernel
theorem dX1_firstWrong_53 : decode cX1_firstWrong 53 = .ok (.iload_n 3, 1) := by decide +kernel
theorem dX1_firstWrong_54 : decode cX1_firstWrong 54 = .ok (.bipush 59, 2) := by decide +kernel
theorem dX1_firstWrong_56 : decode cX1_firstWrong 56 = .ok (.if_icmp .ne 9, 3) := by decide +kernel
theorem dX1_firstWrong_59 : decode cX1_firstWrong 59 = .ok (.iload_n 2, 1) := by decide +kernel
theorem dX1_firstWrong_60 : decode cX1_firstWrong 60 = .ok (.iconst 1, 1) := by decide +kernel
theorem dX1_firstWrong_61 : decode cX1_firstWrong 61 = .ok (.iadd, 1) := by decide +kernel
theorem dX1_firstWrong_62 : decode cX1_firstWrong 62 = .ok (.iconst 3, 1) := by decide +kernel
theorem dX1_firstWrong_63 : decode cX1_firstWrong 63 = .ok (.idiv, 1) := by decide +kernel
theorem dX1_firstWrong_64 : decode cX1_firstWrong 64 = .ok (.istore_n 1, 1) := by decide +kernel
theorem dX1_firstWrong_65 : decode cX1_firstWrong 65 = .ok (.iinc 2 1, 3) := by decide +kernel
theorem dX1_firstWrong_68 : decode cX1_firstWrong 68 = .ok (.goto (-64), 3) := by decide +kernel
theorem dX1_firstWrong_71 : decode cX1_firstWrong 71 = .ok (.aload_n 0, 1) := by decide +kernel
theorem dX1_firstWrong_72 : decode cX1_firstWrong 72 = .ok (.getfield 15, 3) := by decide +kernel
theorem dX1_firstWrong_75 : decode cX1_firstWrong 75 = .ok (.ireturn, 1) := by decide +kernel
theorem dX1_canTellOfHooks_0 : decode cX1_canTellOfHooks 0 = .ok (.iload_n 0, 1) := by decide +kernel
theorem dX1_canTellOfHooks_1 : decode cX1_canTellOfHooks 1 = .ok (.iconst 3, 1) := by decide +kernel
theorem dX1_canTellOfHooks_2 : decode cX1_canTellOfHooks 2 = .ok (.irem, 1) := by decide +kernel
theorem dX1_canTellOfHooks_3 : decode cX1_canTellOfHooks 3 = .ok (.ifCond .ne 21, 3) := by decide +kernel
theorem dX1_canTellOfHooks_6 : decode cX1_canTellOfHooks 6 = .ok (.iload_n 1, 1) := by decide +kernel
theorem dX1_canTellOfHooks_7 : decode cX1_canTellOfHooks 7 = .ok (.bipush 49, 2) := by decide +kernel
theorem dX1_canTellOfHooks_9 : decode cX1_canTellOfHooks 9 = .ok (.if_icmp .lt 13, 3) := by decide +kernel
theorem dX1_canTellOfHooks_12 : decode cX1_canTellOfHooks 12 = .ok (.iload_n 1, 1) := by decide +kernel
theorem dX1_canTellOfHooks_13 : decode cX1_canTellOfHooks 13 = .ok (.bipush 56, 2) := by decide +kernel
theorem dX1_canTellOfHooks_15 : decode cX1_canTellOfHooks 15 = .ok (.if_icmp .gt 7, 3) := by decide +kernel
theorem dX1_canTellOfHooks_18 : decode cX1_canTellOfHooks 18 = .ok (.iconst 1, 1) := by decide +kernel
theorem dX1_canTellOfHooks_19 : decode cX1_canTellOfHooks 19 = .ok (.goto 4, 3) := by decide +kernel
theorem dX1_canTellOfHooks_22 : decode cX1_canTellOfHooks 22 = .ok (.iconst 0, 1) := by decide +kernel
theorem dX1_canTellOfHooks_23 : decode cX1_canTellOfHooks 23 = .ok (.ireturn, 1) := by decide +kernel
theorem dX1_canTellOfHooks_24 : decode cX1_canTellOfHooks 24 = .ok (.iload_n 0, 1) := by decide +kernel
theorem dX1_canTellOfHooks_25 : decode cX1_canTellOfHooks 25 = .ok (.iconst 3, 1) := by decide +kernel
theorem dX1_canTellOfHooks_26 : decode cX1_canTellOfHooks 26 = .ok (.irem, 1) := by decide +kernel
theorem dX1_canTellOfHooks_27 : decode cX1_canTellOfHooks 27 = .ok (.iconst 1, 1) := by decide +kernel
theorem dX1_canTellOfHooks_28 : decode cX1_canTellOfHooks 28 = .ok (.if_icmp .ne 21, 3) := by decide +kernel
theorem dX1_canTellOfHooks_31 : decode cX1_canTellOfHooks 31 = .ok (.iload_n 1, 1) := by decide +kernel
theorem dX1_canTellOfHooks_32 : decode cX1_canTellOfHooks 32 = .ok (.bipush 49, 2) := by decide +kernel
theorem dX1_canTellOfHooks_34 : decode cX1_canTellOfHooks 34 = .ok (.if_icmp .lt 13, 3) := by decide +kernel
theorem dX1_canTellOfHooks_37 : decode cX1_canTellOfHooks 37 = .ok (.iload_n 1, 1) := by decide +kernel
theorem dX1_canTellOfHooks_38 : decode cX1_canTellOfHooks 38 = .ok (.bipush 57, 2) := by decide +kernel
theorem dX1_canTellOfHooks_40 : decode cX1_canTellOfHooks 40 = .ok (.if_icmp .gt 7, 3) := by decide +kernel
theorem dX1_canTellOfHooks_43 : decode cX1_canTellOfHooks 43 = .ok (.iconst 1, 1) := by decide +kernel
theorem dX1_canTellOfHooks_44 : decode cX1_canTellOfHooks 44 = .ok (.goto 4, 3) := by decide +kernel
theorem dX1_canTellOfHooks_47 : decode cX1_canTellOfHooks 47 = .ok (.iconst 0, 1) := by decide +kernel
theorem dX1_canTellOfHooks_48 : decode cX1_canTellOfHooks 48 = .ok (.ireturn, 1) := by decide +kernel
theorem dX1_canTellOfHooks_49 : decode cX1_canTellOfHooks 49 = .ok (.iload_n 0, 1) := by decide +kernel
theorem dX1_canTellOfHooks_50 : decode cX1_canTellOfHooks 50 = .ok (.iconst 1, 1) := by decide +kernel
theorem dX1_canTellOfHooks_51 : decode cX1_canTellOfHooks 51 = .ok (.iadd, 1) := by decide +kernel
theorem dX1_canTellOfHooks_52 : decode cX1_canTellOfHooks 52 = .ok (.iconst 3, 1) := by decide +kernel
theorem dX1_canTellOfHooks_53 : decode cX1_canTellOfHooks 53 = .ok (.idiv, 1) := by decide +kernel
theorem dX1_canTellOfHooks_54 : decode cX1_canTellOfHooks 54 = .ok (.istore_n 2, 1) := by decide +kernel
theorem dX1_canTellOfHooks_55 : decode cX1_canTellOfHooks 55 = .ok (.iload_n 1, 1) := by decide +kernel
theorem dX1_canTellOfHooks_56 : decode cX1_canTellOfHooks 56 = .ok (.bipush 44, 2) := by decide +kernel
theorem dX1_canTellOfHooks_58 : decode cX1_canTellOfHooks 58 = .ok (.if_icmp .ne 17, 3) := by decide +kernel
theorem dX1_canTellOfHooks_61 : decode cX1_canTellOfHooks 61 = .ok (.iload_n 2, 1) := by decide +kernel
theorem dX1_canTellOfHooks_62 : decode cX1_canTellOfHooks 62 = .ok (.bipush 6, 2) := by decide +kernel
theorem dX1_canTellOfHooks_64 : decode cX1_canTellOfHooks 64 = .ok (.if_icmp .ge 7, 3) := by decide +kernel
theorem dX1_canTellOfHooks_67 : decode cX1_canTellOfHooks 67 = .ok (.iconst 1, 1) := by decide +kernel
theorem dX1_canTellOfHooks_68 : decode cX1_canTellOfHooks 68 = .ok (.goto 23, 3) := by decide +kernel
theorem dX1_canTellOfHooks_71 : decode cX1_canTellOfHooks 71 = .ok (.iconst 0, 1) := by decide +kernel
theorem dX1_canTellOfHooks_72 : decode cX1_canTellOfHooks 72 = .ok (.goto 19, 3) := by decide +kernel
theorem dX1_canTellOfHooks_75 : decode cX1_canTellOfHooks 75 = .ok (.iload_n 1, 1) := by decide +kernel
theorem dX1_canTellOfHooks_76 : decode cX1_canTellOfHooks 76 = .ok (.bipush 59, 2) := by decide +kernel
theorem dX1_canTellOfHooks_78 : decode cX1_canTellOfHooks 78 = .ok (.if_icmp .ne 12, 3) := by decide +kernel
theorem dX1_canTellOfHooks_81 : decode cX1_canTellOfHooks 81 = .ok (.iload_n 2, 1) := by decide +kernel
theorem dX1_canTellOfHooks_82 : decode cX1_canTellOfHooks 82 = .ok (.iconst 3, 1) := by decide +kernel
theorem dX1_canTellOfHooks_83 : decode cX1_canTellOfHooks 83 = .ok (.if_icmp .lt 7, 3) := by decide +kernel
theorem dX1_canTellOfHooks_86 : decode cX1_canTellOfHooks 86 = .ok (.iconst 1, 1) := by decide +kernel
theorem dX1_canTellOfHooks_87 : decode cX1_canTellOfHooks 87 = .ok (.goto 4, 3) := by decide +kernel
theorem dX1_canTellOfHooks_90 : decode cX1_canTellOfHooks 90 = .ok (.iconst 0, 1) := by decide +kernel
theorem dX1_canTellOfHooks_91 : decode cX1_canTellOfHooks 91 = .ok (.ireturn, 1) := by decide +kernel
theorem dX2_init_0 : decode cX2_init 0 = .ok (.aload_n 0, 1) := by decide +kernel
theorem dX2_init_1 : decode cX2_init 1 = .ok (.invokespecial 3, 3) := by decide +kernel
theorem dX2_init_4 : decode cX2_init 4 = .ok (.aload_n 0, 1) := by decide +kernel
theorem dX2_init_5 : decode cX2_init 5 = .ok (.bipush 6, 2) := by decide +kernel
theorem dX2_init_7 : decode cX2_init 7 = .ok (.newarray .int, 2) := by decide +kernel
theorem dX2_init_9 : decode cX2_init 9 = .ok (.putfield 9, 3) := by decide +kernel
theorem dX2_init_12 : decode cX2_init 12 = .ok (.aload_n 0, 1) := by decide +kernel
theorem dX2_init_13 : decode cX2_init 13 = .ok (.bipush 6, 2) := by decide +kernel
theorem dX2_init_15 : decode cX2_init 15 = .ok (.newarray .int, 2) := by decide +kernel
theorem dX2_init_17 : decode cX2_init 17 = .ok (.putfield 15, 3) := by decide +kernel
theorem dX2_init_20 : decode cX2_init 20 = .ok (.aload_n 0, 1) := by decide +kernel
theorem dX2_init_21 : decode cX2_init 21 = .ok (.bipush 6, 2) := by decide +kernel
theorem dX2_init_23 : decode cX2_init 23 = .ok (.newarray .int, 2) := by decide +kernel
theorem dX2_init_25 : decode cX2_init 25 = .ok (.putfield 18, 3) := by decide +kernel
theorem dX2_init_28 : decode cX2_init 28 = .ok (.return_, 1) := by decide +kernel
set_option maxRecDepth 20000 in
theorem ggX2_read_X1_hooksTold : GoodIn wsX2_read wsX1_hooksTold := goodIn_r _ [13, 14, 15, 16, 17, 12, 18, 19, 28, 29] (by decide +kernel) (by decide +kernel)
set_option maxRecDepth 20000 in
theorem gX2_read_X1_hooksTold : GoodIn wsX2_read (wsV RX2 21 RX1 yX1_hooksTold wsX1_hooksTold) := goodIn_app (goodIn_of _ (by decide +kernel)) ggX2_read_X1_hooksTold
set_option maxRecDepth 20000 in
theorem ggX2_read_X1_digitAt : GoodIn wsX2_read wsX1_digitAt := goodIn_r _ [23, 15, 16, 17, 12, 18, 14, 19, 28, 29] (by decide +kernel) (by decide +kernel)
set_option maxRecDepth 20000 in
theorem gX2_read_X1_digitAt : GoodIn wsX2_read (wsV RX2 37 RX1 yX1_digitAt wsX1_digitAt) := goodIn_app (goodIn_of _ (by decide +kernel)) ggX2_read_X1_digitAt
theorem dX2_read_0 : decode cX2_read 0 = .ok (.aload_n 0, 1) := by decide +kernel
theorem dX2_read_1 : decode cX2_read 1 = .ok (.aload_n 1, 1) := by decide +kernel
theorem dX2_read_2 : decode cX2_read 2 = .ok (.invokevirtual 21, 3) := by decide +kernel
theorem dX2_read_5 : decode cX2_read 5 = .ok (.bipush 6, 2) := by decide +kernel
theorem dX2_read_7 : decode cX2_read 7 = .ok (.invokestatic 27, 3) := by decide +kernel
theorem dX2_read_10 : decode cX2_read 10 = .ok (.putfield 33, 3) := by decide +kernel
theorem dX2_read_13 : decode cX2_read 13 = .ok (.iconst 0, 1) := by decide +kernel
theorem dX2_read_14 : decode cX2_read 14 = .ok (.istore_n 2, 1) := by decide +kernel
theorem dX2_read_15 : decode cX2_read 15 = .ok (.iload_n 2, 1) := by decide +kernel
theorem dX2_read_16 : decode cX2_read 16 = .ok (.aload_n 0, 1) := by decide +kernel
theorem dX2_read_17 : decode cX2_read 17 = .ok (.getfield 33, 3) := by decide +kernel
theorem dX2_read_20 : decode cX2_read 20 = .ok (.if_icmp .ge 55, 3) := by decide +kernel
theorem dX2_read_23 : decode cX2_read 23 = .ok (.aload_n 0, 1) := by decide +kernel
theorem dX2_read_24 : decode cX2_read 24 = .ok (.getfield 9, 3) := by decide +kernel
theorem dX2_read_27 : decode cX2_read 27 = .ok (.iload_n 2, 1) := by decide +kernel
theorem dX2_read_28 : decode cX2_read 28 = .ok (.aload_n 1, 1) := by decide +kernel
theorem dX2_read_29 : decode cX2_read 29 = .ok (.iconst 3, 1) := by decide +kernel
theorem dX2_read_30 : decode cX2_read 30 = .ok (.iload_n 2, 1) := by decide +kernel
theorem dX2_read_31 : decode cX2_read 31 = .ok (.imul, 1) := by decide +kernel
theorem dX2_read_32 : decode cX2_read 32 = .ok (.invokevirtual 37, 3) := by decide +kernel
theorem dX2_read_35 : decode cX2_read 35 = .ok (.iastore, 1) := by decide +kernel
theorem dX2_read_36 : decode cX2_read 36 = .ok (.aload_n 0, 1) := by decide +kernel
theorem dX2_read_37 : decode cX2_read 37 = .ok (.getfield 15, 3) := by decide +kernel
theorem dX2_read_40 : decode cX2_read 40 = .ok (.iload_n 2, 1) := by decide +kernel
theorem dX2_read_41 : decode cX2_read 41 = .ok (.aload_n 1, 1) := by decide +kernel
theorem dX2_read_42 : decode cX2_read 42 = .ok (.iconst 3, 1) := by decide +kernel
theorem dX2_read_43 : decode cX2_read 43 = .ok (.iload_n 2, 1) := by decide +kernel
theorem dX2_read_44 : decode cX2_read 44 = .ok (.imul, 1) := by decide +kernel
theorem dX2_read_45 : decode cX2_read 45 = .ok (.iconst 1, 1) := by decide +kernel
theorem dX2_read_46 : decode cX2_read 46 = .ok (.iadd, 1) := by decide +kernel
theorem dX2_read_47 : decode cX2_read 47 = .ok (.invokevirtual 37, 3) := by decide +kernel
theorem dX2_read_50 : decode cX2_read 50 = .ok (.iastore, 1) := by decide +kernel
theorem dX2_read_51 : decode cX2_read 51 = .ok (.aload_n 0, 1) := by decide +kernel
theorem dX2_read_52 : decode cX2_read 52 = .ok (.getfield 18, 3) := by decide +kernel
theorem dX2_read_55 : decode cX2_read 55 = .ok (.iload_n 2, 1) := by decide +kernel
theorem dX2_read_56 : decode cX2_read 56 = .ok (.aload_n 1, 1) := by decide +kernel
theorem dX2_read_57 : decode cX2_read 57 = .ok (.iconst 3, 1) := by decide +kernel
theorem dX2_read_58 : decode cX2_read 58 = .ok (.aload_n 0, 1) := by decide +kernel
theorem dX2_read_59 : decode cX2_read 59 = .ok (.getfield 33, 3) := by decide +kernel
theorem dX2_read_62 : decode cX2_read 62 = .ok (.imul, 1) := by decide +kernel
theorem dX2_read_63 : decode cX2_read 63 = .ok (.iload_n 2, 1) := by decide +kernel
theorem dX2_read_64 : decode cX2_read 64 = .ok (.iadd, 1) := by decide +kernel
theorem dX2_read_65 : decode cX2_read 65 = .ok (.invokevirtual 37, 3) := by decide +kernel
theorem dX2_read_68 : decode cX2_read 68 = .ok (.iastore, 1) := by decide +kernel
theorem dX2_read_69 : decode cX2_read 69 = .ok (.iinc 2 1, 3) := by decide +kernel
theorem dX2_read_72 : decode cX2_read 72 = .ok (.goto (-57), 3) := by decide +kernel
theorem dX2_read_75 : decode cX2_read 75 = .ok (.return_, 1) := by decide +kernel
theorem dX2_has_0 : decode cX2_has 0 = .ok (.iload_n 1, 1) := by decide +kernel
theorem dX2_has_1 : decode cX2_has 1 = .ok (.ifCond .lt 15, 3) := by decide +kernel
theorem dX2_has_4 : decode cX2_has 4 = .ok (.iload_n 1, 1) := by decide +kernel
theorem dX2_has_5 : decode cX2_has 5 = .ok (.aload_n 0, 1) := by decide +kernel
theorem dX2_has_6 : decode cX2_has 6 = .ok (.getfield 33, 3) := by decide +kernel
theorem dX2_has_9 : decode cX2_has 9 = .ok (.if_icmp .ge 7, 3) := by decide +kernel
theorem dX2_has_12 : decode cX2_has 12 = .ok (.iconst 1, 1) := by decide +kernel
theorem dX2_has_13 : decode cX2_has 13 = .ok (.goto 4, 3) := by decide +kernel
theorem dX2_has_16 : decode cX2_has 16 = .ok (.iconst 0, 1) := by decide +kernel
theorem dX2_has_17 : decode cX2_has 17 = .ok (.ireturn, 1) := by decide +kernel
set_option maxRecDepth 20000 in
theorem ggX2_oftenOf_X2_has : GoodIn wsX2_oftenOf wsX2_has := goodIn_r _ [6, 7, 8, 9, 10, 11] (by decide +kernel) (by decide +kernel)
set_option maxRecDepth 20000 in
theorem gX2_oftenOf_X2_has : GoodIn wsX2_oftenOf (wsV RX2 41 RX2 yX2_has wsX2_has) := goodIn_app (goodIn_of _ (by decide +kernel)) ggX2_oftenOf_X2_has
theorem dX2_oftenOf_0 : decode cX2_oftenOf 0 = .ok (.aload_n 0, 1) := by decide +kernel
theorem dX2_oftenOf_1 : decode cX2_oftenOf 1 = .ok (.iload_n 1, 1) := by decide +kernel
theorem dX2_oftenOf_2 : decode cX2_oftenOf 2 = .ok (.invokevirtual 41, 3) := by decide +kernel
theorem dX2_oftenOf_5 : decode cX2_oftenOf 5 = .ok (.ifCond .eq 12, 3) := by decide +kernel
theorem dX2_oftenOf_8 : decode cX2_oftenOf 8 = .ok (.aload_n 0, 1) := by decide +kernel
theorem dX2_oftenOf_9 : decode cX2_oftenOf 9 = .ok (.getfield 18, 3) := by decide +kernel
theorem dX2_oftenOf_12 : decode cX2_oftenOf 12 = .ok (.iload_n 1, 1) := by decide +kernel
theorem dX2_oftenOf_13 : decode cX2_oftenOf 13 = .ok (.iaload, 1) := by decide +kernel
theorem dX2_oftenOf_14 : decode cX2_oftenOf 14 = .ok (.goto 4, 3) := by decide +kernel
theorem dX2_oftenOf_17 : decode cX2_oftenOf 17 = .ok (.iconst 0, 1) := by decide +kernel
theorem dX2_oftenOf_18 : decode cX2_oftenOf 18 = .ok (.ireturn, 1) := by decide +kernel
theorem dX3_init_0 : decode cX3_init 0 = .ok (.aload_n 0, 1) := by decide +kernel
theorem dX3_init_1 : decode cX3_init 1 = .ok (.invokespecial 3, 3) := by decide +kernel
theorem dX3_init_4 : decode cX3_init 4 = .ok (.aload_n 0, 1) := by decide +kernel
theorem dX3_init_5 : decode cX3_init 5 = .ok (.bipush 9, 2) := by decide +kernel
theorem dX3_init_7 : decode cX3_init 7 = .ok (.newarray .int, 2) := by decide +kernel
theorem dX3_init_9 : decode cX3_init 9 = .ok (.putfield 9, 3) := by decide +kernel
theorem dX3_init_12 : decode cX3_init 12 = .ok (.aload_n 0, 1) := by decide +kernel
theorem dX3_init_13 : decode cX3_init 13 = .ok (.bipush 9, 2) := by decide +kernel
theorem dX3_init_15 : decode cX3_init 15 = .ok (.newarray .int, 2) := by decide +kernel
theorem dX3_init_17 : decode cX3_init 17 = .ok (.putfield 15, 3) := by decide +kernel
theorem dX3_init_20 : decode cX3_init 20 = .ok (.aload_n 0, 1) := by decide +kernel
theorem dX3_init_21 : decode cX3_init 21 = .ok (.bipush 9, 2) := by decide +kernel
theorem dX3_init_23 : decode cX3_init 23 = .ok (.newarray .boolean, 2) := by decide +kernel
theorem dX3_init_25 : decode cX3_init 25 = .ok (.putfield 18, 3) := by decide +kernel
theorem dX3_init_28 : decode cX3_init 28 = .ok (.return_, 1) := by decide +kernel
theorem dX3_add_0 : decode cX3_add 0 = .ok (.aload_n 0, 1) := by decide +kernel
theorem dX3_add_1 : decode cX3_add 1 = .ok (.getfield 22, 3) := by decide +kernel
theorem dX3_add_4 : decode cX3_add 4 = .ok (.ifCond .lt 55, 3) := by decide +kernel
theorem dX3_add_7 : decode cX3_add 7 = .ok (.aload_n 0, 1) := by decide +kernel
theorem dX3_add_8 : decode cX3_add 8 = .ok (.getfield 22, 3) := by decide +kernel
theorem dX3_add_11 : decode cX3_add 11 = .ok (.aload_n 0, 1) := by decide +kernel
theorem dX3_add_12 : decode cX3_add 12 = .ok (.getfield 9, 3) := by decide +kernel
theorem dX3_add_15 : decode cX3_add 15 = .ok (.arraylength, 1) := by decide +kernel
theorem dX3_add_16 : decode cX3_add 16 = .ok (.if_icmp .ge 43, 3) := by decide +kernel
theorem dX3_add_19 : decode cX3_add 19 = .ok (.aload_n 0, 1) := by decide +kernel
theorem dX3_add_20 : decode cX3_add 20 = .ok (.getfield 9, 3) := by decide +kernel
theorem dX3_add_23 : decode cX3_add 23 = .ok (.aload_n 0, 1) := by decide +kernel
theorem dX3_add_24 : decode cX3_add 24 = .ok (.getfield 22, 3) := by decide +kernel
theorem dX3_add_27 : decode cX3_add 27 = .ok (.iload_n 1, 1) := by decide +kernel
theorem dX3_add_28 : decode cX3_add 28 = .ok (.iastore, 1) := by decide +kernel
theorem dX3_add_29 : decode cX3_add 29 = .ok (.aload_n 0, 1) := by decide +kernel
theorem dX3_add_30 : decode cX3_add 30 = .ok (.getfield 15, 3) := by decide +kernel
theorem dX3_add_33 : decode cX3_add 33 = .ok (.aload_n 0, 1) := by decide +kernel
theorem dX3_add_34 : decode cX3_add 34 = .ok (.getfield 22, 3) := by decide +kernel
theorem dX3_add_37 : decode cX3_add 37 = .ok (.iload_n 2, 1) := by decide +kernel
theorem dX3_add_38 : decode cX3_add 38 = .ok (.iastore, 1) := by decide +kernel
theorem dX3_add_39 : decode cX3_add 39 = .ok (.aload_n 0, 1) := by decide +kernel
theorem dX3_add_40 : decode cX3_add 40 = .ok (.getfield 18, 3) := by decide +kernel
theorem dX3_add_43 : decode cX3_add 43 = .ok (.aload_n 0, 1) := by decide +kernel
theorem dX3_add_44 : decode cX3_add 44 = .ok (.getfield 22, 3) := by decide +kernel
theorem dX3_add_47 : decode cX3_add 47 = .ok (.iload_n 3, 1) := by decide +kernel
theorem dX3_add_48 : decode cX3_add 48 = .ok (.bastore, 1) := by decide +kernel
theorem dX3_add_49 : decode cX3_add 49 = .ok (.aload_n 0, 1) := by decide +kernel
theorem dX3_add_50 : decode cX3_add 50 = .ok (.dup, 1) := by decide +kernel
theorem dX3_add_51 : decode cX3_add 51 = .ok (.getfield 22, 3) := by decide +kernel
theorem dX3_add_54 : decode cX3_add 54 = .ok (.iconst 1, 1) := by decide +kernel
theorem dX3_add_55 : decode cX3_add 55 = .ok (.iadd, 1) := by decide +kernel
theorem dX3_add_56 : decode cX3_add 56 = .ok (.putfield 22, 3) := by decide +kernel
theorem dX3_add_59 : decode cX3_add 59 = .ok (.return_, 1) := by decide +kernel
theorem dX3_kindAt_0 : decode cX3_kindAt 0 = .ok (.iload_n 1, 1) := by decide +kernel
theorem dX3_kindAt_1 : decode cX3_kindAt 1 = .ok (.ifCond .lt 20, 3) := by decide +kernel
theorem dX3_kindAt_4 : decode cX3_kindAt 4 = .ok (.iload_n 1, 1) := by decide +kernel
theorem dX3_kindAt_5 : decode cX3_kindAt 5 = .ok (.aload_n 0, 1) := by decide +kernel
theorem dX3_kindAt_6 : decode cX3_kindAt 6 = .ok (.getfield 22, 3) := by decide +kernel
theorem dX3_kindAt_9 : decode cX3_kindAt 9 = .ok (.if_icmp .ge 12, 3) := by decide +kernel
theorem dX3_kindAt_12 : decode cX3_kindAt 12 = .ok (.aload_n 0, 1) := by decide +kernel
theorem dX3_kindAt_13 : decode cX3_kindAt 13 = .ok (.getfield 9, 3) := by decide +kernel
theorem dX3_kindAt_16 : decode cX3_kindAt 16 = .ok (.iload_n 1, 1) := by decide +kernel
theorem dX3_kindAt_17 : decode cX3_kindAt 17 = .ok (.iaload, 1) := by decide +kernel
theorem dX3_kindAt_18 : decode cX3_kindAt 18 = .ok (.goto 4, 3) := by decide +kernel
theorem dX3_kindAt_21 : decode cX3_kindAt 21 = .ok (.iconst (-1), 1) := by decide +kernel
theorem dX3_kindAt_22 : decode cX3_kindAt 22 = .ok (.ireturn, 1) := by decide +kernel
theorem dX3_townAt_0 : decode cX3_townAt 0 = .ok (.iload_n 1, 1) := by decide +kernel
theorem dX3_townAt_1 : decode cX3_townAt 1 = .ok (.ifCond .lt 20, 3) := by decide +kernel
theorem dX3_townAt_4 : decode cX3_townAt 4 = .ok (.iload_n 1, 1) := by decide +kernel
theorem dX3_townAt_5 : decode cX3_townAt 5 = .ok (.aload_n 0, 1) := by decide +kernel
theorem dX3_townAt_6 : decode cX3_townAt 6 = .ok (.getfield 22, 3) := by decide +kernel
theorem dX3_townAt_9 : decode cX3_townAt 9 = .ok (.if_icmp .ge 12, 3) := by decide +kernel
theorem dX3_townAt_12 : decode cX3_townAt 12 = .ok (.aload_n 0, 1) := by decide +kernel
theorem dX3_townAt_13 : decode cX3_townAt 13 = .ok (.getfield 15, 3) := by decide +kernel
theorem dX3_townAt_16 : decode cX3_townAt 16 = .ok (.iload_n 1, 1) := by decide +kernel
theorem dX3_townAt_17 : decode cX3_townAt 17 = .ok (.iaload, 1) := by decide +kernel
theorem dX3_townAt_18 : decode cX3_townAt 18 = .ok (.goto 4, 3) := by decide +kernel
theorem dX3_townAt_21 : decode cX3_townAt 21 = .ok (.iconst (-1), 1) := by decide +kernel
theorem dX3_townAt_22 : decode cX3_townAt 22 = .ok (.ireturn, 1) := by decide +kernel
theorem dX3_dropFirst_0 : decode cX3_dropFirst 0 = .ok (.iconst 1, 1) := by decide +kernel
theorem dX3_dropFirst_1 : decode cX3_dropFirst 1 = .ok (.istore_n 1, 1) := by decide +kernel
theorem dX3_dropFirst_2 : decode cX3_dropFirst 2 = .ok (.iload_n 1, 1) := by decide +kernel
theorem dX3_dropFirst_3 : decode cX3_dropFirst 3 = .ok (.aload_n 0, 1) := by decide +kernel
theorem dX3_dropFirst_4 : decode cX3_dropFirst 4 = .ok (.getfield 22, 3) := by decide +kernel
theorem dX3_dropFirst_7 : decode cX3_dropFirst 7 = .ok (.if_icmp .ge 51, 3) := by decide +kernel
theorem dX3_dropFirst_10 : decode cX3_dropFirst 10 = .ok (.aload_n 0, 1) := by decide +kernel
theorem dX3_dropFirst_11 : decode cX3_dropFirst 11 = .ok (.getfield 9, 3) := by decide +kernel
theorem dX3_dropFirst_14 : decode cX3_dropFirst 14 = .ok (.iload_n 1, 1) := by decide +kernel
theorem dX3_dropFirst_15 : decode cX3_dropFirst 15 = .ok (.iconst 1, 1) := by decide +kernel
theorem dX3_dropFirst_16 : decode cX3_dropFirst 16 = .ok (.isub, 1) := by decide +kernel
theorem dX3_dropFirst_17 : decode cX3_dropFirst 17 = .ok (.aload_n 0, 1) := by decide +kernel
theorem dX3_dropFirst_18 : decode cX3_dropFirst 18 = .ok (.getfield 9, 3) := by decide +kernel
theorem dX3_dropFirst_21 : decode cX3_dropFirst 21 = .ok (.iload_n 1, 1) := by decide +kernel
theorem dX3_dropFirst_22 : decode cX3_dropFirst 22 = .ok (.iaload, 1) := by decide +kernel
theorem dX3_dropFirst_23 : decode cX3_dropFirst 23 = .ok (.iastore, 1) := by decide +kernel
theorem dX3_dropFirst_24 : decode cX3_dropFirst 24 = .ok (.aload_n 0, 1) := by decide +kernel
theorem dX3_dropFirst_25 : decode cX3_dropFirst 25 = .ok (.getfield 15, 3) := by decide +kernel
theorem dX3_dropFirst_28 : decode cX3_dropFirst 28 = .ok (.iload_n 1, 1) := by decide +kernel
theorem dX3_dropFirst_29 : decode cX3_dropFirst 29 = .ok (.iconst 1, 1) := by decide +kernel
theorem dX3_dropFirst_30 : decode cX3_dropFirst 30 = .ok (.isub, 1) := by decide +kernel
theorem dX3_dropFirst_31 : decode cX3_dropFirst 31 = .ok (.aload_n 0, 1) := by decide +kernel
theorem dX3_dropFirst_32 : decode cX3_dropFirst 32 = .ok (.getfield 15, 3) := by decide +kernel
theorem dX3_dropFirst_35 : decode cX3_dropFirst 35 = .ok (.iload_n 1, 1) := by decide +kernel
theorem dX3_dropFirst_36 : decode cX3_dropFirst 36 = .ok (.iaload, 1) := by decide +kernel
theorem dX3_dropFirst_37 : decode cX3_dropFirst 37 = .ok (.iastore, 1) := by decide +kernel
theorem dX3_dropFirst_38 : decode cX3_dropFirst 38 = .ok (.aload_n 0, 1) := by decide +kernel
theorem dX3_dropFirst_39 : decode cX3_dropFirst 39 = .ok (.getfield 18, 3) := by decide +kernel
theorem dX3_dropFirst_42 : decode cX3_dropFirst 42 = .ok (.iload_n 1, 1) := by decide +kernel
theorem dX3_dropFirst_43 : decode cX3_dropFirst 43 = .ok (.iconst 1, 1) := by decide +kernel
theorem dX3_dropFirst_44 : decode cX3_dropFirst 44 = .ok (.isub, 1) := by decide +kernel
theorem dX3_dropFirst_45 : decode cX3_dropFirst 45 = .ok (.aload_n 0, 1) := by decide +kernel
theorem dX3_dropFirst_46 : decode cX3_dropFirst 46 = .ok (.getfield 18, 3) := by decide +kernel
theorem dX3_dropFirst_49 : decode cX3_dropFirst 49 = .ok (.iload_n 1, 1) := by decide +kernel
theorem dX3_dropFirst_50 : decode cX3_dropFirst 50 = .ok (.baload, 1) := by decide +kernel
theorem dX3_dropFirst_51 : decode cX3_dropFirst 51 = .ok (.bastore, 1) := by decide +kernel
theorem dX3_dropFirst_52 : decode cX3_dropFirst 52 = .ok (.iinc 1 1, 3) := by decide +kernel
theorem dX3_dropFirst_55 : decode cX3_dropFirst 55 = .ok (.goto (-53), 3) := by decide +kernel
theorem dX3_dropFirst_58 : decode cX3_dropFirst 58 = .ok (.aload_n 0, 1) := by decide +kernel
theorem dX3_dropFirst_59 : decode cX3_dropFirst 59 = .ok (.iconst 0, 1) := by decide +kernel
theorem dX3_dropFirst_60 : decode cX3_dropFirst 60 = .ok (.aload_n 0, 1) := by decide +kernel
theorem dX3_dropFirst_61 : decode cX3_dropFirst 61 = .ok (.getfield 22, 3) := by decide +kernel
theorem dX3_dropFirst_64 : decode cX3_dropFirst 64 = .ok (.iconst 1, 1) := by decide +kernel
theorem dX3_dropFirst_65 : decode cX3_dropFirst 65 = .ok (.isub, 1) := by decide +kernel
theorem dX3_dropFirst_66 : decode cX3_dropFirst 66 = .ok (.invokestatic 26, 3) := by decide +kernel
theorem dX3_dropFirst_69 : decode cX3_dropFirst 69 = .ok (.putfield 22, 3) := by decide +kernel
theorem dX3_dropFirst_72 : decode cX3_dropFirst 72 = .ok (.return_, 1) := by decide +kernel
theorem dX3_ofKind_0 : decode cX3_ofKind 0 = .ok (.iconst 0, 1) := by decide +kernel
theorem dX3_ofKind_1 : decode cX3_ofKind 1 = .ok (.istore_n 2, 1) := by decide +kernel
theorem dX3_ofKind_2 : decode cX3_ofKind 2 = .ok (.iconst 0, 1) := by decide +kernel
theorem dX3_ofKind_3 : decode cX3_ofKind 3 = .ok (.istore_n 3, 1) := by decide +kernel
theorem dX3_ofKind_4 : decode cX3_ofKind 4 = .ok (.iload_n 3, 1) := by decide +kernel
theorem dX3_ofKind_5 : decode cX3_ofKind 5 = .ok (.aload_n 0, 1) := by decide +kernel
theorem dX3_ofKind_6 : decode cX3_ofKind 6 = .ok (.getfield 22, 3) := by decide +kernel
theorem dX3_ofKind_9 : decode cX3_ofKind 9 = .ok (.if_icmp .ge 22, 3) := by decide +kernel
theorem dX3_ofKind_12 : decode cX3_ofKind 12 = .ok (.aload_n 0, 1) := by decide +kernel
theorem dX3_ofKind_13 : decode cX3_ofKind 13 = .ok (.getfield 9, 3) := by decide +kernel
theorem dX3_ofKind_16 : decode cX3_ofKind 16 = .ok (.iload_n 3, 1) := by decide +kernel
theorem dX3_ofKind_17 : decode cX3_ofKind 17 = .ok (.iaload, 1) := by decide +kernel
theorem dX3_ofKind_18 : decode cX3_ofKind 18 = .ok (.iload_n 1, 1) := by decide +kernel
theorem dX3_ofKind_19 : decode cX3_ofKind 19 = .ok (.if_icmp .ne 6, 3) := by decide +kernel
theorem dX3_ofKind_22 : decode cX3_ofKind 22 = .ok (.iinc 2 1, 3) := by decide +kernel
theorem dX3_ofKind_25 : decode cX3_ofKind 25 = .ok (.iinc 3 1, 3) := by decide +kernel
theorem dX3_ofKind_28 : decode cX3_ofKind 28 = .ok (.goto (-24), 3) := by decide +kernel
theorem dX3_ofKind_31 : decode cX3_ofKind 31 = .ok (.iload_n 2, 1) := by decide +kernel
theorem dX3_ofKind_32 : decode cX3_ofKind 32 = .ok (.ireturn, 1) := by decide +kernel
theorem dX3_notFor_0 : decode cX3_notFor 0 = .ok (.iconst 0, 1) := by decide +kernel
theorem dX3_notFor_1 : decode cX3_notFor 1 = .ok (.istore_n 2, 1) := by decide +kernel
theorem dX3_notFor_2 : decode cX3_notFor 2 = .ok (.iconst 0, 1) := by decide +kernel
theorem dX3_notFor_3 : decode cX3_notFor 3 = .ok (.istore_n 3, 1) := by decide +kernel
theorem dX3_notFor_4 : decode cX3_notFor 4 = .ok (.iload_n 3, 1) := by decide +kernel
theorem dX3_notFor_5 : decode cX3_notFor 5 = .ok (.aload_n 0, 1) := by decide +kernel
theorem dX3_notFor_6 : decode cX3_notFor 6 = .ok (.getfield 22, 3) := by decide +kernel
theorem dX3_notFor_9 : decode cX3_notFor 9 = .ok (.if_icmp .ge 22, 3) := by decide +kernel
theorem dX3_notFor_12 : decode cX3_notFor 12 = .ok (.aload_n 0, 1) := by decide +kernel
theorem dX3_notFor_13 : decode cX3_notFor 13 = .ok (.getfield 15, 3) := by decide +kernel
theorem dX3_notFor_16 : decode cX3_notFor 16 = .ok (.iload_n 3, 1) := by decide +kernel
theorem dX3_notFor_17 : decode cX3_notFor 17 = .ok (.iaload, 1) := by decide +kernel
theorem dX3_notFor_18 : decode cX3_notFor 18 = .ok (.iload_n 1, 1) := by decide +kernel
theorem dX3_notFor_19 : decode cX3_notFor 19 = .ok (.if_icmp .eq 6, 3) := by decide +kernel
theorem dX3_notFor_22 : decode cX3_notFor 22 = .ok (.iinc 2 1, 3) := by decide +kernel
theorem dX3_notFor_25 : decode cX3_notFor 25 = .ok (.iinc 3 1, 3) := by decide +kernel
theorem dX3_notFor_28 : decode cX3_notFor 28 = .ok (.goto (-24), 3) := by decide +kernel
theorem dX3_notFor_31 : decode cX3_notFor 31 = .ok (.iload_n 2, 1) := by decide +kernel
theorem dX3_notFor_32 : decode cX3_notFor 32 = .ok (.ireturn, 1) := by decide +kernel
theorem dX3_harmGlass_0 : decode cX3_harmGlass 0 = .ok (.iconst 0, 1) := by decide +kernel
theorem dX3_harmGlass_1 : decode cX3_harmGlass 1 = .ok (.istore_n 1, 1) := by decide +kernel
theorem dX3_harmGlass_2 : decode cX3_harmGlass 2 = .ok (.iconst 0, 1) := by decide +kernel
theorem dX3_harmGlass_3 : decode cX3_harmGlass 3 = .ok (.istore_n 2, 1) := by decide +kernel
theorem dX3_harmGlass_4 : decode cX3_harmGlass 4 = .ok (.iload_n 2, 1) := by decide +kernel
theorem dX3_harmGlass_5 : decode cX3_harmGlass 5 = .ok (.aload_n 0, 1) := by decide +kernel
theorem dX3_harmGlass_6 : decode cX3_harmGlass 6 = .ok (.getfield 22, 3) := by decide +kernel
theorem dX3_harmGlass_9 : decode cX3_harmGlass 9 = .ok (.if_icmp .ge 38, 3) := by decide +kernel
theorem dX3_harmGlass_12 : decode cX3_harmGlass 12 = .ok (.aload_n 0, 1) := by decide +kernel
theorem dX3_harmGlass_13 : decode cX3_harmGlass 13 = .ok (.getfield 9, 3) := by decide +kernel
theorem dX3_harmGlass_16 : decode cX3_harmGlass 16 = .ok (.iload_n 2, 1) := by decide +kernel
theorem dX3_harmGlass_17 : decode cX3_harmGlass 17 = .ok (.iaload, 1) := by decide +kernel
theorem dX3_harmGlass_18 : decode cX3_harmGlass 18 = .ok (.iconst 3, 1) := by decide +kernel
theorem dX3_harmGlass_19 : decode cX3_harmGlass 19 = .ok (.if_icmp .ne 22, 3) := by decide +kernel
theorem dX3_harmGlass_22 : decode cX3_harmGlass 22 = .ok (.aload_n 0, 1) := by decide +kernel
theorem dX3_harmGlass_23 : decode cX3_harmGlass 23 = .ok (.getfield 18, 3) := by decide +kernel
theorem dX3_harmGlass_26 : decode cX3_harmGlass 26 = .ok (.iload_n 2, 1) := by decide +kernel
theorem dX3_harmGlass_27 : decode cX3_harmGlass 27 = .ok (.baload, 1) := by decide +kernel
theorem dX3_harmGlass_28 : decode cX3_harmGlass 28 = .ok (.ifCond .ne 13, 3) := by decide +kernel
theorem dX3_harmGlass_31 : decode cX3_harmGlass 31 = .ok (.aload_n 0, 1) := by decide +kernel
theorem dX3_harmGlass_32 : decode cX3_harmGlass 32 = .ok (.getfield 18, 3) := by decide +kernel
theorem dX3_harmGlass_35 : decode cX3_harmGlass 35 = .ok (.iload_n 2, 1) := by decide +kernel
theorem dX3_harmGlass_36 : decode cX3_harmGlass 36 = .ok (.iconst 1, 1) := by decide +kernel
theorem dX3_harmGlass_37 : decode cX3_harmGlass 37 = .ok (.bastore, 1) := by decide +kernel
theorem dX3_harmGlass_38 : decode cX3_harmGlass 38 = .ok (.iinc 1 1, 3) := by decide +kernel
theorem dX3_harmGlass_41 : decode cX3_harmGlass 41 = .ok (.iinc 2 1, 3) := by decide +kernel
theorem dX3_harmGlass_44 : decode cX3_harmGlass 44 = .ok (.goto (-40), 3) := by decide +kernel
theorem dX3_harmGlass_47 : decode cX3_harmGlass 47 = .ok (.iload_n 1, 1) := by decide +kernel
theorem dX3_harmGlass_48 : decode cX3_harmGlass 48 = .ok (.ireturn, 1) := by decide +kernel
theorem dX3_copy_0 : decode cX3_copy 0 = .ok (.aload_n 0, 1) := by decide +kernel
theorem dX3_copy_1 : decode cX3_copy 1 = .ok (.aload_n 1, 1) := by decide +kernel
theorem dX3_copy_2 : decode cX3_copy 2 = .ok (.getfield 22, 3) := by decide +kernel
theorem dX3_copy_5 : decode cX3_copy 5 = .ok (.putfield 22, 3) := by decide +kernel
theorem dX3_copy_8 : decode cX3_copy 8 = .ok (.iconst 0, 1) := by decide +kernel
theorem dX3_copy_9 : decode cX3_copy 9 = .ok (.istore_n 2, 1) := by decide +kernel
theorem dX3_copy_10 : decode cX3_copy 10 = .ok (.iload_n 2, 1) := by decide +kernel
theorem dX3_copy_11 : decode cX3_copy 11 = .ok (.aload_n 0, 1) := by decide +kernel
theorem dX3_copy_12 : decode cX3_copy 12 = .ok (.getfield 22, 3) := by decide +kernel
theorem dX3_copy_15 : decode cX3_copy 15 = .ok (.if_icmp .ge 45, 3) := by decide +kernel
theorem dX3_copy_18 : decode cX3_copy 18 = .ok (.aload_n 0, 1) := by decide +kernel
theorem dX3_copy_19 : decode cX3_copy 19 = .ok (.getfield 9, 3) := by decide +kernel
theorem dX3_copy_22 : decode cX3_copy 22 = .ok (.iload_n 2, 1) := by decide +kernel
theorem dX3_copy_23 : decode cX3_copy 23 = .ok (.aload_n 1, 1) := by decide +kernel
theorem dX3_copy_24 : decode cX3_copy 24 = .ok (.getfield 9, 3) := by decide +kernel
theorem dX3_copy_27 : decode cX3_copy 27 = .ok (.iload_n 2, 1) := by decide +kernel
theorem dX3_copy_28 : decode cX3_copy 28 = .ok (.iaload, 1) := by decide +kernel
theorem dX3_copy_29 : decode cX3_copy 29 = .ok (.iastore, 1) := by decide +kernel
theorem dX3_copy_30 : decode cX3_copy 30 = .ok (.aload_n 0, 1) := by decide +kernel
theorem dX3_copy_31 : decode cX3_copy 31 = .ok (.getfield 15, 3) := by decide +kernel
theorem dX3_copy_34 : decode cX3_copy 34 = .ok (.iload_n 2, 1) := by decide +kernel
theorem dX3_copy_35 : decode cX3_copy 35 = .ok (.aload_n 1, 1) := by decide +kernel
theorem dX3_copy_36 : decode cX3_copy 36 = .ok (.getfield 15, 3) := by decide +kernel
theorem dX3_copy_39 : decode cX3_copy 39 = .ok (.iload_n 2, 1) := by decide +kernel
theorem dX3_copy_40 : decode cX3_copy 40 = .ok (.iaload, 1) := by decide +kernel
theorem dX3_copy_41 : decode cX3_copy 41 = .ok (.iastore, 1) := by decide +kernel
theorem dX3_copy_42 : decode cX3_copy 42 = .ok (.aload_n 0, 1) := by decide +kernel
theorem dX3_copy_43 : decode cX3_copy 43 = .ok (.getfield 18, 3) := by decide +kernel
theorem dX3_copy_46 : decode cX3_copy 46 = .ok (.iload_n 2, 1) := by decide +kernel
theorem dX3_copy_47 : decode cX3_copy 47 = .ok (.aload_n 1, 1) := by decide +kernel
theorem dX3_copy_48 : decode cX3_copy 48 = .ok (.getfield 18, 3) := by decide +kernel
theorem dX3_copy_51 : decode cX3_copy 51 = .ok (.iload_n 2, 1) := by decide +kernel
theorem dX3_copy_52 : decode cX3_copy 52 = .ok (.baload, 1) := by decide +kernel
theorem dX3_copy_53 : decode cX3_copy 53 = .ok (.bastore, 1) := by decide +kernel
theorem dX3_copy_54 : decode cX3_copy 54 = .ok (.iinc 2 1, 3) := by decide +kernel
theorem dX3_copy_57 : decode cX3_copy 57 = .ok (.goto (-47), 3) := by decide +kernel
