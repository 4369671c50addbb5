theorem dX6_keep_46 : decode cX6_keep 46 = .ok (.ishl, 1) := by decide +kernel
theorem dX6_keep_47 : decode cX6_keep 47 = .ok (.ior, 1) := by decide +kernel
theorem dX6_keep_48 : decode cX6_keep 48 = .ok (.iastore, 1) := by decide +kernel
theorem dX6_keep_49 : decode cX6_keep 49 = .ok (.iinc 2 1, 3) := by decide +kernel
theorem dX6_keep_52 : decode cX6_keep 52 = .ok (.goto (-40), 3) := by decide +kernel
theorem dX6_keep_55 : decode cX6_keep 55 = .ok (.return_, 1) := by decide +kernel
set_option maxRecDepth 20000 in
theorem ggX7_init_X1_init : GoodIn wsX7_init wsX1_init := goodIn_r _ [30, 31, 2, 3, 32, 33, 75, 76] (by decide +kernel) (by decide +kernel)
set_option maxRecDepth 20000 in
theorem gX7_init_X1_init_n9 : GoodIn wsX7_init (wsX1_init) := ggX7_init_X1_init
set_option maxRecDepth 20000 in
theorem ggX7_init_X2_init : GoodIn wsX7_init wsX2_init := goodIn_r _ [35, 36, 2, 3, 32, 37, 38, 39, 86, 87, 88, 89] (by decide +kernel) (by decide +kernel)
set_option maxRecDepth 20000 in
theorem gX7_init_X2_init_n18 : GoodIn wsX7_init (wsX2_init) := ggX7_init_X2_init
set_option maxRecDepth 20000 in
theorem ggX7_init_X4_init : GoodIn wsX7_init wsX4_init := goodIn_r _ [42, 43, 2, 3, 32, 44, 45, 46, 47, 48, 49, 50, 51, 52, 53, 54, 55, 56, 57, 58, 90, 91, 92, 93, 94, 95, 96, 97, 111, 112, 113, 114] (by decide +kernel) (by decide +kernel)
set_option maxRecDepth 20000 in
theorem gX7_init_X4_init : GoodIn wsX7_init (wsX4_init) := ggX7_init_X4_init
set_option maxRecDepth 20000 in
theorem ggX7_init_X0_init : GoodIn wsX7_init wsX0_init := goodIn_r _ [60, 61, 2, 3, 32, 62, 63, 64, 98, 99, 100, 101] (by decide +kernel) (by decide +kernel)
set_option maxRecDepth 20000 in
theorem gX7_init_X0_init_n35 : GoodIn wsX7_init (wsX0_init) := ggX7_init_X0_init
set_option maxRecDepth 20000 in
theorem ggX7_init_X6_init : GoodIn wsX7_init wsX6_init := goodIn_r _ [66, 67, 2, 3, 32, 68, 69, 70, 102, 103, 104, 105, 106] (by decide +kernel) (by decide +kernel)
set_option maxRecDepth 20000 in
theorem gX7_init_X6_init_n42 : GoodIn wsX7_init (wsX6_init) := ggX7_init_X6_init
set_option maxRecDepth 20000 in
theorem ggX7_init_X5_init : GoodIn wsX7_init wsX5_init := goodIn_r _ [72, 73, 2, 3, 32, 74, 107, 108, 109, 110] (by decide +kernel) (by decide +kernel)
set_option maxRecDepth 20000 in
theorem gX7_init_X5_init_n49 : GoodIn wsX7_init (wsX5_init) := ggX7_init_X5_init
theorem dX7_init_0 : decode cX7_init 0 = .ok (.aload_n 0, 1) := by decide +kernel
theorem dX7_init_1 : decode cX7_init 1 = .ok (.invokespecial 1, 3) := by decide +kernel
theorem dX7_init_4 : decode cX7_init 4 = .ok (.aload_n 0, 1) := by decide +kernel
theorem dX7_init_5 : decode cX7_init 5 = .ok (.new 7, 3) := by decide +kernel
theorem dX7_init_8 : decode cX7_init 8 = .ok (.dup, 1) := by decide +kernel
theorem dX7_init_9 : decode cX7_init 9 = .ok (.invokespecial 9, 3) := by decide +kernel
theorem dX7_init_12 : decode cX7_init 12 = .ok (.putfield 10, 3) := by decide +kernel
theorem dX7_init_15 : decode cX7_init 15 = .ok (.aload_n 0, 1) := by decide +kernel
theorem dX7_init_16 : decode cX7_init 16 = .ok (.new 16, 3) := by decide +kernel
theorem dX7_init_19 : decode cX7_init 19 = .ok (.dup, 1) := by decide +kernel
theorem dX7_init_20 : decode cX7_init 20 = .ok (.invokespecial 18, 3) := by decide +kernel
theorem dX7_init_23 : decode cX7_init 23 = .ok (.putfield 19, 3) := by decide +kernel
theorem dX7_init_26 : decode cX7_init 26 = .ok (.aload_n 0, 1) := by decide +kernel
theorem dX7_init_27 : decode cX7_init 27 = .ok (.new 23, 3) := by decide +kernel
theorem dX7_init_30 : decode cX7_init 30 = .ok (.dup, 1) := by decide +kernel
theorem dX7_init_31 : decode cX7_init 31 = .ok (.invokespecial 25, 3) := by decide +kernel
theorem dX7_init_34 : decode cX7_init 34 = .ok (.putfield 26, 3) := by decide +kernel
theorem dX7_init_37 : decode cX7_init 37 = .ok (.aload_n 0, 1) := by decide +kernel
theorem dX7_init_38 : decode cX7_init 38 = .ok (.new 23, 3) := by decide +kernel
theorem dX7_init_41 : decode cX7_init 41 = .ok (.dup, 1) := by decide +kernel
theorem dX7_init_42 : decode cX7_init 42 = .ok (.invokespecial 25, 3) := by decide +kernel
theorem dX7_init_45 : decode cX7_init 45 = .ok (.putfield 30, 3) := by decide +kernel
theorem dX7_init_48 : decode cX7_init 48 = .ok (.aload_n 0, 1) := by decide +kernel
theorem dX7_init_49 : decode cX7_init 49 = .ok (.new 33, 3) := by decide +kernel
theorem dX7_init_52 : decode cX7_init 52 = .ok (.dup, 1) := by decide +kernel
theorem dX7_init_53 : decode cX7_init 53 = .ok (.invokespecial 35, 3) := by decide +kernel
theorem dX7_init_56 : decode cX7_init 56 = .ok (.putfield 36, 3) := by decide +kernel
theorem dX7_init_59 : decode cX7_init 59 = .ok (.aload_n 0, 1) := by decide +kernel
theorem dX7_init_60 : decode cX7_init 60 = .ok (.new 40, 3) := by decide +kernel
theorem dX7_init_63 : decode cX7_init 63 = .ok (.dup, 1) := by decide +kernel
theorem dX7_init_64 : decode cX7_init 64 = .ok (.invokespecial 42, 3) := by decide +kernel
theorem dX7_init_67 : decode cX7_init 67 = .ok (.putfield 43, 3) := by decide +kernel
theorem dX7_init_70 : decode cX7_init 70 = .ok (.aload_n 0, 1) := by decide +kernel
theorem dX7_init_71 : decode cX7_init 71 = .ok (.new 47, 3) := by decide +kernel
theorem dX7_init_74 : decode cX7_init 74 = .ok (.dup, 1) := by decide +kernel
theorem dX7_init_75 : decode cX7_init 75 = .ok (.invokespecial 49, 3) := by decide +kernel
theorem dX7_init_78 : decode cX7_init 78 = .ok (.putfield 50, 3) := by decide +kernel
theorem dX7_init_81 : decode cX7_init 81 = .ok (.return_, 1) := by decide +kernel
set_option maxRecDepth 20000 in
theorem ggX7_letter_X1_add : GoodIn wsX7_letter wsX1_add := goodIn_r _ [7, 8, 9, 19, 20] (by decide +kernel) (by decide +kernel)
set_option maxRecDepth 20000 in
theorem gX7_letter_X1_add : GoodIn wsX7_letter (wsV RX7 58 RX1 yX1_add wsX1_add) := goodIn_app (goodIn_of _ (by decide +kernel)) ggX7_letter_X1_add
theorem dX7_letter_0 : decode cX7_letter 0 = .ok (.iload_n 1, 1) := by decide +kernel
theorem dX7_letter_1 : decode cX7_letter 1 = .ok (.bipush 32, 2) := by decide +kernel
theorem dX7_letter_3 : decode cX7_letter 3 = .ok (.if_icmp .lt 9, 3) := by decide +kernel
theorem dX7_letter_6 : decode cX7_letter 6 = .ok (.iload_n 1, 1) := by decide +kernel
theorem dX7_letter_7 : decode cX7_letter 7 = .ok (.bipush 126, 2) := by decide +kernel
theorem dX7_letter_9 : decode cX7_letter 9 = .ok (.if_icmp .le 6, 3) := by decide +kernel
theorem dX7_letter_12 : decode cX7_letter 12 = .ok (.bipush (-102), 2) := by decide +kernel
theorem dX7_letter_14 : decode cX7_letter 14 = .ok (.ireturn, 1) := by decide +kernel
theorem dX7_letter_15 : decode cX7_letter 15 = .ok (.aload_n 0, 1) := by decide +kernel
theorem dX7_letter_16 : decode cX7_letter 16 = .ok (.getfield 10, 3) := by decide +kernel
theorem dX7_letter_19 : decode cX7_letter 19 = .ok (.getfield 54, 3) := by decide +kernel
theorem dX7_letter_22 : decode cX7_letter 22 = .ok (.bipush 24, 2) := by decide +kernel
theorem dX7_letter_24 : decode cX7_letter 24 = .ok (.if_icmp .lt 6, 3) := by decide +kernel
theorem dX7_letter_27 : decode cX7_letter 27 = .ok (.bipush (-104), 2) := by decide +kernel
theorem dX7_letter_29 : decode cX7_letter 29 = .ok (.ireturn, 1) := by decide +kernel
theorem dX7_letter_30 : decode cX7_letter 30 = .ok (.aload_n 0, 1) := by decide +kernel
theorem dX7_letter_31 : decode cX7_letter 31 = .ok (.getfield 10, 3) := by decide +kernel
theorem dX7_letter_34 : decode cX7_letter 34 = .ok (.iload_n 1, 1) := by decide +kernel
theorem dX7_letter_35 : decode cX7_letter 35 = .ok (.invokevirtual 58, 3) := by decide +kernel
theorem dX7_letter_38 : decode cX7_letter 38 = .ok (.aload_n 0, 1) := by decide +kernel
theorem dX7_letter_39 : decode cX7_letter 39 = .ok (.getfield 10, 3) := by decide +kernel
theorem dX7_letter_42 : decode cX7_letter 42 = .ok (.getfield 54, 3) := by decide +kernel
theorem dX7_letter_45 : decode cX7_letter 45 = .ok (.ireturn, 1) := by decide +kernel
theorem dX7_blank_0 : decode cX7_blank 0 = .ok (.aload_n 0, 1) := by decide +kernel
theorem dX7_blank_1 : decode cX7_blank 1 = .ok (.getfield 10, 3) := by decide +kernel
theorem dX7_blank_4 : decode cX7_blank 4 = .ok (.getfield 54, 3) := by decide +kernel
theorem dX7_blank_7 : decode cX7_blank 7 = .ok (.istore_n 1, 1) := by decide +kernel
theorem dX7_blank_8 : decode cX7_blank 8 = .ok (.aload_n 0, 1) := by decide +kernel
theorem dX7_blank_9 : decode cX7_blank 9 = .ok (.getfield 10, 3) := by decide +kernel
theorem dX7_blank_12 : decode cX7_blank 12 = .ok (.iconst 0, 1) := by decide +kernel
theorem dX7_blank_13 : decode cX7_blank 13 = .ok (.putfield 54, 3) := by decide +kernel
theorem dX7_blank_16 : decode cX7_blank 16 = .ok (.iload_n 1, 1) := by decide +kernel
theorem dX7_blank_17 : decode cX7_blank 17 = .ok (.ireturn, 1) := by decide +kernel
set_option maxRecDepth 20000 in
theorem ggX7_fault_X1_firstWrong : GoodIn wsX7_fault wsX1_firstWrong := goodIn_r _ [6, 7, 8, 9, 10, 5, 11, 12, 13, 14, 15, 25, 26] (by decide +kernel) (by decide +kernel)
set_option maxRecDepth 20000 in
theorem gX7_fault_X1_firstWrong : GoodIn wsX7_fault (wsV RX7 62 RX1 yX1_firstWrong wsX1_firstWrong) := goodIn_app (goodIn_of _ (by decide +kernel)) ggX7_fault_X1_firstWrong
theorem dX7_fault_0 : decode cX7_fault 0 = .ok (.aload_n 0, 1) := by decide +kernel
theorem dX7_fault_1 : decode cX7_fault 1 = .ok (.getfield 10, 3) := by decide +kernel
theorem dX7_fault_4 : decode cX7_fault 4 = .ok (.invokevirtual 62, 3) := by decide +kernel
theorem dX7_fault_7 : decode cX7_fault 7 = .ok (.ireturn, 1) := by decide +kernel
set_option maxRecDepth 20000 in
theorem ggX7_floor_X1_isFloor : GoodIn wsX7_floor wsX1_isFloor := goodIn_r _ [15, 16, 17, 18, 19, 14, 20, 21, 22, 23, 24, 25, 26, 27, 28, 29, 30, 31, 32, 127, 128] (by decide +kernel) (by decide +kernel)
set_option maxRecDepth 20000 in
theorem gX7_floor_X1_isFloor : GoodIn wsX7_floor (wsV RX7 66 RX1 yX1_isFloor wsX1_isFloor) := goodIn_app (goodIn_of _ (by decide +kernel)) ggX7_floor_X1_isFloor
set_option maxRecDepth 20000 in
theorem ggX7_floor_X2_read : GoodIn wsX7_floor wsX2_read := goodIn_r _ [37, 38, 39, 40, 41, 42, 43, 44, 45, 46, 18, 19, 14, 20, 16, 21, 22, 23, 24, 25, 47, 48, 49, 50, 134, 135, 136, 137, 127, 128] (by decide +kernel) (by decide +kernel)
set_option maxRecDepth 20000 in
theorem gX7_floor_X2_read : GoodIn wsX7_floor (wsV RX7 70 RX2 yX2_read wsX2_read) := goodIn_app (goodIn_of _ (by decide +kernel)) ggX7_floor_X2_read
set_option maxRecDepth 20000 in
theorem ggX7_floor_X4_start : GoodIn wsX7_floor wsX4_start := goodIn_r _ [55, 56, 57, 58, 59, 60, 61, 62, 138, 139, 140, 141, 142, 143, 144, 145, 146, 147, 148, 149] (by decide +kernel) (by decide +kernel)
set_option maxRecDepth 20000 in
theorem gX7_floor_X4_start : GoodIn wsX7_floor (wsV RX7 74 RX4 yX4_start wsX4_start) := goodIn_app (goodIn_of _ (by decide +kernel)) ggX7_floor_X4_start
set_option maxRecDepth 20000 in
theorem ggX7_floor_X0_seek : GoodIn wsX7_floor wsX0_seek := goodIn_r _ [67, 68, 69, 70, 71, 39, 40, 41, 72, 73, 74, 75, 76, 77, 78, 79, 80, 81, 82, 83, 84, 85, 86, 87, 88, 89, 90, 91, 92, 93, 94, 95, 96, 97, 66, 98, 99, 100, 101, 102, 103, 104, 105, 106, 107, 108, 109, 110, 111, 112, 36, 113, 45, 114, 115, 116, 117, 42, 134, 135, 136, 137, 150, 151, 152, 153] (by decide +kernel) (by decide +kernel)
set_option maxRecDepth 20000 in
theorem gX7_floor_X0_seek : GoodIn wsX7_floor (wsV RX7 77 RX0 yX0_seek wsX0_seek) := goodIn_app (goodIn_of _ (by decide +kernel)) ggX7_floor_X0_seek
theorem dX7_floor_0 : decode cX7_floor 0 = .ok (.aload_n 0, 1) := by decide +kernel
theorem dX7_floor_1 : decode cX7_floor 1 = .ok (.getfield 10, 3) := by decide +kernel
theorem dX7_floor_4 : decode cX7_floor 4 = .ok (.invokevirtual 66, 3) := by decide +kernel
theorem dX7_floor_7 : decode cX7_floor 7 = .ok (.ifCond .ne 6, 3) := by decide +kernel
theorem dX7_floor_10 : decode cX7_floor 10 = .ok (.bipush (-103), 2) := by decide +kernel
theorem dX7_floor_12 : decode cX7_floor 12 = .ok (.ireturn, 1) := by decide +kernel
theorem dX7_floor_13 : decode cX7_floor 13 = .ok (.aload_n 0, 1) := by decide +kernel
theorem dX7_floor_14 : decode cX7_floor 14 = .ok (.getfield 19, 3) := by decide +kernel
theorem dX7_floor_17 : decode cX7_floor 17 = .ok (.aload_n 0, 1) := by decide +kernel
theorem dX7_floor_18 : decode cX7_floor 18 = .ok (.getfield 10, 3) := by decide +kernel
theorem dX7_floor_21 : decode cX7_floor 21 = .ok (.invokevirtual 70, 3) := by decide +kernel
theorem dX7_floor_24 : decode cX7_floor 24 = .ok (.aload_n 0, 1) := by decide +kernel
theorem dX7_floor_25 : decode cX7_floor 25 = .ok (.getfield 10, 3) := by decide +kernel
theorem dX7_floor_28 : decode cX7_floor 28 = .ok (.iconst 0, 1) := by decide +kernel
theorem dX7_floor_29 : decode cX7_floor 29 = .ok (.putfield 54, 3) := by decide +kernel
theorem dX7_floor_32 : decode cX7_floor 32 = .ok (.aload_n 0, 1) := by decide +kernel
theorem dX7_floor_33 : decode cX7_floor 33 = .ok (.getfield 26, 3) := by decide +kernel
theorem dX7_floor_36 : decode cX7_floor 36 = .ok (.invokevirtual 74, 3) := by decide +kernel
theorem dX7_floor_39 : decode cX7_floor 39 = .ok (.aload_n 0, 1) := by decide +kernel
theorem dX7_floor_40 : decode cX7_floor 40 = .ok (.getfield 36, 3) := by decide +kernel
theorem dX7_floor_43 : decode cX7_floor 43 = .ok (.aload_n 0, 1) := by decide +kernel
theorem dX7_floor_44 : decode cX7_floor 44 = .ok (.getfield 19, 3) := by decide +kernel
theorem dX7_floor_47 : decode cX7_floor 47 = .ok (.invokevirtual 77, 3) := by decide +kernel
theorem dX7_floor_50 : decode cX7_floor 50 = .ok (.aload_n 0, 1) := by decide +kernel
theorem dX7_floor_51 : decode cX7_floor 51 = .ok (.getfield 43, 3) := by decide +kernel
theorem dX7_floor_54 : decode cX7_floor 54 = .ok (.iconst 0, 1) := by decide +kernel
theorem dX7_floor_55 : decode cX7_floor 55 = .ok (.putfield 81, 3) := by decide +kernel
theorem dX7_floor_58 : decode cX7_floor 58 = .ok (.aload_n 0, 1) := by decide +kernel
theorem dX7_floor_59 : decode cX7_floor 59 = .ok (.iconst 0, 1) := by decide +kernel
theorem dX7_floor_60 : decode cX7_floor 60 = .ok (.putfield 85, 3) := by decide +kernel
theorem dX7_floor_63 : decode cX7_floor 63 = .ok (.aload_n 0, 1) := by decide +kernel
theorem dX7_floor_64 : decode cX7_floor 64 = .ok (.dup, 1) := by decide +kernel
theorem dX7_floor_65 : decode cX7_floor 65 = .ok (.getfield 88, 3) := by decide +kernel
theorem dX7_floor_68 : decode cX7_floor 68 = .ok (.iconst 1, 1) := by decide +kernel
theorem dX7_floor_69 : decode cX7_floor 69 = .ok (.iadd, 1) := by decide +kernel
theorem dX7_floor_70 : decode cX7_floor 70 = .ok (.putfield 88, 3) := by decide +kernel
theorem dX7_floor_73 : decode cX7_floor 73 = .ok (.aload_n 0, 1) := by decide +kernel
theorem dX7_floor_74 : decode cX7_floor 74 = .ok (.getfield 19, 3) := by decide +kernel
theorem dX7_floor_77 : decode cX7_floor 77 = .ok (.getfield 91, 3) := by decide +kernel
theorem dX7_floor_80 : decode cX7_floor 80 = .ok (.ireturn, 1) := by decide +kernel
set_option maxRecDepth 20000 in
theorem ggX7_hook_X7_isKnown : GoodIn wsX7_hook wsX7_isKnown := goodIn_r _ [12, 4, 13, 14, 15, 16, 17, 18, 37, 38, 39, 40, 41, 42, 43, 44, 45, 54, 55, 56, 57] (by decide +kernel) (by decide +kernel)
set_option maxRecDepth 20000 in
theorem gX7_hook_X7_isKnown : GoodIn wsX7_hook (wsV RX7 94 RX7 yX7_isKnown wsX7_isKnown) := goodIn_app (goodIn_of _ (by decide +kernel)) ggX7_hook_X7_isKnown
set_option maxRecDepth 20000 in
theorem ggX7_hook_X3_notFor : GoodIn wsX7_hook wsX3_notFor := goodIn_r _ [23, 24, 25, 58, 59, 60, 61] (by decide +kernel) (by decide +kernel)
set_option maxRecDepth 20000 in
theorem gX7_hook_X3_notFor : GoodIn wsX7_hook (wsV RX7 115 RX3 yX3_notFor wsX3_notFor) := goodIn_app (goodIn_of _ (by decide +kernel)) ggX7_hook_X3_notFor
set_option maxRecDepth 20000 in
theorem ggX7_hook_X3_ofKind : GoodIn wsX7_hook wsX3_ofKind := goodIn_r _ [29, 24, 30, 58, 59, 60, 61] (by decide +kernel) (by decide +kernel)
set_option maxRecDepth 20000 in
theorem gX7_hook_X3_ofKind : GoodIn wsX7_hook (wsV RX7 119 RX3 yX3_ofKind wsX3_ofKind) := goodIn_app (goodIn_of _ (by decide +kernel)) ggX7_hook_X3_ofKind
set_option maxRecDepth 20000 in
theorem ggX7_hook_X2_oftenOf : GoodIn wsX7_hook wsX2_oftenOf := goodIn_r _ [34, 35, 36, 14, 15, 16, 17, 18, 54, 55, 56, 57] (by decide +kernel) (by decide +kernel)
set_option maxRecDepth 20000 in
theorem gX7_hook_X2_oftenOf : GoodIn wsX7_hook (wsV RX7 122 RX2 yX2_oftenOf wsX2_oftenOf) := goodIn_app (goodIn_of _ (by decide +kernel)) ggX7_hook_X2_oftenOf
theorem dX7_hook_0 : decode cX7_hook 0 = .ok (.aload_n 0, 1) := by decide +kernel
theorem dX7_hook_1 : decode cX7_hook 1 = .ok (.iload_n 1, 1) := by decide +kernel
theorem dX7_hook_2 : decode cX7_hook 2 = .ok (.invokevirtual 94, 3) := by decide +kernel
theorem dX7_hook_5 : decode cX7_hook 5 = .ok (.ifCond .ne 6, 3) := by decide +kernel
theorem dX7_hook_8 : decode cX7_hook 8 = .ok (.bipush (-101), 2) := by decide +kernel
theorem dX7_hook_10 : decode cX7_hook 10 = .ok (.ireturn, 1) := by decide +kernel
theorem dX7_hook_11 : decode cX7_hook 11 = .ok (.aload_n 0, 1) := by decide +kernel
theorem dX7_hook_12 : decode cX7_hook 12 = .ok (.getfield 26, 3) := by decide +kernel
theorem dX7_hook_15 : decode cX7_hook 15 = .ok (.getfield 98, 3) := by decide +kernel
theorem dX7_hook_18 : decode cX7_hook 18 = .ok (.iload_n 1, 1) := by decide +kernel
theorem dX7_hook_19 : decode cX7_hook 19 = .ok (.aaload, 1) := by decide +kernel
theorem dX7_hook_20 : decode cX7_hook 20 = .ok (.astore_n 3, 1) := by decide +kernel
theorem dX7_hook_21 : decode cX7_hook 21 = .ok (.aload_n 0, 1) := by decide +kernel
theorem dX7_hook_22 : decode cX7_hook 22 = .ok (.getfield 26, 3) := by decide +kernel
theorem dX7_hook_25 : decode cX7_hook 25 = .ok (.getfield 102, 3) := by decide +kernel
theorem dX7_hook_28 : decode cX7_hook 28 = .ok (.iload_n 1, 1) := by decide +kernel
theorem dX7_hook_29 : decode cX7_hook 29 = .ok (.iaload, 1) := by decide +kernel
theorem dX7_hook_30 : decode cX7_hook 30 = .ok (.istore 4, 2) := by decide +kernel
theorem dX7_hook_32 : decode cX7_hook 32 = .ok (.iload_n 2, 1) := by decide +kernel
theorem dX7_hook_33 : decode cX7_hook 33 = .ok (.tableswitch 94 0 6 #[43, 53, 63, 66, 71, 78, 84], 43) := by decide +kernel
theorem dX7_hook_76 : decode cX7_hook 76 = .ok (.aload_n 0, 1) := by decide +kernel
theorem dX7_hook_77 : decode cX7_hook 77 = .ok (.getfield 19, 3) := by decide +kernel
theorem dX7_hook_80 : decode cX7_hook 80 = .ok (.getfield 106, 3) := by decide +kernel
theorem dX7_hook_83 : decode cX7_hook 83 = .ok (.iload_n 1, 1) := by decide +kernel
theorem dX7_hook_84 : decode cX7_hook 84 = .ok (.iaload, 1) := by decide +kernel
theorem dX7_hook_85 : decode cX7_hook 85 = .ok (.ireturn, 1) := by decide +kernel
theorem dX7_hook_86 : decode cX7_hook 86 = .ok (.aload_n 0, 1) := by decide +kernel
theorem dX7_hook_87 : decode cX7_hook 87 = .ok (.getfield 19, 3) := by decide +kernel
theorem dX7_hook_90 : decode cX7_hook 90 = .ok (.getfield 109, 3) := by decide +kernel
theorem dX7_hook_93 : decode cX7_hook 93 = .ok (.iload_n 1, 1) := by decide +kernel
theorem dX7_hook_94 : decode cX7_hook 94 = .ok (.iaload, 1) := by decide +kernel
theorem dX7_hook_95 : decode cX7_hook 95 = .ok (.ireturn, 1) := by decide +kernel
theorem dX7_hook_96 : decode cX7_hook 96 = .ok (.iload 4, 2) := by decide +kernel
theorem dX7_hook_98 : decode cX7_hook 98 = .ok (.ireturn, 1) := by decide +kernel
theorem dX7_hook_99 : decode cX7_hook 99 = .ok (.aload_n 3, 1) := by decide +kernel
theorem dX7_hook_100 : decode cX7_hook 100 = .ok (.getfield 112, 3) := by decide +kernel
theorem dX7_hook_103 : decode cX7_hook 103 = .ok (.ireturn, 1) := by decide +kernel
theorem dX7_hook_104 : decode cX7_hook 104 = .ok (.aload_n 3, 1) := by decide +kernel
theorem dX7_hook_105 : decode cX7_hook 105 = .ok (.iload 4, 2) := by decide +kernel
theorem dX7_hook_107 : decode cX7_hook 107 = .ok (.invokevirtual 115, 3) := by decide +kernel
theorem dX7_hook_110 : decode cX7_hook 110 = .ok (.ireturn, 1) := by decide +kernel
theorem dX7_hook_111 : decode cX7_hook 111 = .ok (.aload_n 3, 1) := by decide +kernel
theorem dX7_hook_112 : decode cX7_hook 112 = .ok (.iconst 3, 1) := by decide +kernel
theorem dX7_hook_113 : decode cX7_hook 113 = .ok (.invokevirtual 119, 3) := by decide +kernel
theorem dX7_hook_116 : decode cX7_hook 116 = .ok (.ireturn, 1) := by decide +kernel
theorem dX7_hook_117 : decode cX7_hook 117 = .ok (.aload_n 0, 1) := by decide +kernel
theorem dX7_hook_118 : decode cX7_hook 118 = .ok (.getfield 19, 3) := by decide +kernel
theorem dX7_hook_121 : decode cX7_hook 121 = .ok (.iload 4, 2) := by decide +kernel
theorem dX7_hook_123 : decode cX7_hook 123 = .ok (.invokevirtual 122, 3) := by decide +kernel
theorem dX7_hook_126 : decode cX7_hook 126 = .ok (.ireturn, 1) := by decide +kernel
theorem dX7_hook_127 : decode cX7_hook 127 = .ok (.bipush (-102), 2) := by decide +kernel
theorem dX7_hook_129 : decode cX7_hook 129 = .ok (.ireturn, 1) := by decide +kernel
set_option maxRecDepth 20000 in
theorem ggX7_parcel_X7_isKind : GoodIn wsX7_parcel wsX7_isKind := goodIn_r _ [7, 8] (by decide +kernel) (by decide +kernel)
set_option maxRecDepth 20000 in
theorem gX7_parcel_X7_isKind : GoodIn wsX7_parcel (va_wsS RX7 125 yX7_isKind wsX7_isKind) := goodIn_app (goodIn_of _ (by decide +kernel)) ggX7_parcel_X7_isKind
set_option maxRecDepth 20000 in
theorem ggX7_parcel_X7_isKnown : GoodIn wsX7_parcel wsX7_isKnown := goodIn_r _ [12, 13, 14, 15, 16, 17, 18, 19, 29, 30, 31, 32, 33, 34, 35, 36, 37, 50, 51, 52, 53] (by decide +kernel) (by decide +kernel)
set_option maxRecDepth 20000 in
theorem gX7_parcel_X7_isKnown : GoodIn wsX7_parcel (wsV RX7 94 RX7 yX7_isKnown wsX7_isKnown) := goodIn_app (goodIn_of _ (by decide +kernel)) ggX7_parcel_X7_isKnown
set_option maxRecDepth 20000 in
theorem ggX7_parcel_X3_add : GoodIn wsX7_parcel wsX3_add := goodIn_r _ [24, 25, 26, 27, 28, 46, 47, 48, 49] (by decide +kernel) (by decide +kernel)
set_option maxRecDepth 20000 in
theorem gX7_parcel_X3_add : GoodIn wsX7_parcel (wsV RX7 132 RX3 yX3_add wsX3_add) := goodIn_app (goodIn_of _ (by decide +kernel)) ggX7_parcel_X3_add
theorem dX7_parcel_0 : decode cX7_parcel 0 = .ok (.iload_n 1, 1) := by decide +kernel
theorem dX7_parcel_1 : decode cX7_parcel 1 = .ok (.invokestatic 125, 3) := by decide +kernel
theorem dX7_parcel_4 : decode cX7_parcel 4 = .ok (.ifCond .ne 6, 3) := by decide +kernel
theorem dX7_parcel_7 : decode cX7_parcel 7 = .ok (.bipush (-102), 2) := by decide +kernel
theorem dX7_parcel_9 : decode cX7_parcel 9 = .ok (.ireturn, 1) := by decide +kernel
theorem dX7_parcel_10 : decode cX7_parcel 10 = .ok (.aload_n 0, 1) := by decide +kernel
theorem dX7_parcel_11 : decode cX7_parcel 11 = .ok (.iload_n 2, 1) := by decide +kernel
theorem dX7_parcel_12 : decode cX7_parcel 12 = .ok (.invokevirtual 94, 3) := by decide +kernel
theorem dX7_parcel_15 : decode cX7_parcel 15 = .ok (.ifCond .ne 6, 3) := by decide +kernel
theorem dX7_parcel_18 : decode cX7_parcel 18 = .ok (.bipush (-101), 2) := by decide +kernel
theorem dX7_parcel_20 : decode cX7_parcel 20 = .ok (.ireturn, 1) := by decide +kernel
theorem dX7_parcel_21 : decode cX7_parcel 21 = .ok (.aload_n 0, 1) := by decide +kernel
theorem dX7_parcel_22 : decode cX7_parcel 22 = .ok (.getfield 26, 3) := by decide +kernel
theorem dX7_parcel_25 : decode cX7_parcel 25 = .ok (.getfield 128, 3) := by decide +kernel
theorem dX7_parcel_28 : decode cX7_parcel 28 = .ok (.getfield 112, 3) := by decide +kernel
theorem dX7_parcel_31 : decode cX7_parcel 31 = .ok (.bipush 8, 2) := by decide +kernel
theorem dX7_parcel_33 : decode cX7_parcel 33 = .ok (.if_icmp .lt 6, 3) := by decide +kernel
theorem dX7_parcel_36 : decode cX7_parcel 36 = .ok (.bipush (-104), 2) := by decide +kernel
theorem dX7_parcel_38 : decode cX7_parcel 38 = .ok (.ireturn, 1) := by decide +kernel
theorem dX7_parcel_39 : decode cX7_parcel 39 = .ok (.aload_n 0, 1) := by decide +kernel
theorem dX7_parcel_40 : decode cX7_parcel 40 = .ok (.getfield 26, 3) := by decide +kernel
theorem dX7_parcel_43 : decode cX7_parcel 43 = .ok (.getfield 128, 3) := by decide +kernel
theorem dX7_parcel_46 : decode cX7_parcel 46 = .ok (.iload_n 1, 1) := by decide +kernel
theorem dX7_parcel_47 : decode cX7_parcel 47 = .ok (.iload_n 2, 1) := by decide +kernel
theorem dX7_parcel_48 : decode cX7_parcel 48 = .ok (.iconst 0, 1) := by decide +kernel
theorem dX7_parcel_49 : decode cX7_parcel 49 = .ok (.invokevirtual 132, 3) := by decide +kernel
theorem dX7_parcel_52 : decode cX7_parcel 52 = .ok (.aload_n 0, 1) := by decide +kernel
theorem dX7_parcel_53 : decode cX7_parcel 53 = .ok (.getfield 26, 3) := by decide +kernel
theorem dX7_parcel_56 : decode cX7_parcel 56 = .ok (.getfield 128, 3) := by decide +kernel
theorem dX7_parcel_59 : decode cX7_parcel 59 = .ok (.getfield 112, 3) := by decide +kernel
theorem dX7_parcel_62 : decode cX7_parcel 62 = .ok (.ireturn, 1) := by decide +kernel
set_option maxRecDepth 20000 in
theorem ggX7_belt_X3_kindAt : GoodIn wsX7_belt wsX3_kindAt := goodIn_r _ [8, 9, 10, 38, 39, 40, 41] (by decide +kernel) (by decide +kernel)
set_option maxRecDepth 20000 in
theorem gX7_belt_X3_kindAt : GoodIn wsX7_belt (wsV RX7 135 RX3 yX3_kindAt wsX3_kindAt) := goodIn_app (goodIn_of _ (by decide +kernel)) ggX7_belt_X3_kindAt
set_option maxRecDepth 20000 in
theorem ggX7_belt_X3_townAt : GoodIn wsX7_belt wsX3_townAt := goodIn_r _ [14, 9, 15, 38, 39, 40, 41] (by decide +kernel) (by decide +kernel)
set_option maxRecDepth 20000 in
theorem gX7_belt_X3_townAt : GoodIn wsX7_belt (wsV RX7 138 RX3 yX3_townAt wsX3_townAt) := goodIn_app (goodIn_of _ (by decide +kernel)) ggX7_belt_X3_townAt
set_option maxRecDepth 20000 in
theorem ggX7_belt_X7_gripOf : GoodIn wsX7_belt wsX7_gripOf := goodIn_r _ [19, 20] (by decide +kernel) (by decide +kernel)
set_option maxRecDepth 20000 in
theorem gX7_belt_X7_gripOf : GoodIn wsX7_belt (va_wsS RX7 141 yX7_gripOf wsX7_gripOf) := goodIn_app (goodIn_of _ (by decide +kernel)) ggX7_belt_X7_gripOf
theorem dX7_belt_0 : decode cX7_belt 0 = .ok (.iload_n 1, 1) := by decide +kernel
theorem dX7_belt_1 : decode cX7_belt 1 = .ok (.ifCond .lt 17, 3) := by decide +kernel
theorem dX7_belt_4 : decode cX7_belt 4 = .ok (.iload_n 1, 1) := by decide +kernel
theorem dX7_belt_5 : decode cX7_belt 5 = .ok (.aload_n 0, 1) := by decide +kernel
theorem dX7_belt_6 : decode cX7_belt 6 = .ok (.getfield 26, 3) := by decide +kernel
theorem dX7_belt_9 : decode cX7_belt 9 = .ok (.getfield 128, 3) := by decide +kernel
theorem dX7_belt_12 : decode cX7_belt 12 = .ok (.getfield 112, 3) := by decide +kernel
theorem dX7_belt_15 : decode cX7_belt 15 = .ok (.if_icmp .lt 6, 3) := by decide +kernel
theorem dX7_belt_18 : decode cX7_belt 18 = .ok (.bipush (-101), 2) := by decide +kernel
theorem dX7_belt_20 : decode cX7_belt 20 = .ok (.ireturn, 1) := by decide +kernel
theorem dX7_belt_21 : decode cX7_belt 21 = .ok (.iload_n 2, 1) := by decide +kernel
theorem dX7_belt_22 : decode cX7_belt 22 = .ok (.tableswitch 65 0 2 #[26, 38, 50], 26) := by decide +kernel
theorem dX7_belt_48 : decode cX7_belt 48 = .ok (.aload_n 0, 1) := by decide +kernel
theorem dX7_belt_49 : decode cX7_belt 49 = .ok (.getfield 26, 3) := by decide +kernel
theorem dX7_belt_52 : decode cX7_belt 52 = .ok (.getfield 128, 3) := by decide +kernel
theorem dX7_belt_55 : decode cX7_belt 55 = .ok (.iload_n 1, 1) := by decide +kernel
theorem dX7_belt_56 : decode cX7_belt 56 = .ok (.invokevirtual 135, 3) := by decide +kernel
theorem dX7_belt_59 : decode cX7_belt 59 = .ok (.ireturn, 1) := by decide +kernel
theorem dX7_belt_60 : decode cX7_belt 60 = .ok (.aload_n 0, 1) := by decide +kernel
theorem dX7_belt_61 : decode cX7_belt 61 = .ok (.getfield 26, 3) := by decide +kernel
theorem dX7_belt_64 : decode cX7_belt 64 = .ok (.getfield 128, 3) := by decide +kernel
theorem dX7_belt_67 : decode cX7_belt 67 = .ok (.iload_n 1, 1) := by decide +kernel
theorem dX7_belt_68 : decode cX7_belt 68 = .ok (.invokevirtual 138, 3) := by decide +kernel
theorem dX7_belt_71 : decode cX7_belt 71 = .ok (.ireturn, 1) := by decide +kernel
theorem dX7_belt_72 : decode cX7_belt 72 = .ok (.aload_n 0, 1) := by decide +kernel
theorem dX7_belt_73 : decode cX7_belt 73 = .ok (.getfield 26, 3) := by decide +kernel
theorem dX7_belt_76 : decode cX7_belt 76 = .ok (.getfield 128, 3) := by decide +kernel
theorem dX7_belt_79 : decode cX7_belt 79 = .ok (.iload_n 1, 1) := by decide +kernel
theorem dX7_belt_80 : decode cX7_belt 80 = .ok (.invokevirtual 135, 3) := by decide +kernel
theorem dX7_belt_83 : decode cX7_belt 83 = .ok (.invokestatic 141, 3) := by decide +kernel
theorem dX7_belt_86 : decode cX7_belt 86 = .ok (.ireturn, 1) := by decide +kernel
theorem dX7_belt_87 : decode cX7_belt 87 = .ok (.bipush (-102), 2) := by decide +kernel
theorem dX7_belt_89 : decode cX7_belt 89 = .ok (.ireturn, 1) := by decide +kernel
set_option maxRecDepth 20000 in
theorem ggX7_as_X7_isKind : GoodIn wsX7_as wsX7_isKind := goodIn_r _ [7, 8] (by decide +kernel) (by decide +kernel)
set_option maxRecDepth 20000 in
theorem gX7_as_X7_isKind : GoodIn wsX7_as (va_wsS RX7 125 yX7_isKind wsX7_isKind) := goodIn_app (goodIn_of _ (by decide +kernel)) ggX7_as_X7_isKind
set_option maxRecDepth 20000 in
theorem ggX7_as_X3_kindAt : GoodIn wsX7_as wsX3_kindAt := goodIn_r _ [13, 14, 15, 41, 42, 43, 44] (by decide +kernel) (by decide +kernel)
set_option maxRecDepth 20000 in
theorem gX7_as_X3_kindAt : GoodIn wsX7_as (wsV RX7 135 RX3 yX3_kindAt wsX3_kindAt) := goodIn_app (goodIn_of _ (by decide +kernel)) ggX7_as_X3_kindAt
set_option maxRecDepth 20000 in
theorem ggX7_as_X7_isA : GoodIn wsX7_as wsX7_isA := goodIn_r _ [18] (by decide +kernel) (by decide +kernel)
set_option maxRecDepth 20000 in
theorem gX7_as_X7_isA : GoodIn wsX7_as (va_wsS RX7 144 yX7_isA wsX7_isA) := goodIn_app (goodIn_of _ (by decide +kernel)) ggX7_as_X7_isA
set_option maxRecDepth 20000 in
theorem ggX7_as_X3_townAt : GoodIn wsX7_as wsX3_townAt := goodIn_r _ [22, 14, 23, 41, 42, 43, 44] (by decide +kernel) (by decide +kernel)
set_option maxRecDepth 20000 in
theorem gX7_as_X3_townAt : GoodIn wsX7_as (wsV RX7 138 RX3 yX3_townAt wsX3_townAt) := goodIn_app (goodIn_of _ (by decide +kernel)) ggX7_as_X3_townAt
theorem dX7_as_0 : decode cX7_as 0 = .ok (.iload_n 1, 1) := by decide +kernel
theorem dX7_as_1 : decode cX7_as 1 = .ok (.ifCond .lt 17, 3) := by decide +kernel
theorem dX7_as_4 : decode cX7_as 4 = .ok (.iload_n 1, 1) := by decide +kernel
theorem dX7_as_5 : decode cX7_as 5 = .ok (.aload_n 0, 1) := by decide +kernel
theorem dX7_as_6 : decode cX7_as 6 = .ok (.getfield 26, 3) := by decide +kernel
theorem dX7_as_9 : decode cX7_as 9 = .ok (.getfield 128, 3) := by decide +kernel
theorem dX7_as_12 : decode cX7_as 12 = .ok (.getfield 112, 3) := by decide +kernel
theorem dX7_as_15 : decode cX7_as 15 = .ok (.if_icmp .lt 6, 3) := by decide +kernel
theorem dX7_as_18 : decode cX7_as 18 = .ok (.bipush (-101), 2) := by decide +kernel
theorem dX7_as_20 : decode cX7_as 20 = .ok (.ireturn, 1) := by decide +kernel
theorem dX7_as_21 : decode cX7_as 21 = .ok (.iload_n 2, 1) := by decide +kernel
theorem dX7_as_22 : decode cX7_as 22 = .ok (.invokestatic 125, 3) := by decide +kernel
theorem dX7_as_25 : decode cX7_as 25 = .ok (.ifCond .ne 6, 3) := by decide +kernel
theorem dX7_as_28 : decode cX7_as 28 = .ok (.bipush (-102), 2) := by decide +kernel
theorem dX7_as_30 : decode cX7_as 30 = .ok (.ireturn, 1) := by decide +kernel
theorem dX7_as_31 : decode cX7_as 31 = .ok (.aload_n 0, 1) := by decide +kernel
theorem dX7_as_32 : decode cX7_as 32 = .ok (.getfield 26, 3) := by decide +kernel
theorem dX7_as_35 : decode cX7_as 35 = .ok (.getfield 128, 3) := by decide +kernel
theorem dX7_as_38 : decode cX7_as 38 = .ok (.iload_n 1, 1) := by decide +kernel
theorem dX7_as_39 : decode cX7_as 39 = .ok (.invokevirtual 135, 3) := by decide +kernel
theorem dX7_as_42 : decode cX7_as 42 = .ok (.iload_n 2, 1) := by decide +kernel
theorem dX7_as_43 : decode cX7_as 43 = .ok (.invokestatic 144, 3) := by decide +kernel
theorem dX7_as_46 : decode cX7_as 46 = .ok (.ifCond .eq 17, 3) := by decide +kernel
theorem dX7_as_49 : decode cX7_as 49 = .ok (.aload_n 0, 1) := by decide +kernel
theorem dX7_as_50 : decode cX7_as 50 = .ok (.getfield 26, 3) := by decide +kernel
theorem dX7_as_53 : decode cX7_as 53 = .ok (.getfield 128, 3) := by decide +kernel
theorem dX7_as_56 : decode cX7_as 56 = .ok (.iload_n 1, 1) := by decide +kernel
theorem dX7_as_57 : decode cX7_as 57 = .ok (.invokevirtual 138, 3) := by decide +kernel
theorem dX7_as_60 : decode cX7_as 60 = .ok (.goto 4, 3) := by decide +kernel
theorem dX7_as_63 : decode cX7_as 63 = .ok (.iconst (-1), 1) := by decide +kernel
theorem dX7_as_64 : decode cX7_as 64 = .ok (.ireturn, 1) := by decide +kernel
set_option maxRecDepth 20000 in
theorem ggX7_toss_X7_isKnown : GoodIn wsX7_toss wsX7_isKnown := goodIn_r _ [12, 4, 13, 14, 15, 16, 17, 18, 84, 85, 86, 87, 88, 89, 90, 91, 92, 105, 106, 107, 108] (by decide +kernel) (by decide +kernel)
set_option maxRecDepth 20000 in
theorem gX7_toss_X7_isKnown : GoodIn wsX7_toss (wsV RX7 94 RX7 yX7_isKnown wsX7_isKnown) := goodIn_app (goodIn_of _ (by decide +kernel)) ggX7_toss_X7_isKnown
set_option maxRecDepth 20000 in
theorem ggX7_toss_X7_isFull : GoodIn wsX7_toss wsX7_isFull := goodIn_r _ [22, 1, 23, 3, 4, 24, 8, 9, 10, 11, 12, 13, 14, 15, 16, 17, 18, 84, 85, 86, 87, 88, 89, 90, 91, 92, 93, 94, 95, 96, 97, 98, 99, 100, 101, 102, 103, 104, 105, 106, 107, 108] (by decide +kernel) (by decide +kernel)
set_option maxRecDepth 20000 in
theorem gX7_toss_X7_isFull : GoodIn wsX7_toss (wsV RX7 148 RX7 yX7_isFull wsX7_isFull) := goodIn_app (goodIn_of _ (by decide +kernel)) ggX7_toss_X7_isFull
set_option maxRecDepth 20000 in
theorem ggX7_toss_X3_kindAt : GoodIn wsX7_toss wsX3_kindAt := goodIn_r _ [29, 30, 31, 101, 102, 103, 104] (by decide +kernel) (by decide +kernel)
set_option maxRecDepth 20000 in
theorem gX7_toss_X3_kindAt : GoodIn wsX7_toss (wsV RX7 135 RX3 yX3_kindAt wsX3_kindAt) := goodIn_app (goodIn_of _ (by decide +kernel)) ggX7_toss_X3_kindAt
set_option maxRecDepth 20000 in
theorem ggX7_toss_X7_tenthsAt : GoodIn wsX7_toss wsX7_tenthsAt := goodIn_r _ [35, 4, 7, 5, 8, 9, 10, 11, 12, 13, 14, 15, 16, 17, 18, 36, 37, 38, 19, 20, 21, 22, 1, 23, 3, 24, 39, 40, 41, 42, 43, 44, 45, 46, 47, 48, 49, 50, 51, 52, 84, 85, 86, 87, 88, 89, 90, 91, 92, 105, 106, 107, 108, 93, 94, 95, 96, 97, 98, 99, 100, 101, 102, 103, 104] (by decide +kernel) (by decide +kernel)
set_option maxRecDepth 20000 in
theorem gX7_toss_X7_tenthsAt : GoodIn wsX7_toss (wsV RX7 151 RX7 yX7_tenthsAt wsX7_tenthsAt) := goodIn_app (goodIn_of _ (by decide +kernel)) ggX7_toss_X7_tenthsAt
set_option maxRecDepth 20000 in
theorem ggX7_toss_X7_nextTo : GoodIn wsX7_toss wsX7_nextTo := goodIn_r _ [38] (by decide +kernel) (by decide +kernel)
set_option maxRecDepth 20000 in
theorem gX7_toss_X7_nextTo : GoodIn wsX7_toss (va_wsS RX7 155 yX7_nextTo wsX7_nextTo) := goodIn_app (goodIn_of _ (by decide +kernel)) ggX7_toss_X7_nextTo
set_option maxRecDepth 20000 in
theorem ggX7_toss_X7_carrySeconds : GoodIn wsX7_toss wsX7_carrySeconds := goodIn_r _ [55] (by decide +kernel) (by decide +kernel)
set_option maxRecDepth 20000 in
theorem gX7_toss_X7_carrySeconds : GoodIn wsX7_toss (va_wsS RX7 162 yX7_carrySeconds wsX7_carrySeconds) := goodIn_app (goodIn_of _ (by decide +kernel)) ggX7_toss_X7_carrySeconds
set_option maxRecDepth 20000 in
theorem ggX7_toss_X4_putFirst : GoodIn wsX7_toss wsX4_putFirst := goodIn_r _ [60, 61, 62, 63, 64, 26, 27, 28, 29, 30, 31, 65, 66, 67, 68, 69, 70, 71, 72, 73, 74, 75, 76, 77, 78, 79, 80, 81, 82, 83, 47, 44, 48, 93, 94, 95, 96, 97, 98, 99, 100, 101, 102, 103, 104] (by decide +kernel) (by decide +kernel)
set_option maxRecDepth 20000 in
theorem gX7_toss_X4_putFirst : GoodIn wsX7_toss (wsV RX7 165 RX4 yX4_putFirst wsX4_putFirst) := goodIn_app (goodIn_of _ (by decide +kernel)) ggX7_toss_X4_putFirst
theorem dX7_toss_0 : decode cX7_toss 0 = .ok (.aload_n 0, 1) := by decide +kernel
theorem dX7_toss_1 : decode cX7_toss 1 = .ok (.iload_n 1, 1) := by decide +kernel
theorem dX7_toss_2 : decode cX7_toss 2 = .ok (.invokevirtual 94, 3) := by decide +kernel
theorem dX7_toss_5 : decode cX7_toss 5 = .ok (.ifCond .ne 6, 3) := by decide +kernel
theorem dX7_toss_8 : decode cX7_toss 8 = .ok (.bipush (-101), 2) := by decide +kernel
theorem dX7_toss_10 : decode cX7_toss 10 = .ok (.ireturn, 1) := by decide +kernel
theorem dX7_toss_11 : decode cX7_toss 11 = .ok (.iload_n 2, 1) := by decide +kernel
theorem dX7_toss_12 : decode cX7_toss 12 = .ok (.ifCond .lt 8, 3) := by decide +kernel
theorem dX7_toss_15 : decode cX7_toss 15 = .ok (.iload_n 2, 1) := by decide +kernel
theorem dX7_toss_16 : decode cX7_toss 16 = .ok (.iconst 2, 1) := by decide +kernel
theorem dX7_toss_17 : decode cX7_toss 17 = .ok (.if_icmp .le 6, 3) := by decide +kernel
theorem dX7_toss_20 : decode cX7_toss 20 = .ok (.bipush (-102), 2) := by decide +kernel
theorem dX7_toss_22 : decode cX7_toss 22 = .ok (.ireturn, 1) := by decide +kernel
theorem dX7_toss_23 : decode cX7_toss 23 = .ok (.aload_n 0, 1) := by decide +kernel
theorem dX7_toss_24 : decode cX7_toss 24 = .ok (.getfield 26, 3) := by decide +kernel
theorem dX7_toss_27 : decode cX7_toss 27 = .ok (.getfield 128, 3) := by decide +kernel
theorem dX7_toss_30 : decode cX7_toss 30 = .ok (.getfield 112, 3) := by decide +kernel
theorem dX7_toss_33 : decode cX7_toss 33 = .ok (.ifCond .eq 31, 3) := by decide +kernel
theorem dX7_toss_36 : decode cX7_toss 36 = .ok (.aload_n 0, 1) := by decide +kernel
theorem dX7_toss_37 : decode cX7_toss 37 = .ok (.iload_n 1, 1) := by decide +kernel
theorem dX7_toss_38 : decode cX7_toss 38 = .ok (.invokevirtual 148, 3) := by decide +kernel
theorem dX7_toss_41 : decode cX7_toss 41 = .ok (.ifCond .ne 23, 3) := by decide +kernel
theorem dX7_toss_44 : decode cX7_toss 44 = .ok (.aload_n 0, 1) := by decide +kernel
theorem dX7_toss_45 : decode cX7_toss 45 = .ok (.aload_n 0, 1) := by decide +kernel
theorem dX7_toss_46 : decode cX7_toss 46 = .ok (.getfield 26, 3) := by decide +kernel
theorem dX7_toss_49 : decode cX7_toss 49 = .ok (.getfield 128, 3) := by decide +kernel
theorem dX7_toss_52 : decode cX7_toss 52 = .ok (.iconst 0, 1) := by decide +kernel
theorem dX7_toss_53 : decode cX7_toss 53 = .ok (.invokevirtual 135, 3) := by decide +kernel
theorem dX7_toss_56 : decode cX7_toss 56 = .ok (.iload_n 1, 1) := by decide +kernel
theorem dX7_toss_57 : decode cX7_toss 57 = .ok (.iload_n 2, 1) := by decide +kernel
theorem dX7_toss_58 : decode cX7_toss 58 = .ok (.invokevirtual 151, 3) := by decide +kernel
theorem dX7_toss_61 : decode cX7_toss 61 = .ok (.ifCond .ne 6, 3) := by decide +kernel
theorem dX7_toss_64 : decode cX7_toss 64 = .ok (.bipush (-103), 2) := by decide +kernel
theorem dX7_toss_66 : decode cX7_toss 66 = .ok (.ireturn, 1) := by decide +kernel
theorem dX7_toss_67 : decode cX7_toss 67 = .ok (.iload_n 2, 1) := by decide +kernel
theorem dX7_toss_68 : decode cX7_toss 68 = .ok (.iconst 1, 1) := by decide +kernel
theorem dX7_toss_69 : decode cX7_toss 69 = .ok (.if_icmp .ne 17, 3) := by decide +kernel
theorem dX7_toss_72 : decode cX7_toss 72 = .ok (.iload_n 1, 1) := by decide +kernel
theorem dX7_toss_73 : decode cX7_toss 73 = .ok (.aload_n 0, 1) := by decide +kernel
theorem dX7_toss_74 : decode cX7_toss 74 = .ok (.getfield 19, 3) := by decide +kernel
theorem dX7_toss_77 : decode cX7_toss 77 = .ok (.getfield 91, 3) := by decide +kernel
theorem dX7_toss_80 : decode cX7_toss 80 = .ok (.invokestatic 155, 3) := by decide +kernel
theorem dX7_toss_83 : decode cX7_toss 83 = .ok (.goto 4, 3) := by decide +kernel
theorem dX7_toss_86 : decode cX7_toss 86 = .ok (.iload_n 1, 1) := by decide +kernel
theorem dX7_toss_87 : decode cX7_toss 87 = .ok (.istore_n 3, 1) := by decide +kernel
theorem dX7_toss_88 : decode cX7_toss 88 = .ok (.aload_n 0, 1) := by decide +kernel
theorem dX7_toss_89 : decode cX7_toss 89 = .ok (.getfield 26, 3) := by decide +kernel
theorem dX7_toss_92 : decode cX7_toss 92 = .ok (.dup, 1) := by decide +kernel
theorem dX7_toss_93 : decode cX7_toss 93 = .ok (.getfield 159, 3) := by decide +kernel
theorem dX7_toss_96 : decode cX7_toss 96 = .ok (.iconst 2, 1) := by decide +kernel
theorem dX7_toss_97 : decode cX7_toss 97 = .ok (.iadd, 1) := by decide +kernel
theorem dX7_toss_98 : decode cX7_toss 98 = .ok (.putfield 159, 3) := by decide +kernel
theorem dX7_toss_101 : decode cX7_toss 101 = .ok (.iload_n 2, 1) := by decide +kernel
theorem dX7_toss_102 : decode cX7_toss 102 = .ok (.iconst 2, 1) := by decide +kernel
theorem dX7_toss_103 : decode cX7_toss 103 = .ok (.if_icmp .ne 27, 3) := by decide +kernel
theorem dX7_toss_106 : decode cX7_toss 106 = .ok (.aload_n 0, 1) := by decide +kernel
theorem dX7_toss_107 : decode cX7_toss 107 = .ok (.getfield 26, 3) := by decide +kernel
theorem dX7_toss_110 : decode cX7_toss 110 = .ok (.dup, 1) := by decide +kernel
theorem dX7_toss_111 : decode cX7_toss 111 = .ok (.getfield 159, 3) := by decide +kernel
theorem dX7_toss_114 : decode cX7_toss 114 = .ok (.aload_n 0, 1) := by decide +kernel
theorem dX7_toss_115 : decode cX7_toss 115 = .ok (.getfield 19, 3) := by decide +kernel
theorem dX7_toss_118 : decode cX7_toss 118 = .ok (.getfield 106, 3) := by decide +kernel
theorem dX7_toss_121 : decode cX7_toss 121 = .ok (.iload_n 1, 1) := by decide +kernel
theorem dX7_toss_122 : decode cX7_toss 122 = .ok (.iaload, 1) := by decide +kernel
theorem dX7_toss_123 : decode cX7_toss 123 = .ok (.invokestatic 162, 3) := by decide +kernel
theorem dX7_toss_126 : decode cX7_toss 126 = .ok (.iadd, 1) := by decide +kernel
theorem dX7_toss_127 : decode cX7_toss 127 = .ok (.putfield 159, 3) := by decide +kernel
theorem dX7_toss_130 : decode cX7_toss 130 = .ok (.aload_n 0, 1) := by decide +kernel
theorem dX7_toss_131 : decode cX7_toss 131 = .ok (.getfield 26, 3) := by decide +kernel
theorem dX7_toss_134 : decode cX7_toss 134 = .ok (.iload_n 3, 1) := by decide +kernel
theorem dX7_toss_135 : decode cX7_toss 135 = .ok (.iload_n 2, 1) := by decide +kernel
theorem dX7_toss_136 : decode cX7_toss 136 = .ok (.iconst 2, 1) := by decide +kernel
theorem dX7_toss_137 : decode cX7_toss 137 = .ok (.if_icmp .eq 7, 3) := by decide +kernel
theorem dX7_toss_140 : decode cX7_toss 140 = .ok (.iconst 1, 1) := by decide +kernel
theorem dX7_toss_141 : decode cX7_toss 141 = .ok (.goto 4, 3) := by decide +kernel
theorem dX7_toss_144 : decode cX7_toss 144 = .ok (.iconst 0, 1) := by decide +kernel
theorem dX7_toss_145 : decode cX7_toss 145 = .ok (.invokevirtual 165, 3) := by decide +kernel
theorem dX7_toss_148 : decode cX7_toss 148 = .ok (.iload_n 3, 1) := by decide +kernel
theorem dX7_toss_149 : decode cX7_toss 149 = .ok (.ireturn, 1) := by decide +kernel
set_option maxRecDepth 20000 in
theorem ggX7_carry_X7_isKnown : GoodIn wsX7_carry wsX7_isKnown := goodIn_r _ [11, 5, 12, 13, 14, 15, 16, 17, 64, 65, 66, 67, 68, 69, 70, 71, 72, 85, 86, 87, 88] (by decide +kernel) (by decide +kernel)
set_option maxRecDepth 20000 in
theorem gX7_carry_X7_isKnown : GoodIn wsX7_carry (wsV RX7 94 RX7 yX7_isKnown wsX7_isKnown) := goodIn_app (goodIn_of _ (by decide +kernel)) ggX7_carry_X7_isKnown
set_option maxRecDepth 20000 in
theorem ggX7_carry_X7_isFull : GoodIn wsX7_carry wsX7_isFull := goodIn_r _ [21, 1, 22, 3, 5, 23, 7, 8, 9, 10, 11, 12, 13, 14, 15, 16, 17, 64, 65, 66, 67, 68, 69, 70, 71, 72, 73, 74, 75, 76, 77, 78, 79, 80, 81, 82, 83, 84, 85, 86, 87, 88] (by decide +kernel) (by decide +kernel)
set_option maxRecDepth 20000 in
theorem gX7_carry_X7_isFull : GoodIn wsX7_carry (wsV RX7 148 RX7 yX7_isFull wsX7_isFull) := goodIn_app (goodIn_of _ (by decide +kernel)) ggX7_carry_X7_isFull
set_option maxRecDepth 20000 in
theorem ggX7_carry_X7_carrySeconds : GoodIn wsX7_carry wsX7_carrySeconds := goodIn_r _ [26] (by decide +kernel) (by decide +kernel)
set_option maxRecDepth 20000 in
theorem gX7_carry_X7_carrySeconds : GoodIn wsX7_carry (va_wsS RX7 162 yX7_carrySeconds wsX7_carrySeconds) := goodIn_app (goodIn_of _ (by decide +kernel)) ggX7_carry_X7_carrySeconds
set_option maxRecDepth 20000 in
theorem ggX7_carry_X4_putFirst : GoodIn wsX7_carry wsX4_putFirst := goodIn_r _ [31, 32, 33, 34, 35, 36, 37, 38, 39, 40, 41, 42, 43, 44, 45, 46, 47, 48, 49, 50, 51, 52, 53, 54, 55, 56, 57, 58, 59, 60, 61, 62, 63, 73, 74, 75, 76, 77, 78, 79, 80, 81, 82, 83, 84] (by decide +kernel) (by decide +kernel)
set_option maxRecDepth 20000 in
theorem gX7_carry_X4_putFirst : GoodIn wsX7_carry (wsV RX7 165 RX4 yX4_putFirst wsX4_putFirst) := goodIn_app (goodIn_of _ (by decide +kernel)) ggX7_carry_X4_putFirst
theorem dX7_carry_0 : decode cX7_carry 0 = .ok (.aload_n 0, 1) := by decide +kernel
theorem dX7_carry_1 : decode cX7_carry 1 = .ok (.iload_n 1, 1) := by decide +kernel
theorem dX7_carry_2 : decode cX7_carry 2 = .ok (.invokevirtual 94, 3) := by decide +kernel
theorem dX7_carry_5 : decode cX7_carry 5 = .ok (.ifCond .ne 6, 3) := by decide +kernel
theorem dX7_carry_8 : decode cX7_carry 8 = .ok (.bipush (-101), 2) := by decide +kernel
theorem dX7_carry_10 : decode cX7_carry 10 = .ok (.ireturn, 1) := by decide +kernel
theorem dX7_carry_11 : decode cX7_carry 11 = .ok (.aload_n 0, 1) := by decide +kernel
theorem dX7_carry_12 : decode cX7_carry 12 = .ok (.getfield 26, 3) := by decide +kernel
theorem dX7_carry_15 : decode cX7_carry 15 = .ok (.getfield 128, 3) := by decide +kernel
theorem dX7_carry_18 : decode cX7_carry 18 = .ok (.getfield 112, 3) := by decide +kernel
theorem dX7_carry_21 : decode cX7_carry 21 = .ok (.ifCond .eq 11, 3) := by decide +kernel
theorem dX7_carry_24 : decode cX7_carry 24 = .ok (.aload_n 0, 1) := by decide +kernel
theorem dX7_carry_25 : decode cX7_carry 25 = .ok (.iload_n 1, 1) := by decide +kernel
theorem dX7_carry_26 : decode cX7_carry 26 = .ok (.invokevirtual 148, 3) := by decide +kernel
theorem dX7_carry_29 : decode cX7_carry 29 = .ok (.ifCond .eq 6, 3) := by decide +kernel
theorem dX7_carry_32 : decode cX7_carry 32 = .ok (.bipush (-103), 2) := by decide +kernel
theorem dX7_carry_34 : decode cX7_carry 34 = .ok (.ireturn, 1) := by decide +kernel
theorem dX7_carry_35 : decode cX7_carry 35 = .ok (.aload_n 0, 1) := by decide +kernel
theorem dX7_carry_36 : decode cX7_carry 36 = .ok (.getfield 26, 3) := by decide +kernel
theorem dX7_carry_39 : decode cX7_carry 39 = .ok (.dup, 1) := by decide +kernel
theorem dX7_carry_40 : decode cX7_carry 40 = .ok (.getfield 159, 3) := by decide +kernel
theorem dX7_carry_43 : decode cX7_carry 43 = .ok (.aload_n 0, 1) := by decide +kernel
theorem dX7_carry_44 : decode cX7_carry 44 = .ok (.getfield 19, 3) := by decide +kernel
theorem dX7_carry_47 : decode cX7_carry 47 = .ok (.getfield 106, 3) := by decide +kernel
theorem dX7_carry_50 : decode cX7_carry 50 = .ok (.iload_n 1, 1) := by decide +kernel
theorem dX7_carry_51 : decode cX7_carry 51 = .ok (.iaload, 1) := by decide +kernel
theorem dX7_carry_52 : decode cX7_carry 52 = .ok (.invokestatic 162, 3) := by decide +kernel
theorem dX7_carry_55 : decode cX7_carry 55 = .ok (.iadd, 1) := by decide +kernel
theorem dX7_carry_56 : decode cX7_carry 56 = .ok (.putfield 159, 3) := by decide +kernel
theorem dX7_carry_59 : decode cX7_carry 59 = .ok (.aload_n 0, 1) := by decide +kernel
theorem dX7_carry_60 : decode cX7_carry 60 = .ok (.getfield 26, 3) := by decide +kernel
theorem dX7_carry_63 : decode cX7_carry 63 = .ok (.iload_n 1, 1) := by decide +kernel
theorem dX7_carry_64 : decode cX7_carry 64 = .ok (.iconst 0, 1) := by decide +kernel
theorem dX7_carry_65 : decode cX7_carry 65 = .ok (.invokevirtual 165, 3) := by decide +kernel
theorem dX7_carry_68 : decode cX7_carry 68 = .ok (.aload_n 0, 1) := by decide +kernel
theorem dX7_carry_69 : decode cX7_carry 69 = .ok (.getfield 26, 3) := by decide +kernel
theorem dX7_carry_72 : decode cX7_carry 72 = .ok (.getfield 159, 3) := by decide +kernel
theorem dX7_carry_75 : decode cX7_carry 75 = .ok (.ireturn, 1) := by decide +kernel
set_option maxRecDepth 20000 in
theorem ggX7_change_X7_isKnown : GoodIn wsX7_change wsX7_isKnown := goodIn_r _ [9, 10, 11, 12, 13, 14, 15, 16, 17, 18, 19, 20, 21, 22, 23, 24, 25, 38, 39, 40, 41] (by decide +kernel) (by decide +kernel)
set_option maxRecDepth 20000 in
theorem gX7_change_X7_isKnown : GoodIn wsX7_change (wsV RX7 94 RX7 yX7_isKnown wsX7_isKnown) := goodIn_app (goodIn_of _ (by decide +kernel)) ggX7_change_X7_isKnown
theorem dX7_change_0 : decode cX7_change 0 = .ok (.aload_n 0, 1) := by decide +kernel
theorem dX7_change_1 : decode cX7_change 1 = .ok (.iload_n 1, 1) := by decide +kernel
theorem dX7_change_2 : decode cX7_change 2 = .ok (.invokevirtual 94, 3) := by decide +kernel
theorem dX7_change_5 : decode cX7_change 5 = .ok (.ifCond .ne 6, 3) := by decide +kernel
theorem dX7_change_8 : decode cX7_change 8 = .ok (.bipush (-101), 2) := by decide +kernel
theorem dX7_change_10 : decode cX7_change 10 = .ok (.ireturn, 1) := by decide +kernel
theorem dX7_change_11 : decode cX7_change 11 = .ok (.aload_n 0, 1) := by decide +kernel
theorem dX7_change_12 : decode cX7_change 12 = .ok (.getfield 26, 3) := by decide +kernel
theorem dX7_change_15 : decode cX7_change 15 = .ok (.getfield 98, 3) := by decide +kernel
theorem dX7_change_18 : decode cX7_change 18 = .ok (.iload_n 1, 1) := by decide +kernel
theorem dX7_change_19 : decode cX7_change 19 = .ok (.aaload, 1) := by decide +kernel
theorem dX7_change_20 : decode cX7_change 20 = .ok (.getfield 112, 3) := by decide +kernel
theorem dX7_change_23 : decode cX7_change 23 = .ok (.istore_n 2, 1) := by decide +kernel
theorem dX7_change_24 : decode cX7_change 24 = .ok (.aload_n 0, 1) := by decide +kernel
theorem dX7_change_25 : decode cX7_change 25 = .ok (.getfield 26, 3) := by decide +kernel
theorem dX7_change_28 : decode cX7_change 28 = .ok (.getfield 98, 3) := by decide +kernel
theorem dX7_change_31 : decode cX7_change 31 = .ok (.iload_n 1, 1) := by decide +kernel
theorem dX7_change_32 : decode cX7_change 32 = .ok (.aaload, 1) := by decide +kernel
theorem dX7_change_33 : decode cX7_change 33 = .ok (.iconst 0, 1) := by decide +kernel
theorem dX7_change_34 : decode cX7_change 34 = .ok (.putfield 112, 3) := by decide +kernel
theorem dX7_change_37 : decode cX7_change 37 = .ok (.aload_n 0, 1) := by decide +kernel
theorem dX7_change_38 : decode cX7_change 38 = .ok (.getfield 26, 3) := by decide +kernel
theorem dX7_change_41 : decode cX7_change 41 = .ok (.dup, 1) := by decide +kernel
theorem dX7_change_42 : decode cX7_change 42 = .ok (.getfield 159, 3) := by decide +kernel
theorem dX7_change_45 : decode cX7_change 45 = .ok (.bipush 40, 2) := by decide +kernel
theorem dX7_change_47 : decode cX7_change 47 = .ok (.iadd, 1) := by decide +kernel
theorem dX7_change_48 : decode cX7_change 48 = .ok (.putfield 159, 3) := by decide +kernel
theorem dX7_change_51 : decode cX7_change 51 = .ok (.iload_n 2, 1) := by decide +kernel
theorem dX7_change_52 : decode cX7_change 52 = .ok (.ireturn, 1) := by decide +kernel
set_option maxRecDepth 20000 in
theorem ggX7_exchange_X7_isKnown : GoodIn wsX7_exchange wsX7_isKnown := goodIn_r _ [11, 4, 12, 13, 14, 15, 16, 17, 25, 26, 27, 28, 29, 30, 31, 32, 33, 46, 47, 48, 49] (by decide +kernel) (by decide +kernel)
set_option maxRecDepth 20000 in
theorem gX7_exchange_X7_isKnown : GoodIn wsX7_exchange (wsV RX7 94 RX7 yX7_isKnown wsX7_isKnown) := goodIn_app (goodIn_of _ (by decide +kernel)) ggX7_exchange_X7_isKnown
set_option maxRecDepth 20000 in
theorem ggX7_exchange_X4_swap : GoodIn wsX7_exchange wsX4_swap := goodIn_r _ [22, 23, 24, 34, 35, 36, 37, 38, 39, 40, 41] (by decide +kernel) (by decide +kernel)
set_option maxRecDepth 20000 in
theorem gX7_exchange_X4_swap : GoodIn wsX7_exchange (wsV RX7 169 RX4 yX4_swap wsX4_swap) := goodIn_app (goodIn_of _ (by decide +kernel)) ggX7_exchange_X4_swap
theorem dX7_exchange_0 : decode cX7_exchange 0 = .ok (.aload_n 0, 1) := by decide +kernel
theorem dX7_exchange_1 : decode cX7_exchange 1 = .ok (.iload_n 1, 1) := by decide +kernel
theorem dX7_exchange_2 : decode cX7_exchange 2 = .ok (.invokevirtual 94, 3) := by decide +kernel
theorem dX7_exchange_5 : decode cX7_exchange 5 = .ok (.ifCond .eq 16, 3) := by decide +kernel
theorem dX7_exchange_8 : decode cX7_exchange 8 = .ok (.aload_n 0, 1) := by decide +kernel
theorem dX7_exchange_9 : decode cX7_exchange 9 = .ok (.iload_n 2, 1) := by decide +kernel
theorem dX7_exchange_10 : decode cX7_exchange 10 = .ok (.invokevirtual 94, 3) := by decide +kernel
theorem dX7_exchange_13 : decode cX7_exchange 13 = .ok (.ifCond .eq 8, 3) := by decide +kernel
theorem dX7_exchange_16 : decode cX7_exchange 16 = .ok (.iload_n 1, 1) := by decide +kernel
theorem dX7_exchange_17 : decode cX7_exchange 17 = .ok (.iload_n 2, 1) := by decide +kernel
theorem dX7_exchange_18 : decode cX7_exchange 18 = .ok (.if_icmp .ne 6, 3) := by decide +kernel
theorem dX7_exchange_21 : decode cX7_exchange 21 = .ok (.bipush (-101), 2) := by decide +kernel
theorem dX7_exchange_23 : decode cX7_exchange 23 = .ok (.ireturn, 1) := by decide +kernel
theorem dX7_exchange_24 : decode cX7_exchange 24 = .ok (.aload_n 0, 1) := by decide +kernel
theorem dX7_exchange_25 : decode cX7_exchange 25 = .ok (.getfield 26, 3) := by decide +kernel
theorem dX7_exchange_28 : decode cX7_exchange 28 = .ok (.getfield 98, 3) := by decide +kernel
theorem dX7_exchange_31 : decode cX7_exchange 31 = .ok (.iload_n 1, 1) := by decide +kernel
theorem dX7_exchange_32 : decode cX7_exchange 32 = .ok (.aaload, 1) := by decide +kernel
theorem dX7_exchange_33 : decode cX7_exchange 33 = .ok (.getfield 112, 3) := by decide +kernel
theorem dX7_exchange_36 : decode cX7_exchange 36 = .ok (.aload_n 0, 1) := by decide +kernel
theorem dX7_exchange_37 : decode cX7_exchange 37 = .ok (.getfield 19, 3) := by decide +kernel
theorem dX7_exchange_40 : decode cX7_exchange 40 = .ok (.getfield 109, 3) := by decide +kernel
theorem dX7_exchange_43 : decode cX7_exchange 43 = .ok (.iload_n 2, 1) := by decide +kernel
theorem dX7_exchange_44 : decode cX7_exchange 44 = .ok (.iaload, 1) := by decide +kernel
theorem dX7_exchange_45 : decode cX7_exchange 45 = .ok (.if_icmp .gt 27, 3) := by decide +kernel
theorem dX7_exchange_48 : decode cX7_exchange 48 = .ok (.aload_n 0, 1) := by decide +kernel
theorem dX7_exchange_49 : decode cX7_exchange 49 = .ok (.getfield 26, 3) := by decide +kernel
theorem dX7_exchange_52 : decode cX7_exchange 52 = .ok (.getfield 98, 3) := by decide +kernel
theorem dX7_exchange_55 : decode cX7_exchange 55 = .ok (.iload_n 2, 1) := by decide +kernel
theorem dX7_exchange_56 : decode cX7_exchange 56 = .ok (.aaload, 1) := by decide +kernel
theorem dX7_exchange_57 : decode cX7_exchange 57 = .ok (.getfield 112, 3) := by decide +kernel
theorem dX7_exchange_60 : decode cX7_exchange 60 = .ok (.aload_n 0, 1) := by decide +kernel
theorem dX7_exchange_61 : decode cX7_exchange 61 = .ok (.getfield 19, 3) := by decide +kernel
theorem dX7_exchange_64 : decode cX7_exchange 64 = .ok (.getfield 109, 3) := by decide +kernel
theorem dX7_exchange_67 : decode cX7_exchange 67 = .ok (.iload_n 1, 1) := by decide +kernel
theorem dX7_exchange_68 : decode cX7_exchange 68 = .ok (.iaload, 1) := by decide +kernel
theorem dX7_exchange_69 : decode cX7_exchange 69 = .ok (.if_icmp .le 6, 3) := by decide +kernel
theorem dX7_exchange_72 : decode cX7_exchange 72 = .ok (.bipush (-103), 2) := by decide +kernel
theorem dX7_exchange_74 : decode cX7_exchange 74 = .ok (.ireturn, 1) := by decide +kernel
theorem dX7_exchange_75 : decode cX7_exchange 75 = .ok (.aload_n 0, 1) := by decide +kernel
theorem dX7_exchange_76 : decode cX7_exchange 76 = .ok (.getfield 26, 3) := by decide +kernel
theorem dX7_exchange_79 : decode cX7_exchange 79 = .ok (.iload_n 1, 1) := by decide +kernel
theorem dX7_exchange_80 : decode cX7_exchange 80 = .ok (.iload_n 2, 1) := by decide +kernel
theorem dX7_exchange_81 : decode cX7_exchange 81 = .ok (.invokevirtual 169, 3) := by decide +kernel
theorem dX7_exchange_84 : decode cX7_exchange 84 = .ok (.aload_n 0, 1) := by decide +kernel
theorem dX7_exchange_85 : decode cX7_exchange 85 = .ok (.getfield 26, 3) := by decide +kernel
theorem dX7_exchange_88 : decode cX7_exchange 88 = .ok (.dup, 1) := by decide +kernel
theorem dX7_exchange_89 : decode cX7_exchange 89 = .ok (.getfield 159, 3) := by decide +kernel
theorem dX7_exchange_92 : decode cX7_exchange 92 = .ok (.bipush 10, 2) := by decide +kernel
theorem dX7_exchange_94 : decode cX7_exchange 94 = .ok (.iadd, 1) := by decide +kernel
theorem dX7_exchange_95 : decode cX7_exchange 95 = .ok (.putfield 159, 3) := by decide +kernel
theorem dX7_exchange_98 : decode cX7_exchange 98 = .ok (.aload_n 0, 1) := by decide +kernel
theorem dX7_exchange_99 : decode cX7_exchange 99 = .ok (.getfield 26, 3) := by decide +kernel
theorem dX7_exchange_102 : decode cX7_exchange 102 = .ok (.getfield 159, 3) := by decide +kernel
theorem dX7_exchange_105 : decode cX7_exchange 105 = .ok (.ireturn, 1) := by decide +kernel
set_option maxRecDepth 20000 in
theorem ggX7_odds_X7_isKind : GoodIn wsX7_odds wsX7_isKind := goodIn_r _ [7, 8] (by decide +kernel) (by decide +kernel)
set_option maxRecDepth 20000 in
theorem gX7_odds_X7_isKind : GoodIn wsX7_odds (va_wsS RX7 125 yX7_isKind wsX7_isKind) := goodIn_app (goodIn_of _ (by decide +kernel)) ggX7_odds_X7_isKind
set_option maxRecDepth 20000 in
theorem ggX7_odds_X7_isKnown : GoodIn wsX7_odds wsX7_isKnown := goodIn_r _ [12, 1, 13, 14, 15, 16, 17, 18, 56, 57, 58, 59, 60, 61, 62, 63, 64, 65, 66, 67, 68] (by decide +kernel) (by decide +kernel)
set_option maxRecDepth 20000 in
theorem gX7_odds_X7_isKnown : GoodIn wsX7_odds (wsV RX7 94 RX7 yX7_isKnown wsX7_isKnown) := goodIn_app (goodIn_of _ (by decide +kernel)) ggX7_odds_X7_isKnown
set_option maxRecDepth 20000 in
theorem ggX7_odds_X7_carryTenths : GoodIn wsX7_odds wsX7_carryTenths := goodIn_r _ [21, 22, 23, 6, 24] (by decide +kernel) (by decide +kernel)
set_option maxRecDepth 20000 in
theorem gX7_odds_X7_carryTenths : GoodIn wsX7_odds (va_wsS RX7 173 yX7_carryTenths wsX7_carryTenths) := goodIn_app (goodIn_of _ (by decide +kernel)) ggX7_odds_X7_carryTenths
set_option maxRecDepth 20000 in
theorem ggX7_odds_X7_nextTo : GoodIn wsX7_odds wsX7_nextTo := goodIn_r _ [27] (by decide +kernel) (by decide +kernel)
set_option maxRecDepth 20000 in
theorem gX7_odds_X7_nextTo : GoodIn wsX7_odds (va_wsS RX7 155 yX7_nextTo wsX7_nextTo) := goodIn_app (goodIn_of _ (by decide +kernel)) ggX7_odds_X7_nextTo
set_option maxRecDepth 20000 in
theorem ggX7_odds_X7_isFull : GoodIn wsX7_odds wsX7_isFull := goodIn_r _ [31, 32, 33, 34, 1, 35, 9, 10, 11, 6, 12, 13, 14, 15, 16, 17, 18, 56, 57, 58, 59, 60, 61, 62, 63, 64, 69, 70, 71, 72, 73, 74, 75, 76, 77, 78, 79, 80, 65, 66, 67, 68] (by decide +kernel) (by decide +kernel)
set_option maxRecDepth 20000 in
theorem gX7_odds_X7_isFull : GoodIn wsX7_odds (wsV RX7 148 RX7 yX7_isFull wsX7_isFull) := goodIn_app (goodIn_of _ (by decide +kernel)) ggX7_odds_X7_isFull
set_option maxRecDepth 20000 in
theorem ggX7_odds_X7_costOf : GoodIn wsX7_odds wsX7_costOf := goodIn_r _ [38, 39, 40, 6, 41, 42, 43, 44, 45, 46, 47, 48, 49, 50, 51, 8, 19, 20, 21, 22, 23, 24] (by decide +kernel) (by decide +kernel)
set_option maxRecDepth 20000 in
theorem gX7_odds_X7_costOf : GoodIn wsX7_odds (va_wsS RX7 176 yX7_costOf wsX7_costOf) := goodIn_app (goodIn_of _ (by decide +kernel)) ggX7_odds_X7_costOf
set_option maxRecDepth 20000 in
theorem ggX7_odds_X7_tenthsAt : GoodIn wsX7_odds wsX7_tenthsAt := goodIn_r _ [55, 1, 2, 3, 9, 10, 11, 6, 12, 13, 14, 15, 16, 17, 18, 25, 26, 27, 28, 29, 30, 31, 32, 33, 34, 35, 39, 40, 41, 42, 43, 44, 45, 46, 47, 48, 49, 50, 51, 8, 56, 57, 58, 59, 60, 61, 62, 63, 64, 65, 66, 67, 68, 69, 70, 71, 72, 73, 74, 75, 76, 77, 78, 79, 80] (by decide +kernel) (by decide +kernel)
set_option maxRecDepth 20000 in
theorem gX7_odds_X7_tenthsAt : GoodIn wsX7_odds (wsV RX7 151 RX7 yX7_tenthsAt wsX7_tenthsAt) := goodIn_app (goodIn_of _ (by decide +kernel)) ggX7_odds_X7_tenthsAt
theorem dX7_odds_0 : decode cX7_odds 0 = .ok (.iload_n 1, 1) := by decide +kernel
theorem dX7_odds_1 : decode cX7_odds 1 = .ok (.invokestatic 125, 3) := by decide +kernel
theorem dX7_odds_4 : decode cX7_odds 4 = .ok (.ifCond .ne 6, 3) := by decide +kernel
theorem dX7_odds_7 : decode cX7_odds 7 = .ok (.bipush (-102), 2) := by decide +kernel
theorem dX7_odds_9 : decode cX7_odds 9 = .ok (.ireturn, 1) := by decide +kernel
theorem dX7_odds_10 : decode cX7_odds 10 = .ok (.aload_n 0, 1) := by decide +kernel
theorem dX7_odds_11 : decode cX7_odds 11 = .ok (.iload_n 2, 1) := by decide +kernel
theorem dX7_odds_12 : decode cX7_odds 12 = .ok (.invokevirtual 94, 3) := by decide +kernel
theorem dX7_odds_15 : decode cX7_odds 15 = .ok (.ifCond .ne 6, 3) := by decide +kernel
theorem dX7_odds_18 : decode cX7_odds 18 = .ok (.bipush (-101), 2) := by decide +kernel
theorem dX7_odds_20 : decode cX7_odds 20 = .ok (.ireturn, 1) := by decide +kernel
theorem dX7_odds_21 : decode cX7_odds 21 = .ok (.aload_n 0, 1) := by decide +kernel
theorem dX7_odds_22 : decode cX7_odds 22 = .ok (.getfield 19, 3) := by decide +kernel
theorem dX7_odds_25 : decode cX7_odds 25 = .ok (.getfield 106, 3) := by decide +kernel
theorem dX7_odds_28 : decode cX7_odds 28 = .ok (.iload_n 2, 1) := by decide +kernel
theorem dX7_odds_29 : decode cX7_odds 29 = .ok (.iaload, 1) := by decide +kernel
theorem dX7_odds_30 : decode cX7_odds 30 = .ok (.invokestatic 173, 3) := by decide +kernel
theorem dX7_odds_33 : decode cX7_odds 33 = .ok (.istore 4, 2) := by decide +kernel
theorem dX7_odds_35 : decode cX7_odds 35 = .ok (.iload_n 1, 1) := by decide +kernel
theorem dX7_odds_36 : decode cX7_odds 36 = .ok (.aload_n 0, 1) := by decide +kernel
theorem dX7_odds_37 : decode cX7_odds 37 = .ok (.getfield 19, 3) := by decide +kernel
theorem dX7_odds_40 : decode cX7_odds 40 = .ok (.getfield 106, 3) := by decide +kernel
theorem dX7_odds_43 : decode cX7_odds 43 = .ok (.iload_n 2, 1) := by decide +kernel
theorem dX7_odds_44 : decode cX7_odds 44 = .ok (.iaload, 1) := by decide +kernel
theorem dX7_odds_45 : decode cX7_odds 45 = .ok (.aload_n 0, 1) := by decide +kernel
theorem dX7_odds_46 : decode cX7_odds 46 = .ok (.iload_n 2, 1) := by decide +kernel
theorem dX7_odds_47 : decode cX7_odds 47 = .ok (.aload_n 0, 1) := by decide +kernel
theorem dX7_odds_48 : decode cX7_odds 48 = .ok (.getfield 19, 3) := by decide +kernel
theorem dX7_odds_51 : decode cX7_odds 51 = .ok (.getfield 91, 3) := by decide +kernel
theorem dX7_odds_54 : decode cX7_odds 54 = .ok (.invokestatic 155, 3) := by decide +kernel
theorem dX7_odds_57 : decode cX7_odds 57 = .ok (.invokevirtual 148, 3) := by decide +kernel
theorem dX7_odds_60 : decode cX7_odds 60 = .ok (.invokestatic 176, 3) := by decide +kernel
theorem dX7_odds_63 : decode cX7_odds 63 = .ok (.istore 5, 2) := by decide +kernel
theorem dX7_odds_65 : decode cX7_odds 65 = .ok (.iload_n 3, 1) := by decide +kernel
theorem dX7_odds_66 : decode cX7_odds 66 = .ok (.tableswitch 81 0 5 #[38, 46, 54, 62, 65, 68], 38) := by decide +kernel
theorem dX7_odds_104 : decode cX7_odds 104 = .ok (.aload_n 0, 1) := by decide +kernel
theorem dX7_odds_105 : decode cX7_odds 105 = .ok (.iload_n 1, 1) := by decide +kernel
theorem dX7_odds_106 : decode cX7_odds 106 = .ok (.iload_n 2, 1) := by decide +kernel
theorem dX7_odds_107 : decode cX7_odds 107 = .ok (.iconst 0, 1) := by decide +kernel
theorem dX7_odds_108 : decode cX7_odds 108 = .ok (.invokevirtual 151, 3) := by decide +kernel
theorem dX7_odds_111 : decode cX7_odds 111 = .ok (.ireturn, 1) := by decide +kernel
theorem dX7_odds_112 : decode cX7_odds 112 = .ok (.aload_n 0, 1) := by decide +kernel
theorem dX7_odds_113 : decode cX7_odds 113 = .ok (.iload_n 1, 1) := by decide +kernel
theorem dX7_odds_114 : decode cX7_odds 114 = .ok (.iload_n 2, 1) := by decide +kernel
theorem dX7_odds_115 : decode cX7_odds 115 = .ok (.iconst 1, 1) := by decide +kernel
theorem dX7_odds_116 : decode cX7_odds 116 = .ok (.invokevirtual 151, 3) := by decide +kernel
theorem dX7_odds_119 : decode cX7_odds 119 = .ok (.ireturn, 1) := by decide +kernel
theorem dX7_odds_120 : decode cX7_odds 120 = .ok (.aload_n 0, 1) := by decide +kernel
theorem dX7_odds_121 : decode cX7_odds 121 = .ok (.iload_n 1, 1) := by decide +kernel
theorem dX7_odds_122 : decode cX7_odds 122 = .ok (.iload_n 2, 1) := by decide +kernel
theorem dX7_odds_123 : decode cX7_odds 123 = .ok (.iconst 2, 1) := by decide +kernel
theorem dX7_odds_124 : decode cX7_odds 124 = .ok (.invokevirtual 151, 3) := by decide +kernel
theorem dX7_odds_127 : decode cX7_odds 127 = .ok (.ireturn, 1) := by decide +kernel
theorem dX7_odds_128 : decode cX7_odds 128 = .ok (.iload 5, 2) := by decide +kernel
theorem dX7_odds_130 : decode cX7_odds 130 = .ok (.ireturn, 1) := by decide +kernel
theorem dX7_odds_131 : decode cX7_odds 131 = .ok (.iload 4, 2) := by decide +kernel
theorem dX7_odds_133 : decode cX7_odds 133 = .ok (.ireturn, 1) := by decide +kernel
theorem dX7_odds_134 : decode cX7_odds 134 = .ok (.iload 5, 2) := by decide +kernel
theorem dX7_odds_136 : decode cX7_odds 136 = .ok (.iload 4, 2) := by decide +kernel
theorem dX7_odds_138 : decode cX7_odds 138 = .ok (.if_icmp .ge 7, 3) := by decide +kernel
theorem dX7_odds_141 : decode cX7_odds 141 = .ok (.iconst 1, 1) := by decide +kernel
theorem dX7_odds_142 : decode cX7_odds 142 = .ok (.goto 4, 3) := by decide +kernel
theorem dX7_odds_145 : decode cX7_odds 145 = .ok (.iconst 0, 1) := by decide +kernel
theorem dX7_odds_146 : decode cX7_odds 146 = .ok (.ireturn, 1) := by decide +kernel
theorem dX7_odds_147 : decode cX7_odds 147 = .ok (.bipush (-102), 2) := by decide +kernel
theorem dX7_odds_149 : decode cX7_odds 149 = .ok (.ireturn, 1) := by decide +kernel
set_option maxRecDepth 20000 in
theorem ggX7_hanging_X0_exchangesFrom : GoodIn wsX7_hanging wsX0_exchangesFrom := goodIn_r _ [11, 12, 13, 14, 15, 16, 17, 18, 43, 44, 45, 46, 47, 48, 49, 50, 51, 52, 53, 54] (by decide +kernel) (by decide +kernel)
set_option maxRecDepth 20000 in
theorem gX7_hanging_X0_exchangesFrom : GoodIn wsX7_hanging (wsV RX7 183 RX0 yX0_exchangesFrom wsX0_exchangesFrom) := goodIn_app (goodIn_of _ (by decide +kernel)) ggX7_hanging_X0_exchangesFrom
set_option maxRecDepth 20000 in
theorem ggX7_hanging_X7_isKnown : GoodIn wsX7_hanging wsX7_isKnown := goodIn_r _ [23, 1, 24, 25, 26, 27, 28, 29, 30, 31, 32, 33, 34, 35, 36, 37, 38, 39, 40, 41, 42] (by decide +kernel) (by decide +kernel)
set_option maxRecDepth 20000 in
theorem gX7_hanging_X7_isKnown : GoodIn wsX7_hanging (wsV RX7 94 RX7 yX7_isKnown wsX7_isKnown) := goodIn_app (goodIn_of _ (by decide +kernel)) ggX7_hanging_X7_isKnown
theorem dX7_hanging_0 : decode cX7_hanging 0 = .ok (.iload_n 1, 1) := by decide +kernel
theorem dX7_hanging_1 : decode cX7_hanging 1 = .ok (.bipush 10, 2) := by decide +kernel
theorem dX7_hanging_3 : decode cX7_hanging 3 = .ok (.if_icmp .lt 13, 3) := by decide +kernel
theorem dX7_hanging_6 : decode cX7_hanging 6 = .ok (.iload_n 1, 1) := by decide +kernel
theorem dX7_hanging_7 : decode cX7_hanging 7 = .ok (.bipush 16, 2) := by decide +kernel
theorem dX7_hanging_9 : decode cX7_hanging 9 = .ok (.if_icmp .ge 7, 3) := by decide +kernel
theorem dX7_hanging_12 : decode cX7_hanging 12 = .ok (.iconst 1, 1) := by decide +kernel
theorem dX7_hanging_13 : decode cX7_hanging 13 = .ok (.goto 4, 3) := by decide +kernel
theorem dX7_hanging_16 : decode cX7_hanging 16 = .ok (.iconst 0, 1) := by decide +kernel
theorem dX7_hanging_17 : decode cX7_hanging 17 = .ok (.istore_n 2, 1) := by decide +kernel
theorem dX7_hanging_18 : decode cX7_hanging 18 = .ok (.iload_n 1, 1) := by decide +kernel
theorem dX7_hanging_19 : decode cX7_hanging 19 = .ok (.ifCond .eq 15, 3) := by decide +kernel
theorem dX7_hanging_22 : decode cX7_hanging 22 = .ok (.iload_n 1, 1) := by decide +kernel
theorem dX7_hanging_23 : decode cX7_hanging 23 = .ok (.iconst 1, 1) := by decide +kernel
theorem dX7_hanging_24 : decode cX7_hanging 24 = .ok (.if_icmp .eq 10, 3) := by decide +kernel
theorem dX7_hanging_27 : decode cX7_hanging 27 = .ok (.iload_n 2, 1) := by decide +kernel
theorem dX7_hanging_28 : decode cX7_hanging 28 = .ok (.ifCond .ne 6, 3) := by decide +kernel
theorem dX7_hanging_31 : decode cX7_hanging 31 = .ok (.bipush (-102), 2) := by decide +kernel
theorem dX7_hanging_33 : decode cX7_hanging 33 = .ok (.ireturn, 1) := by decide +kernel
theorem dX7_hanging_34 : decode cX7_hanging 34 = .ok (.aload_n 0, 1) := by decide +kernel
theorem dX7_hanging_35 : decode cX7_hanging 35 = .ok (.getfield 19, 3) := by decide +kernel
theorem dX7_hanging_38 : decode cX7_hanging 38 = .ok (.getfield 91, 3) := by decide +kernel
theorem dX7_hanging_41 : decode cX7_hanging 41 = .ok (.ifCond .ne 6, 3) := by decide +kernel
theorem dX7_hanging_44 : decode cX7_hanging 44 = .ok (.bipush (-103), 2) := by decide +kernel
theorem dX7_hanging_46 : decode cX7_hanging 46 = .ok (.ireturn, 1) := by decide +kernel
theorem dX7_hanging_47 : decode cX7_hanging 47 = .ok (.iload_n 1, 1) := by decide +kernel
theorem dX7_hanging_48 : decode cX7_hanging 48 = .ok (.ifCond .ne 11, 3) := by decide +kernel
theorem dX7_hanging_51 : decode cX7_hanging 51 = .ok (.aload_n 0, 1) := by decide +kernel
theorem dX7_hanging_52 : decode cX7_hanging 52 = .ok (.getfield 36, 3) := by decide +kernel
theorem dX7_hanging_55 : decode cX7_hanging 55 = .ok (.getfield 180, 3) := by decide +kernel
theorem dX7_hanging_58 : decode cX7_hanging 58 = .ok (.ireturn, 1) := by decide +kernel
theorem dX7_hanging_59 : decode cX7_hanging 59 = .ok (.iload_n 1, 1) := by decide +kernel
theorem dX7_hanging_60 : decode cX7_hanging 60 = .ok (.iconst 1, 1) := by decide +kernel
theorem dX7_hanging_61 : decode cX7_hanging 61 = .ok (.if_icmp .ne 22, 3) := by decide +kernel
theorem dX7_hanging_64 : decode cX7_hanging 64 = .ok (.aload_n 0, 1) := by decide +kernel
theorem dX7_hanging_65 : decode cX7_hanging 65 = .ok (.getfield 36, 3) := by decide +kernel
theorem dX7_hanging_68 : decode cX7_hanging 68 = .ok (.aload_n 0, 1) := by decide +kernel
theorem dX7_hanging_69 : decode cX7_hanging 69 = .ok (.getfield 26, 3) := by decide +kernel
theorem dX7_hanging_72 : decode cX7_hanging 72 = .ok (.aload_n 0, 1) := by decide +kernel
theorem dX7_hanging_73 : decode cX7_hanging 73 = .ok (.getfield 19, 3) := by decide +kernel
theorem dX7_hanging_76 : decode cX7_hanging 76 = .ok (.getfield 91, 3) := by decide +kernel
theorem dX7_hanging_79 : decode cX7_hanging 79 = .ok (.invokevirtual 183, 3) := by decide +kernel
theorem dX7_hanging_82 : decode cX7_hanging 82 = .ok (.ireturn, 1) := by decide +kernel
theorem dX7_hanging_83 : decode cX7_hanging 83 = .ok (.aload_n 0, 1) := by decide +kernel
theorem dX7_hanging_84 : decode cX7_hanging 84 = .ok (.iload_n 1, 1) := by decide +kernel
theorem dX7_hanging_85 : decode cX7_hanging 85 = .ok (.bipush 10, 2) := by decide +kernel
theorem dX7_hanging_87 : decode cX7_hanging 87 = .ok (.isub, 1) := by decide +kernel
theorem dX7_hanging_88 : decode cX7_hanging 88 = .ok (.invokevirtual 94, 3) := by decide +kernel
theorem dX7_hanging_91 : decode cX7_hanging 91 = .ok (.ifCond .eq 18, 3) := by decide +kernel
theorem dX7_hanging_94 : decode cX7_hanging 94 = .ok (.aload_n 0, 1) := by decide +kernel
theorem dX7_hanging_95 : decode cX7_hanging 95 = .ok (.getfield 36, 3) := by decide +kernel
theorem dX7_hanging_98 : decode cX7_hanging 98 = .ok (.getfield 187, 3) := by decide +kernel
theorem dX7_hanging_101 : decode cX7_hanging 101 = .ok (.iload_n 1, 1) := by decide +kernel
theorem dX7_hanging_102 : decode cX7_hanging 102 = .ok (.bipush 10, 2) := by decide +kernel
theorem dX7_hanging_104 : decode cX7_hanging 104 = .ok (.isub, 1) := by decide +kernel
theorem dX7_hanging_105 : decode cX7_hanging 105 = .ok (.iaload, 1) := by decide +kernel
theorem dX7_hanging_106 : decode cX7_hanging 106 = .ok (.goto 4, 3) := by decide +kernel
theorem dX7_hanging_109 : decode cX7_hanging 109 = .ok (.iconst (-1), 1) := by decide +kernel
theorem dX7_hanging_110 : decode cX7_hanging 110 = .ok (.ireturn, 1) := by decide +kernel
set_option maxRecDepth 20000 in
theorem ggX7_found_X7_isKnown : GoodIn wsX7_found wsX7_isKnown := goodIn_r _ [9, 10, 11, 12, 13, 14, 15, 16, 25, 26, 27, 28, 29, 30, 31, 32, 33, 47, 48, 49, 50] (by decide +kernel) (by decide +kernel)
set_option maxRecDepth 20000 in
theorem gX7_found_X7_isKnown : GoodIn wsX7_found (wsV RX7 94 RX7 yX7_isKnown wsX7_isKnown) := goodIn_app (goodIn_of _ (by decide +kernel)) ggX7_found_X7_isKnown
set_option maxRecDepth 20000 in
theorem ggX7_found_X4_addFound : GoodIn wsX7_found wsX4_addFound := goodIn_r _ [21, 22, 23, 24, 34, 35, 36, 37, 38, 39, 40, 41] (by decide +kernel) (by decide +kernel)
set_option maxRecDepth 20000 in
theorem gX7_found_X4_addFound : GoodIn wsX7_found (wsV RX7 191 RX4 yX4_addFound wsX4_addFound) := goodIn_app (goodIn_of _ (by decide +kernel)) ggX7_found_X4_addFound
theorem dX7_found_0 : decode cX7_found 0 = .ok (.aload_n 0, 1) := by decide +kernel
theorem dX7_found_1 : decode cX7_found 1 = .ok (.iload_n 1, 1) := by decide +kernel
