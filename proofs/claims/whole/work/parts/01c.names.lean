theorem dX3_copy_60 : decode cX3_copy 60 = .ok (.return_, 1) := by decide +kernel
set_option maxRecDepth 20000 in
theorem ggX4_init_X3_init : GoodIn wsX4_init wsX3_init := goodIn_r _ [14, 15, 2, 3, 4, 16, 17, 18, 19, 28, 29, 30, 31] (by decide +kernel) (by decide +kernel)
set_option maxRecDepth 20000 in
theorem gX4_init_X3_init_n21 : GoodIn wsX4_init (wsX3_init) := ggX4_init_X3_init
theorem dX4_init_0 : decode cX4_init 0 = .ok (.aload_n 0, 1) := by decide +kernel
theorem dX4_init_1 : decode cX4_init 1 = .ok (.invokespecial 3, 3) := by decide +kernel
theorem dX4_init_4 : decode cX4_init 4 = .ok (.aload_n 0, 1) := by decide +kernel
theorem dX4_init_5 : decode cX4_init 5 = .ok (.bipush 6, 2) := by decide +kernel
theorem dX4_init_7 : decode cX4_init 7 = .ok (.newarray .int, 2) := by decide +kernel
theorem dX4_init_9 : decode cX4_init 9 = .ok (.putfield 9, 3) := by decide +kernel
theorem dX4_init_12 : decode cX4_init 12 = .ok (.aload_n 0, 1) := by decide +kernel
theorem dX4_init_13 : decode cX4_init 13 = .ok (.bipush 6, 2) := by decide +kernel
theorem dX4_init_15 : decode cX4_init 15 = .ok (.anewarray 15, 3) := by decide +kernel
theorem dX4_init_18 : decode cX4_init 18 = .ok (.putfield 17, 3) := by decide +kernel
theorem dX4_init_21 : decode cX4_init 21 = .ok (.aload_n 0, 1) := by decide +kernel
theorem dX4_init_22 : decode cX4_init 22 = .ok (.new 15, 3) := by decide +kernel
theorem dX4_init_25 : decode cX4_init 25 = .ok (.dup, 1) := by decide +kernel
theorem dX4_init_26 : decode cX4_init 26 = .ok (.invokespecial 21, 3) := by decide +kernel
theorem dX4_init_29 : decode cX4_init 29 = .ok (.putfield 22, 3) := by decide +kernel
theorem dX4_init_32 : decode cX4_init 32 = .ok (.aload_n 0, 1) := by decide +kernel
theorem dX4_init_33 : decode cX4_init 33 = .ok (.bipush 8, 2) := by decide +kernel
theorem dX4_init_35 : decode cX4_init 35 = .ok (.newarray .int, 2) := by decide +kernel
theorem dX4_init_37 : decode cX4_init 37 = .ok (.putfield 26, 3) := by decide +kernel
theorem dX4_init_40 : decode cX4_init 40 = .ok (.aload_n 0, 1) := by decide +kernel
theorem dX4_init_41 : decode cX4_init 41 = .ok (.bipush 8, 2) := by decide +kernel
theorem dX4_init_43 : decode cX4_init 43 = .ok (.newarray .int, 2) := by decide +kernel
theorem dX4_init_45 : decode cX4_init 45 = .ok (.putfield 29, 3) := by decide +kernel
theorem dX4_init_48 : decode cX4_init 48 = .ok (.iconst 0, 1) := by decide +kernel
theorem dX4_init_49 : decode cX4_init 49 = .ok (.istore_n 1, 1) := by decide +kernel
theorem dX4_init_50 : decode cX4_init 50 = .ok (.iload_n 1, 1) := by decide +kernel
theorem dX4_init_51 : decode cX4_init 51 = .ok (.bipush 6, 2) := by decide +kernel
theorem dX4_init_53 : decode cX4_init 53 = .ok (.if_icmp .ge 22, 3) := by decide +kernel
theorem dX4_init_56 : decode cX4_init 56 = .ok (.aload_n 0, 1) := by decide +kernel
theorem dX4_init_57 : decode cX4_init 57 = .ok (.getfield 17, 3) := by decide +kernel
theorem dX4_init_60 : decode cX4_init 60 = .ok (.iload_n 1, 1) := by decide +kernel
theorem dX4_init_61 : decode cX4_init 61 = .ok (.new 15, 3) := by decide +kernel
theorem dX4_init_64 : decode cX4_init 64 = .ok (.dup, 1) := by decide +kernel
theorem dX4_init_65 : decode cX4_init 65 = .ok (.invokespecial 21, 3) := by decide +kernel
theorem dX4_init_68 : decode cX4_init 68 = .ok (.aastore, 1) := by decide +kernel
theorem dX4_init_69 : decode cX4_init 69 = .ok (.iinc 1 1, 3) := by decide +kernel
theorem dX4_init_72 : decode cX4_init 72 = .ok (.goto (-22), 3) := by decide +kernel
theorem dX4_init_75 : decode cX4_init 75 = .ok (.return_, 1) := by decide +kernel
theorem dX4_start_0 : decode cX4_start 0 = .ok (.iconst 0, 1) := by decide +kernel
theorem dX4_start_1 : decode cX4_start 1 = .ok (.istore_n 1, 1) := by decide +kernel
theorem dX4_start_2 : decode cX4_start 2 = .ok (.iload_n 1, 1) := by decide +kernel
theorem dX4_start_3 : decode cX4_start 3 = .ok (.bipush 6, 2) := by decide +kernel
theorem dX4_start_5 : decode cX4_start 5 = .ok (.if_icmp .ge 26, 3) := by decide +kernel
theorem dX4_start_8 : decode cX4_start 8 = .ok (.aload_n 0, 1) := by decide +kernel
theorem dX4_start_9 : decode cX4_start 9 = .ok (.getfield 9, 3) := by decide +kernel
theorem dX4_start_12 : decode cX4_start 12 = .ok (.iload_n 1, 1) := by decide +kernel
theorem dX4_start_13 : decode cX4_start 13 = .ok (.iload_n 1, 1) := by decide +kernel
theorem dX4_start_14 : decode cX4_start 14 = .ok (.iastore, 1) := by decide +kernel
theorem dX4_start_15 : decode cX4_start 15 = .ok (.aload_n 0, 1) := by decide +kernel
theorem dX4_start_16 : decode cX4_start 16 = .ok (.getfield 17, 3) := by decide +kernel
theorem dX4_start_19 : decode cX4_start 19 = .ok (.iload_n 1, 1) := by decide +kernel
theorem dX4_start_20 : decode cX4_start 20 = .ok (.aaload, 1) := by decide +kernel
theorem dX4_start_21 : decode cX4_start 21 = .ok (.iconst 0, 1) := by decide +kernel
theorem dX4_start_22 : decode cX4_start 22 = .ok (.putfield 32, 3) := by decide +kernel
theorem dX4_start_25 : decode cX4_start 25 = .ok (.iinc 1 1, 3) := by decide +kernel
theorem dX4_start_28 : decode cX4_start 28 = .ok (.goto (-26), 3) := by decide +kernel
theorem dX4_start_31 : decode cX4_start 31 = .ok (.aload_n 0, 1) := by decide +kernel
theorem dX4_start_32 : decode cX4_start 32 = .ok (.getfield 22, 3) := by decide +kernel
theorem dX4_start_35 : decode cX4_start 35 = .ok (.iconst 0, 1) := by decide +kernel
theorem dX4_start_36 : decode cX4_start 36 = .ok (.putfield 32, 3) := by decide +kernel
theorem dX4_start_39 : decode cX4_start 39 = .ok (.aload_n 0, 1) := by decide +kernel
theorem dX4_start_40 : decode cX4_start 40 = .ok (.iconst 0, 1) := by decide +kernel
theorem dX4_start_41 : decode cX4_start 41 = .ok (.putfield 36, 3) := by decide +kernel
theorem dX4_start_44 : decode cX4_start 44 = .ok (.aload_n 0, 1) := by decide +kernel
theorem dX4_start_45 : decode cX4_start 45 = .ok (.iconst 0, 1) := by decide +kernel
theorem dX4_start_46 : decode cX4_start 46 = .ok (.putfield 39, 3) := by decide +kernel
theorem dX4_start_49 : decode cX4_start 49 = .ok (.aload_n 0, 1) := by decide +kernel
theorem dX4_start_50 : decode cX4_start 50 = .ok (.iconst 0, 1) := by decide +kernel
theorem dX4_start_51 : decode cX4_start 51 = .ok (.putfield 42, 3) := by decide +kernel
theorem dX4_start_54 : decode cX4_start 54 = .ok (.return_, 1) := by decide +kernel
set_option maxRecDepth 20000 in
theorem ggX4_copy_X3_copy : GoodIn wsX4_copy wsX3_copy := goodIn_r _ [13, 14, 15, 16, 17, 26, 27, 28, 29] (by decide +kernel) (by decide +kernel)
set_option maxRecDepth 20000 in
theorem gX4_copy_X3_copy : GoodIn wsX4_copy (wsV RX4 45 RX3 yX3_copy wsX3_copy) := goodIn_app (goodIn_of _ (by decide +kernel)) ggX4_copy_X3_copy
theorem dX4_copy_0 : decode cX4_copy 0 = .ok (.iconst 0, 1) := by decide +kernel
theorem dX4_copy_1 : decode cX4_copy 1 = .ok (.istore_n 2, 1) := by decide +kernel
theorem dX4_copy_2 : decode cX4_copy 2 = .ok (.iload_n 2, 1) := by decide +kernel
theorem dX4_copy_3 : decode cX4_copy 3 = .ok (.bipush 6, 2) := by decide +kernel
theorem dX4_copy_5 : decode cX4_copy 5 = .ok (.if_icmp .ge 36, 3) := by decide +kernel
theorem dX4_copy_8 : decode cX4_copy 8 = .ok (.aload_n 0, 1) := by decide +kernel
theorem dX4_copy_9 : decode cX4_copy 9 = .ok (.getfield 9, 3) := by decide +kernel
theorem dX4_copy_12 : decode cX4_copy 12 = .ok (.iload_n 2, 1) := by decide +kernel
theorem dX4_copy_13 : decode cX4_copy 13 = .ok (.aload_n 1, 1) := by decide +kernel
theorem dX4_copy_14 : decode cX4_copy 14 = .ok (.getfield 9, 3) := by decide +kernel
theorem dX4_copy_17 : decode cX4_copy 17 = .ok (.iload_n 2, 1) := by decide +kernel
theorem dX4_copy_18 : decode cX4_copy 18 = .ok (.iaload, 1) := by decide +kernel
theorem dX4_copy_19 : decode cX4_copy 19 = .ok (.iastore, 1) := by decide +kernel
theorem dX4_copy_20 : decode cX4_copy 20 = .ok (.aload_n 0, 1) := by decide +kernel
theorem dX4_copy_21 : decode cX4_copy 21 = .ok (.getfield 17, 3) := by decide +kernel
theorem dX4_copy_24 : decode cX4_copy 24 = .ok (.iload_n 2, 1) := by decide +kernel
theorem dX4_copy_25 : decode cX4_copy 25 = .ok (.aaload, 1) := by decide +kernel
theorem dX4_copy_26 : decode cX4_copy 26 = .ok (.aload_n 1, 1) := by decide +kernel
theorem dX4_copy_27 : decode cX4_copy 27 = .ok (.getfield 17, 3) := by decide +kernel
theorem dX4_copy_30 : decode cX4_copy 30 = .ok (.iload_n 2, 1) := by decide +kernel
theorem dX4_copy_31 : decode cX4_copy 31 = .ok (.aaload, 1) := by decide +kernel
theorem dX4_copy_32 : decode cX4_copy 32 = .ok (.invokevirtual 45, 3) := by decide +kernel
theorem dX4_copy_35 : decode cX4_copy 35 = .ok (.iinc 2 1, 3) := by decide +kernel
theorem dX4_copy_38 : decode cX4_copy 38 = .ok (.goto (-36), 3) := by decide +kernel
theorem dX4_copy_41 : decode cX4_copy 41 = .ok (.aload_n 0, 1) := by decide +kernel
theorem dX4_copy_42 : decode cX4_copy 42 = .ok (.getfield 22, 3) := by decide +kernel
theorem dX4_copy_45 : decode cX4_copy 45 = .ok (.aload_n 1, 1) := by decide +kernel
theorem dX4_copy_46 : decode cX4_copy 46 = .ok (.getfield 22, 3) := by decide +kernel
theorem dX4_copy_49 : decode cX4_copy 49 = .ok (.invokevirtual 45, 3) := by decide +kernel
theorem dX4_copy_52 : decode cX4_copy 52 = .ok (.iconst 0, 1) := by decide +kernel
theorem dX4_copy_53 : decode cX4_copy 53 = .ok (.istore_n 2, 1) := by decide +kernel
theorem dX4_copy_54 : decode cX4_copy 54 = .ok (.iload_n 2, 1) := by decide +kernel
theorem dX4_copy_55 : decode cX4_copy 55 = .ok (.bipush 8, 2) := by decide +kernel
theorem dX4_copy_57 : decode cX4_copy 57 = .ok (.if_icmp .ge 33, 3) := by decide +kernel
theorem dX4_copy_60 : decode cX4_copy 60 = .ok (.aload_n 0, 1) := by decide +kernel
theorem dX4_copy_61 : decode cX4_copy 61 = .ok (.getfield 26, 3) := by decide +kernel
theorem dX4_copy_64 : decode cX4_copy 64 = .ok (.iload_n 2, 1) := by decide +kernel
theorem dX4_copy_65 : decode cX4_copy 65 = .ok (.aload_n 1, 1) := by decide +kernel
theorem dX4_copy_66 : decode cX4_copy 66 = .ok (.getfield 26, 3) := by decide +kernel
theorem dX4_copy_69 : decode cX4_copy 69 = .ok (.iload_n 2, 1) := by decide +kernel
theorem dX4_copy_70 : decode cX4_copy 70 = .ok (.iaload, 1) := by decide +kernel
theorem dX4_copy_71 : decode cX4_copy 71 = .ok (.iastore, 1) := by decide +kernel
theorem dX4_copy_72 : decode cX4_copy 72 = .ok (.aload_n 0, 1) := by decide +kernel
theorem dX4_copy_73 : decode cX4_copy 73 = .ok (.getfield 29, 3) := by decide +kernel
theorem dX4_copy_76 : decode cX4_copy 76 = .ok (.iload_n 2, 1) := by decide +kernel
theorem dX4_copy_77 : decode cX4_copy 77 = .ok (.aload_n 1, 1) := by decide +kernel
theorem dX4_copy_78 : decode cX4_copy 78 = .ok (.getfield 29, 3) := by decide +kernel
theorem dX4_copy_81 : decode cX4_copy 81 = .ok (.iload_n 2, 1) := by decide +kernel
theorem dX4_copy_82 : decode cX4_copy 82 = .ok (.iaload, 1) := by decide +kernel
theorem dX4_copy_83 : decode cX4_copy 83 = .ok (.iastore, 1) := by decide +kernel
theorem dX4_copy_84 : decode cX4_copy 84 = .ok (.iinc 2 1, 3) := by decide +kernel
theorem dX4_copy_87 : decode cX4_copy 87 = .ok (.goto (-33), 3) := by decide +kernel
theorem dX4_copy_90 : decode cX4_copy 90 = .ok (.aload_n 0, 1) := by decide +kernel
theorem dX4_copy_91 : decode cX4_copy 91 = .ok (.aload_n 1, 1) := by decide +kernel
theorem dX4_copy_92 : decode cX4_copy 92 = .ok (.getfield 36, 3) := by decide +kernel
theorem dX4_copy_95 : decode cX4_copy 95 = .ok (.putfield 36, 3) := by decide +kernel
theorem dX4_copy_98 : decode cX4_copy 98 = .ok (.aload_n 0, 1) := by decide +kernel
theorem dX4_copy_99 : decode cX4_copy 99 = .ok (.aload_n 1, 1) := by decide +kernel
theorem dX4_copy_100 : decode cX4_copy 100 = .ok (.getfield 39, 3) := by decide +kernel
theorem dX4_copy_103 : decode cX4_copy 103 = .ok (.putfield 39, 3) := by decide +kernel
theorem dX4_copy_106 : decode cX4_copy 106 = .ok (.aload_n 0, 1) := by decide +kernel
theorem dX4_copy_107 : decode cX4_copy 107 = .ok (.aload_n 1, 1) := by decide +kernel
theorem dX4_copy_108 : decode cX4_copy 108 = .ok (.getfield 42, 3) := by decide +kernel
theorem dX4_copy_111 : decode cX4_copy 111 = .ok (.putfield 42, 3) := by decide +kernel
theorem dX4_copy_114 : decode cX4_copy 114 = .ok (.return_, 1) := by decide +kernel
set_option maxRecDepth 20000 in
theorem ggX4_putFirst_X3_kindAt : GoodIn wsX4_putFirst wsX3_kindAt := goodIn_r _ [8, 9, 10, 41, 42, 43, 44] (by decide +kernel) (by decide +kernel)
set_option maxRecDepth 20000 in
theorem gX4_putFirst_X3_kindAt : GoodIn wsX4_putFirst (wsV RX4 49 RX3 yX3_kindAt wsX3_kindAt) := goodIn_app (goodIn_of _ (by decide +kernel)) ggX4_putFirst_X3_kindAt
set_option maxRecDepth 20000 in
theorem ggX4_putFirst_X3_harmGlass : GoodIn wsX4_putFirst wsX3_harmGlass := goodIn_r _ [14, 9, 10, 15, 41, 42, 43, 44] (by decide +kernel) (by decide +kernel)
set_option maxRecDepth 20000 in
theorem gX4_putFirst_X3_harmGlass : GoodIn wsX4_putFirst (wsV RX4 53 RX3 yX3_harmGlass wsX3_harmGlass) := goodIn_app (goodIn_of _ (by decide +kernel)) ggX4_putFirst_X3_harmGlass
set_option maxRecDepth 20000 in
theorem ggX4_putFirst_X3_townAt : GoodIn wsX4_putFirst wsX3_townAt := goodIn_r _ [19, 9, 20, 41, 42, 43, 44] (by decide +kernel) (by decide +kernel)
set_option maxRecDepth 20000 in
theorem gX4_putFirst_X3_townAt : GoodIn wsX4_putFirst (wsV RX4 57 RX3 yX3_townAt wsX3_townAt) := goodIn_app (goodIn_of _ (by decide +kernel)) ggX4_putFirst_X3_townAt
set_option maxRecDepth 20000 in
theorem ggX4_putFirst_X3_add : GoodIn wsX4_putFirst wsX3_add := goodIn_r _ [24, 9, 10, 20, 15, 41, 42, 43, 44] (by decide +kernel) (by decide +kernel)
set_option maxRecDepth 20000 in
theorem gX4_putFirst_X3_add : GoodIn wsX4_putFirst (wsV RX4 60 RX3 yX3_add wsX3_add) := goodIn_app (goodIn_of _ (by decide +kernel)) ggX4_putFirst_X3_add
set_option maxRecDepth 20000 in
theorem ggX4_putFirst_X3_dropFirst : GoodIn wsX4_putFirst wsX3_dropFirst := goodIn_r _ [28, 9, 10, 20, 15, 29, 30, 31, 32, 41, 42, 43, 44] (by decide +kernel) (by decide +kernel)
set_option maxRecDepth 20000 in
theorem gX4_putFirst_X3_dropFirst : GoodIn wsX4_putFirst (wsV RX4 64 RX3 yX3_dropFirst wsX3_dropFirst) := goodIn_app (goodIn_of _ (by decide +kernel)) ggX4_putFirst_X3_dropFirst
theorem dX4_putFirst_0 : decode cX4_putFirst 0 = .ok (.iload_n 1, 1) := by decide +kernel
theorem dX4_putFirst_1 : decode cX4_putFirst 1 = .ok (.ifCond .lt 12, 3) := by decide +kernel
theorem dX4_putFirst_4 : decode cX4_putFirst 4 = .ok (.iload_n 1, 1) := by decide +kernel
theorem dX4_putFirst_5 : decode cX4_putFirst 5 = .ok (.aload_n 0, 1) := by decide +kernel
theorem dX4_putFirst_6 : decode cX4_putFirst 6 = .ok (.getfield 17, 3) := by decide +kernel
theorem dX4_putFirst_9 : decode cX4_putFirst 9 = .ok (.arraylength, 1) := by decide +kernel
theorem dX4_putFirst_10 : decode cX4_putFirst 10 = .ok (.if_icmp .lt 4, 3) := by decide +kernel
theorem dX4_putFirst_13 : decode cX4_putFirst 13 = .ok (.return_, 1) := by decide +kernel
theorem dX4_putFirst_14 : decode cX4_putFirst 14 = .ok (.aload_n 0, 1) := by decide +kernel
theorem dX4_putFirst_15 : decode cX4_putFirst 15 = .ok (.getfield 22, 3) := by decide +kernel
theorem dX4_putFirst_18 : decode cX4_putFirst 18 = .ok (.iconst 0, 1) := by decide +kernel
theorem dX4_putFirst_19 : decode cX4_putFirst 19 = .ok (.invokevirtual 49, 3) := by decide +kernel
theorem dX4_putFirst_22 : decode cX4_putFirst 22 = .ok (.istore_n 3, 1) := by decide +kernel
theorem dX4_putFirst_23 : decode cX4_putFirst 23 = .ok (.iload_n 2, 1) := by decide +kernel
theorem dX4_putFirst_24 : decode cX4_putFirst 24 = .ok (.ifCond .eq 12, 3) := by decide +kernel
theorem dX4_putFirst_27 : decode cX4_putFirst 27 = .ok (.iload_n 3, 1) := by decide +kernel
theorem dX4_putFirst_28 : decode cX4_putFirst 28 = .ok (.iconst 3, 1) := by decide +kernel
theorem dX4_putFirst_29 : decode cX4_putFirst 29 = .ok (.if_icmp .ne 7, 3) := by decide +kernel
theorem dX4_putFirst_32 : decode cX4_putFirst 32 = .ok (.iconst 1, 1) := by decide +kernel
theorem dX4_putFirst_33 : decode cX4_putFirst 33 = .ok (.goto 4, 3) := by decide +kernel
theorem dX4_putFirst_36 : decode cX4_putFirst 36 = .ok (.iconst 0, 1) := by decide +kernel
theorem dX4_putFirst_37 : decode cX4_putFirst 37 = .ok (.istore 4, 2) := by decide +kernel
theorem dX4_putFirst_39 : decode cX4_putFirst 39 = .ok (.iload_n 3, 1) := by decide +kernel
theorem dX4_putFirst_40 : decode cX4_putFirst 40 = .ok (.iconst 4, 1) := by decide +kernel
theorem dX4_putFirst_41 : decode cX4_putFirst 41 = .ok (.if_icmp .ne 21, 3) := by decide +kernel
theorem dX4_putFirst_44 : decode cX4_putFirst 44 = .ok (.aload_n 0, 1) := by decide +kernel
theorem dX4_putFirst_45 : decode cX4_putFirst 45 = .ok (.dup, 1) := by decide +kernel
theorem dX4_putFirst_46 : decode cX4_putFirst 46 = .ok (.getfield 42, 3) := by decide +kernel
theorem dX4_putFirst_49 : decode cX4_putFirst 49 = .ok (.aload_n 0, 1) := by decide +kernel
theorem dX4_putFirst_50 : decode cX4_putFirst 50 = .ok (.getfield 17, 3) := by decide +kernel
theorem dX4_putFirst_53 : decode cX4_putFirst 53 = .ok (.iload_n 1, 1) := by decide +kernel
theorem dX4_putFirst_54 : decode cX4_putFirst 54 = .ok (.aaload, 1) := by decide +kernel
theorem dX4_putFirst_55 : decode cX4_putFirst 55 = .ok (.invokevirtual 53, 3) := by decide +kernel
theorem dX4_putFirst_58 : decode cX4_putFirst 58 = .ok (.iadd, 1) := by decide +kernel
theorem dX4_putFirst_59 : decode cX4_putFirst 59 = .ok (.putfield 42, 3) := by decide +kernel
theorem dX4_putFirst_62 : decode cX4_putFirst 62 = .ok (.iload 4, 2) := by decide +kernel
theorem dX4_putFirst_64 : decode cX4_putFirst 64 = .ok (.ifCond .eq 13, 3) := by decide +kernel
theorem dX4_putFirst_67 : decode cX4_putFirst 67 = .ok (.aload_n 0, 1) := by decide +kernel
theorem dX4_putFirst_68 : decode cX4_putFirst 68 = .ok (.dup, 1) := by decide +kernel
theorem dX4_putFirst_69 : decode cX4_putFirst 69 = .ok (.getfield 42, 3) := by decide +kernel
theorem dX4_putFirst_72 : decode cX4_putFirst 72 = .ok (.iconst 1, 1) := by decide +kernel
theorem dX4_putFirst_73 : decode cX4_putFirst 73 = .ok (.iadd, 1) := by decide +kernel
theorem dX4_putFirst_74 : decode cX4_putFirst 74 = .ok (.putfield 42, 3) := by decide +kernel
theorem dX4_putFirst_77 : decode cX4_putFirst 77 = .ok (.aload_n 0, 1) := by decide +kernel
theorem dX4_putFirst_78 : decode cX4_putFirst 78 = .ok (.getfield 17, 3) := by decide +kernel
theorem dX4_putFirst_81 : decode cX4_putFirst 81 = .ok (.iload_n 1, 1) := by decide +kernel
theorem dX4_putFirst_82 : decode cX4_putFirst 82 = .ok (.aaload, 1) := by decide +kernel
theorem dX4_putFirst_83 : decode cX4_putFirst 83 = .ok (.iload_n 3, 1) := by decide +kernel
theorem dX4_putFirst_84 : decode cX4_putFirst 84 = .ok (.aload_n 0, 1) := by decide +kernel
theorem dX4_putFirst_85 : decode cX4_putFirst 85 = .ok (.getfield 22, 3) := by decide +kernel
theorem dX4_putFirst_88 : decode cX4_putFirst 88 = .ok (.iconst 0, 1) := by decide +kernel
theorem dX4_putFirst_89 : decode cX4_putFirst 89 = .ok (.invokevirtual 57, 3) := by decide +kernel
theorem dX4_putFirst_92 : decode cX4_putFirst 92 = .ok (.iload 4, 2) := by decide +kernel
theorem dX4_putFirst_94 : decode cX4_putFirst 94 = .ok (.invokevirtual 60, 3) := by decide +kernel
theorem dX4_putFirst_97 : decode cX4_putFirst 97 = .ok (.aload_n 0, 1) := by decide +kernel
theorem dX4_putFirst_98 : decode cX4_putFirst 98 = .ok (.getfield 22, 3) := by decide +kernel
theorem dX4_putFirst_101 : decode cX4_putFirst 101 = .ok (.invokevirtual 64, 3) := by decide +kernel
theorem dX4_putFirst_104 : decode cX4_putFirst 104 = .ok (.return_, 1) := by decide +kernel
theorem dX4_swap_0 : decode cX4_swap 0 = .ok (.aload_n 0, 1) := by decide +kernel
theorem dX4_swap_1 : decode cX4_swap 1 = .ok (.getfield 17, 3) := by decide +kernel
theorem dX4_swap_4 : decode cX4_swap 4 = .ok (.iload_n 1, 1) := by decide +kernel
theorem dX4_swap_5 : decode cX4_swap 5 = .ok (.aaload, 1) := by decide +kernel
theorem dX4_swap_6 : decode cX4_swap 6 = .ok (.astore_n 3, 1) := by decide +kernel
theorem dX4_swap_7 : decode cX4_swap 7 = .ok (.aload_n 0, 1) := by decide +kernel
theorem dX4_swap_8 : decode cX4_swap 8 = .ok (.getfield 17, 3) := by decide +kernel
theorem dX4_swap_11 : decode cX4_swap 11 = .ok (.iload_n 1, 1) := by decide +kernel
theorem dX4_swap_12 : decode cX4_swap 12 = .ok (.aload_n 0, 1) := by decide +kernel
theorem dX4_swap_13 : decode cX4_swap 13 = .ok (.getfield 17, 3) := by decide +kernel
theorem dX4_swap_16 : decode cX4_swap 16 = .ok (.iload_n 2, 1) := by decide +kernel
theorem dX4_swap_17 : decode cX4_swap 17 = .ok (.aaload, 1) := by decide +kernel
theorem dX4_swap_18 : decode cX4_swap 18 = .ok (.aastore, 1) := by decide +kernel
theorem dX4_swap_19 : decode cX4_swap 19 = .ok (.aload_n 0, 1) := by decide +kernel
theorem dX4_swap_20 : decode cX4_swap 20 = .ok (.getfield 17, 3) := by decide +kernel
theorem dX4_swap_23 : decode cX4_swap 23 = .ok (.iload_n 2, 1) := by decide +kernel
theorem dX4_swap_24 : decode cX4_swap 24 = .ok (.aload_n 3, 1) := by decide +kernel
theorem dX4_swap_25 : decode cX4_swap 25 = .ok (.aastore, 1) := by decide +kernel
theorem dX4_swap_26 : decode cX4_swap 26 = .ok (.aload_n 0, 1) := by decide +kernel
theorem dX4_swap_27 : decode cX4_swap 27 = .ok (.getfield 9, 3) := by decide +kernel
theorem dX4_swap_30 : decode cX4_swap 30 = .ok (.iload_n 1, 1) := by decide +kernel
theorem dX4_swap_31 : decode cX4_swap 31 = .ok (.iaload, 1) := by decide +kernel
theorem dX4_swap_32 : decode cX4_swap 32 = .ok (.istore 4, 2) := by decide +kernel
theorem dX4_swap_34 : decode cX4_swap 34 = .ok (.aload_n 0, 1) := by decide +kernel
theorem dX4_swap_35 : decode cX4_swap 35 = .ok (.getfield 9, 3) := by decide +kernel
theorem dX4_swap_38 : decode cX4_swap 38 = .ok (.iload_n 1, 1) := by decide +kernel
theorem dX4_swap_39 : decode cX4_swap 39 = .ok (.aload_n 0, 1) := by decide +kernel
theorem dX4_swap_40 : decode cX4_swap 40 = .ok (.getfield 9, 3) := by decide +kernel
theorem dX4_swap_43 : decode cX4_swap 43 = .ok (.iload_n 2, 1) := by decide +kernel
theorem dX4_swap_44 : decode cX4_swap 44 = .ok (.iaload, 1) := by decide +kernel
theorem dX4_swap_45 : decode cX4_swap 45 = .ok (.iastore, 1) := by decide +kernel
theorem dX4_swap_46 : decode cX4_swap 46 = .ok (.aload_n 0, 1) := by decide +kernel
theorem dX4_swap_47 : decode cX4_swap 47 = .ok (.getfield 9, 3) := by decide +kernel
theorem dX4_swap_50 : decode cX4_swap 50 = .ok (.iload_n 2, 1) := by decide +kernel
theorem dX4_swap_51 : decode cX4_swap 51 = .ok (.iload 4, 2) := by decide +kernel
theorem dX4_swap_53 : decode cX4_swap 53 = .ok (.iastore, 1) := by decide +kernel
theorem dX4_swap_54 : decode cX4_swap 54 = .ok (.return_, 1) := by decide +kernel
theorem dX4_addFound_0 : decode cX4_addFound 0 = .ok (.aload_n 0, 1) := by decide +kernel
theorem dX4_addFound_1 : decode cX4_addFound 1 = .ok (.getfield 36, 3) := by decide +kernel
theorem dX4_addFound_4 : decode cX4_addFound 4 = .ok (.ifCond .lt 42, 3) := by decide +kernel
theorem dX4_addFound_7 : decode cX4_addFound 7 = .ok (.aload_n 0, 1) := by decide +kernel
theorem dX4_addFound_8 : decode cX4_addFound 8 = .ok (.getfield 36, 3) := by decide +kernel
theorem dX4_addFound_11 : decode cX4_addFound 11 = .ok (.bipush 8, 2) := by decide +kernel
theorem dX4_addFound_13 : decode cX4_addFound 13 = .ok (.if_icmp .ge 33, 3) := by decide +kernel
theorem dX4_addFound_16 : decode cX4_addFound 16 = .ok (.aload_n 0, 1) := by decide +kernel
theorem dX4_addFound_17 : decode cX4_addFound 17 = .ok (.getfield 26, 3) := by decide +kernel
theorem dX4_addFound_20 : decode cX4_addFound 20 = .ok (.aload_n 0, 1) := by decide +kernel
theorem dX4_addFound_21 : decode cX4_addFound 21 = .ok (.getfield 36, 3) := by decide +kernel
theorem dX4_addFound_24 : decode cX4_addFound 24 = .ok (.iload_n 1, 1) := by decide +kernel
theorem dX4_addFound_25 : decode cX4_addFound 25 = .ok (.iastore, 1) := by decide +kernel
theorem dX4_addFound_26 : decode cX4_addFound 26 = .ok (.aload_n 0, 1) := by decide +kernel
theorem dX4_addFound_27 : decode cX4_addFound 27 = .ok (.getfield 29, 3) := by decide +kernel
theorem dX4_addFound_30 : decode cX4_addFound 30 = .ok (.aload_n 0, 1) := by decide +kernel
theorem dX4_addFound_31 : decode cX4_addFound 31 = .ok (.getfield 36, 3) := by decide +kernel
theorem dX4_addFound_34 : decode cX4_addFound 34 = .ok (.iload_n 2, 1) := by decide +kernel
theorem dX4_addFound_35 : decode cX4_addFound 35 = .ok (.iastore, 1) := by decide +kernel
theorem dX4_addFound_36 : decode cX4_addFound 36 = .ok (.aload_n 0, 1) := by decide +kernel
theorem dX4_addFound_37 : decode cX4_addFound 37 = .ok (.dup, 1) := by decide +kernel
theorem dX4_addFound_38 : decode cX4_addFound 38 = .ok (.getfield 36, 3) := by decide +kernel
theorem dX4_addFound_41 : decode cX4_addFound 41 = .ok (.iconst 1, 1) := by decide +kernel
theorem dX4_addFound_42 : decode cX4_addFound 42 = .ok (.iadd, 1) := by decide +kernel
theorem dX4_addFound_43 : decode cX4_addFound 43 = .ok (.putfield 36, 3) := by decide +kernel
theorem dX4_addFound_46 : decode cX4_addFound 46 = .ok (.return_, 1) := by decide +kernel
theorem dX4_hookOf_0 : decode cX4_hookOf 0 = .ok (.iconst 0, 1) := by decide +kernel
theorem dX4_hookOf_1 : decode cX4_hookOf 1 = .ok (.istore_n 2, 1) := by decide +kernel
theorem dX4_hookOf_2 : decode cX4_hookOf 2 = .ok (.iload_n 2, 1) := by decide +kernel
theorem dX4_hookOf_3 : decode cX4_hookOf 3 = .ok (.bipush 6, 2) := by decide +kernel
theorem dX4_hookOf_5 : decode cX4_hookOf 5 = .ok (.if_icmp .ge 21, 3) := by decide +kernel
theorem dX4_hookOf_8 : decode cX4_hookOf 8 = .ok (.aload_n 0, 1) := by decide +kernel
theorem dX4_hookOf_9 : decode cX4_hookOf 9 = .ok (.getfield 9, 3) := by decide +kernel
theorem dX4_hookOf_12 : decode cX4_hookOf 12 = .ok (.iload_n 2, 1) := by decide +kernel
theorem dX4_hookOf_13 : decode cX4_hookOf 13 = .ok (.iaload, 1) := by decide +kernel
theorem dX4_hookOf_14 : decode cX4_hookOf 14 = .ok (.iload_n 1, 1) := by decide +kernel
theorem dX4_hookOf_15 : decode cX4_hookOf 15 = .ok (.if_icmp .ne 5, 3) := by decide +kernel
theorem dX4_hookOf_18 : decode cX4_hookOf 18 = .ok (.iload_n 2, 1) := by decide +kernel
theorem dX4_hookOf_19 : decode cX4_hookOf 19 = .ok (.ireturn, 1) := by decide +kernel
theorem dX4_hookOf_20 : decode cX4_hookOf 20 = .ok (.iinc 2 1, 3) := by decide +kernel
theorem dX4_hookOf_23 : decode cX4_hookOf 23 = .ok (.goto (-21), 3) := by decide +kernel
theorem dX4_hookOf_26 : decode cX4_hookOf 26 = .ok (.iconst (-1), 1) := by decide +kernel
theorem dX4_hookOf_27 : decode cX4_hookOf 27 = .ok (.ireturn, 1) := by decide +kernel
theorem dX4_inSacks_0 : decode cX4_inSacks 0 = .ok (.iconst 0, 1) := by decide +kernel
theorem dX4_inSacks_1 : decode cX4_inSacks 1 = .ok (.istore_n 2, 1) := by decide +kernel
theorem dX4_inSacks_2 : decode cX4_inSacks 2 = .ok (.iconst 0, 1) := by decide +kernel
theorem dX4_inSacks_3 : decode cX4_inSacks 3 = .ok (.istore_n 3, 1) := by decide +kernel
theorem dX4_inSacks_4 : decode cX4_inSacks 4 = .ok (.iload_n 3, 1) := by decide +kernel
theorem dX4_inSacks_5 : decode cX4_inSacks 5 = .ok (.iload_n 1, 1) := by decide +kernel
theorem dX4_inSacks_6 : decode cX4_inSacks 6 = .ok (.if_icmp .ge 21, 3) := by decide +kernel
theorem dX4_inSacks_9 : decode cX4_inSacks 9 = .ok (.iload_n 2, 1) := by decide +kernel
theorem dX4_inSacks_10 : decode cX4_inSacks 10 = .ok (.aload_n 0, 1) := by decide +kernel
theorem dX4_inSacks_11 : decode cX4_inSacks 11 = .ok (.getfield 17, 3) := by decide +kernel
theorem dX4_inSacks_14 : decode cX4_inSacks 14 = .ok (.iload_n 3, 1) := by decide +kernel
theorem dX4_inSacks_15 : decode cX4_inSacks 15 = .ok (.aaload, 1) := by decide +kernel
theorem dX4_inSacks_16 : decode cX4_inSacks 16 = .ok (.getfield 32, 3) := by decide +kernel
theorem dX4_inSacks_19 : decode cX4_inSacks 19 = .ok (.iadd, 1) := by decide +kernel
theorem dX4_inSacks_20 : decode cX4_inSacks 20 = .ok (.istore_n 2, 1) := by decide +kernel
theorem dX4_inSacks_21 : decode cX4_inSacks 21 = .ok (.iinc 3 1, 3) := by decide +kernel
theorem dX4_inSacks_24 : decode cX4_inSacks 24 = .ok (.goto (-20), 3) := by decide +kernel
theorem dX4_inSacks_27 : decode cX4_inSacks 27 = .ok (.iload_n 2, 1) := by decide +kernel
theorem dX4_inSacks_28 : decode cX4_inSacks 28 = .ok (.ireturn, 1) := by decide +kernel
set_option maxRecDepth 20000 in
theorem ggX4_wrongInSacks_X3_notFor : GoodIn wsX4_wrongInSacks wsX3_notFor := goodIn_r _ [7, 8, 9, 18, 19, 20, 21] (by decide +kernel) (by decide +kernel)
set_option maxRecDepth 20000 in
theorem gX4_wrongInSacks_X3_notFor : GoodIn wsX4_wrongInSacks (wsV RX4 67 RX3 yX3_notFor wsX3_notFor) := goodIn_app (goodIn_of _ (by decide +kernel)) ggX4_wrongInSacks_X3_notFor
theorem dX4_wrongInSacks_0 : decode cX4_wrongInSacks 0 = .ok (.iconst 0, 1) := by decide +kernel
theorem dX4_wrongInSacks_1 : decode cX4_wrongInSacks 1 = .ok (.istore_n 2, 1) := by decide +kernel
theorem dX4_wrongInSacks_2 : decode cX4_wrongInSacks 2 = .ok (.iconst 0, 1) := by decide +kernel
theorem dX4_wrongInSacks_3 : decode cX4_wrongInSacks 3 = .ok (.istore_n 3, 1) := by decide +kernel
theorem dX4_wrongInSacks_4 : decode cX4_wrongInSacks 4 = .ok (.iload_n 3, 1) := by decide +kernel
theorem dX4_wrongInSacks_5 : decode cX4_wrongInSacks 5 = .ok (.iload_n 1, 1) := by decide +kernel
theorem dX4_wrongInSacks_6 : decode cX4_wrongInSacks 6 = .ok (.if_icmp .ge 27, 3) := by decide +kernel
theorem dX4_wrongInSacks_9 : decode cX4_wrongInSacks 9 = .ok (.iload_n 2, 1) := by decide +kernel
theorem dX4_wrongInSacks_10 : decode cX4_wrongInSacks 10 = .ok (.aload_n 0, 1) := by decide +kernel
theorem dX4_wrongInSacks_11 : decode cX4_wrongInSacks 11 = .ok (.getfield 17, 3) := by decide +kernel
theorem dX4_wrongInSacks_14 : decode cX4_wrongInSacks 14 = .ok (.iload_n 3, 1) := by decide +kernel
theorem dX4_wrongInSacks_15 : decode cX4_wrongInSacks 15 = .ok (.aaload, 1) := by decide +kernel
theorem dX4_wrongInSacks_16 : decode cX4_wrongInSacks 16 = .ok (.aload_n 0, 1) := by decide +kernel
theorem dX4_wrongInSacks_17 : decode cX4_wrongInSacks 17 = .ok (.getfield 9, 3) := by decide +kernel
theorem dX4_wrongInSacks_20 : decode cX4_wrongInSacks 20 = .ok (.iload_n 3, 1) := by decide +kernel
theorem dX4_wrongInSacks_21 : decode cX4_wrongInSacks 21 = .ok (.iaload, 1) := by decide +kernel
theorem dX4_wrongInSacks_22 : decode cX4_wrongInSacks 22 = .ok (.invokevirtual 67, 3) := by decide +kernel
theorem dX4_wrongInSacks_25 : decode cX4_wrongInSacks 25 = .ok (.iadd, 1) := by decide +kernel
theorem dX4_wrongInSacks_26 : decode cX4_wrongInSacks 26 = .ok (.istore_n 2, 1) := by decide +kernel
theorem dX4_wrongInSacks_27 : decode cX4_wrongInSacks 27 = .ok (.iinc 3 1, 3) := by decide +kernel
theorem dX4_wrongInSacks_30 : decode cX4_wrongInSacks 30 = .ok (.goto (-26), 3) := by decide +kernel
theorem dX4_wrongInSacks_33 : decode cX4_wrongInSacks 33 = .ok (.iload_n 2, 1) := by decide +kernel
theorem dX4_wrongInSacks_34 : decode cX4_wrongInSacks 34 = .ok (.ireturn, 1) := by decide +kernel
theorem dX5_init_0 : decode cX5_init 0 = .ok (.aload_n 0, 1) := by decide +kernel
theorem dX5_init_1 : decode cX5_init 1 = .ok (.invokespecial 3, 3) := by decide +kernel
theorem dX5_init_4 : decode cX5_init 4 = .ok (.aload_n 0, 1) := by decide +kernel
theorem dX5_init_5 : decode cX5_init 5 = .ok (.bipush 6, 2) := by decide +kernel
theorem dX5_init_7 : decode cX5_init 7 = .ok (.newarray .int, 2) := by decide +kernel
theorem dX5_init_9 : decode cX5_init 9 = .ok (.putfield 9, 3) := by decide +kernel
theorem dX5_init_12 : decode cX5_init 12 = .ok (.return_, 1) := by decide +kernel
set_option maxRecDepth 20000 in
theorem ggX5_run_J7_fill_53178 : GoodIn wsX5_run wsJ7_fill_53178 := goodIn_r _ [9] (by decide +kernel) (by decide +kernel)
set_option maxRecDepth 20000 in
theorem gX5_run_J7_fill_53178 : GoodIn wsX5_run (va_wsS RX5 15 yJ7_fill_53178 wsJ7_fill_53178) := goodIn_app (goodIn_of _ (by decide +kernel)) ggX5_run_J7_fill_53178
set_option maxRecDepth 20000 in
theorem ggX5_run_X5_draw : GoodIn wsX5_run wsX5_draw := goodIn_r _ [14, 15, 2, 16, 17, 52, 53, 54, 55] (by decide +kernel) (by decide +kernel)
set_option maxRecDepth 20000 in
theorem gX5_run_X5_draw : GoodIn wsX5_run (wsV RX5 36 RX5 yX5_draw wsX5_draw) := goodIn_app (goodIn_of _ (by decide +kernel)) ggX5_run_X5_draw
set_option maxRecDepth 20000 in
theorem ggX5_run_X4_hookOf : GoodIn wsX5_run wsX4_hookOf := goodIn_r _ [22, 23, 60, 61, 62, 63, 64, 65, 66, 67] (by decide +kernel) (by decide +kernel)
set_option maxRecDepth 20000 in
theorem gX5_run_X4_hookOf : GoodIn wsX5_run (wsV RX5 40 RX4 yX4_hookOf wsX4_hookOf) := goodIn_app (goodIn_of _ (by decide +kernel)) ggX5_run_X4_hookOf
set_option maxRecDepth 20000 in
theorem ggX5_run_X7_nextTo : GoodIn wsX5_run wsX7_nextTo := goodIn_r _ [26] (by decide +kernel) (by decide +kernel)
set_option maxRecDepth 20000 in
theorem gX5_run_X7_nextTo_n45 : GoodIn wsX5_run (wsX7_nextTo) := ggX5_run_X7_nextTo
set_option maxRecDepth 20000 in
theorem ggX5_run_X2_has : GoodIn wsX5_run wsX2_has := goodIn_r _ [31, 32, 56, 57, 58, 59] (by decide +kernel) (by decide +kernel)
set_option maxRecDepth 20000 in
theorem gX5_run_X2_has : GoodIn wsX5_run (wsV RX5 49 RX2 yX2_has wsX2_has) := goodIn_app (goodIn_of _ (by decide +kernel)) ggX5_run_X2_has
set_option maxRecDepth 20000 in
theorem ggX5_run_X5_throwAt : GoodIn wsX5_run wsX5_throwAt := goodIn_r _ [36, 1, 37, 38, 3, 4, 39, 25, 40, 41, 42, 43, 44, 45, 46, 47, 48, 49, 50, 51, 10, 11, 12, 13, 14, 15, 2, 16, 17, 52, 53, 54, 55, 56, 57, 58, 59] (by decide +kernel) (by decide +kernel)
set_option maxRecDepth 20000 in
theorem gX5_run_X5_throwAt : GoodIn wsX5_run (wsV RX5 53 RX5 yX5_throwAt wsX5_throwAt) := goodIn_app (goodIn_of _ (by decide +kernel)) ggX5_run_X5_throwAt
theorem dX5_run_0 : decode cX5_run 0 = .ok (.aload_n 0, 1) := by decide +kernel
theorem dX5_run_1 : decode cX5_run 1 = .ok (.getfield 9, 3) := by decide +kernel
theorem dX5_run_4 : decode cX5_run 4 = .ok (.iconst 0, 1) := by decide +kernel
theorem dX5_run_5 : decode cX5_run 5 = .ok (.invokestatic 15, 3) := by decide +kernel
theorem dX5_run_8 : decode cX5_run 8 = .ok (.aload_n 0, 1) := by decide +kernel
theorem dX5_run_9 : decode cX5_run 9 = .ok (.iload 4, 2) := by decide +kernel
theorem dX5_run_11 : decode cX5_run 11 = .ok (.putfield 21, 3) := by decide +kernel
theorem dX5_run_14 : decode cX5_run 14 = .ok (.aload_n 0, 1) := by decide +kernel
theorem dX5_run_15 : decode cX5_run 15 = .ok (.iconst 0, 1) := by decide +kernel
theorem dX5_run_16 : decode cX5_run 16 = .ok (.putfield 25, 3) := by decide +kernel
theorem dX5_run_19 : decode cX5_run 19 = .ok (.aload_n 0, 1) := by decide +kernel
theorem dX5_run_20 : decode cX5_run 20 = .ok (.iconst 0, 1) := by decide +kernel
theorem dX5_run_21 : decode cX5_run 21 = .ok (.putfield 28, 3) := by decide +kernel
theorem dX5_run_24 : decode cX5_run 24 = .ok (.iconst 0, 1) := by decide +kernel
theorem dX5_run_25 : decode cX5_run 25 = .ok (.istore 5, 2) := by decide +kernel
theorem dX5_run_27 : decode cX5_run 27 = .ok (.iload 5, 2) := by decide +kernel
theorem dX5_run_29 : decode cX5_run 29 = .ok (.iload_n 3, 1) := by decide +kernel
theorem dX5_run_30 : decode cX5_run 30 = .ok (.if_icmp .ge 61, 3) := by decide +kernel
theorem dX5_run_33 : decode cX5_run 33 = .ok (.aload_n 2, 1) := by decide +kernel
theorem dX5_run_34 : decode cX5_run 34 = .ok (.aload_n 0, 1) := by decide +kernel
theorem dX5_run_35 : decode cX5_run 35 = .ok (.aload_n 1, 1) := by decide +kernel
theorem dX5_run_36 : decode cX5_run 36 = .ok (.getfield 31, 3) := by decide +kernel
theorem dX5_run_39 : decode cX5_run 39 = .ok (.invokevirtual 36, 3) := by decide +kernel
theorem dX5_run_42 : decode cX5_run 42 = .ok (.invokevirtual 40, 3) := by decide +kernel
theorem dX5_run_45 : decode cX5_run 45 = .ok (.istore 6, 2) := by decide +kernel
theorem dX5_run_47 : decode cX5_run 47 = .ok (.iload 6, 2) := by decide +kernel
theorem dX5_run_49 : decode cX5_run 49 = .ok (.aload_n 1, 1) := by decide +kernel
theorem dX5_run_50 : decode cX5_run 50 = .ok (.getfield 31, 3) := by decide +kernel
theorem dX5_run_53 : decode cX5_run 53 = .ok (.invokestatic 45, 3) := by decide +kernel
theorem dX5_run_56 : decode cX5_run 56 = .ok (.istore 7, 2) := by decide +kernel
theorem dX5_run_58 : decode cX5_run 58 = .ok (.aload_n 1, 1) := by decide +kernel
theorem dX5_run_59 : decode cX5_run 59 = .ok (.iload 6, 2) := by decide +kernel
theorem dX5_run_61 : decode cX5_run 61 = .ok (.invokevirtual 49, 3) := by decide +kernel
theorem dX5_run_64 : decode cX5_run 64 = .ok (.ifCond .eq 21, 3) := by decide +kernel
theorem dX5_run_67 : decode cX5_run 67 = .ok (.aload_n 1, 1) := by decide +kernel
theorem dX5_run_68 : decode cX5_run 68 = .ok (.iload 7, 2) := by decide +kernel
theorem dX5_run_70 : decode cX5_run 70 = .ok (.invokevirtual 49, 3) := by decide +kernel
theorem dX5_run_73 : decode cX5_run 73 = .ok (.ifCond .eq 12, 3) := by decide +kernel
theorem dX5_run_76 : decode cX5_run 76 = .ok (.aload_n 0, 1) := by decide +kernel
theorem dX5_run_77 : decode cX5_run 77 = .ok (.aload_n 1, 1) := by decide +kernel
theorem dX5_run_78 : decode cX5_run 78 = .ok (.iload 6, 2) := by decide +kernel
theorem dX5_run_80 : decode cX5_run 80 = .ok (.iload 7, 2) := by decide +kernel
theorem dX5_run_82 : decode cX5_run 82 = .ok (.invokevirtual 53, 3) := by decide +kernel
theorem dX5_run_85 : decode cX5_run 85 = .ok (.iinc 5 1, 3) := by decide +kernel
theorem dX5_run_88 : decode cX5_run 88 = .ok (.goto (-61), 3) := by decide +kernel
theorem dX5_run_91 : decode cX5_run 91 = .ok (.return_, 1) := by decide +kernel
set_option maxRecDepth 20000 in
theorem ggX5_throwAt_X7_tenthsOf : GoodIn wsX5_throwAt wsX7_tenthsOf := goodIn_r _ [8, 9, 10, 11, 12, 13, 14, 15, 16, 17, 7, 18, 19] (by decide +kernel) (by decide +kernel)
set_option maxRecDepth 20000 in
theorem gX5_throwAt_X7_tenthsOf_n63 : GoodIn wsX5_throwAt (wsX7_tenthsOf) := ggX5_throwAt_X7_tenthsOf
set_option maxRecDepth 20000 in
theorem ggX5_throwAt_X5_draw : GoodIn wsX5_throwAt wsX5_draw := goodIn_r _ [24, 25, 26, 27, 28, 29, 30, 31, 32] (by decide +kernel) (by decide +kernel)
set_option maxRecDepth 20000 in
theorem gX5_throwAt_X5_draw : GoodIn wsX5_throwAt (wsV RX5 36 RX5 yX5_draw wsX5_draw) := goodIn_app (goodIn_of _ (by decide +kernel)) ggX5_throwAt_X5_draw
theorem dX5_throwAt_0 : decode cX5_throwAt 0 = .ok (.aload_n 0, 1) := by decide +kernel
theorem dX5_throwAt_1 : decode cX5_throwAt 1 = .ok (.getfield 9, 3) := by decide +kernel
theorem dX5_throwAt_4 : decode cX5_throwAt 4 = .ok (.iload_n 2, 1) := by decide +kernel
theorem dX5_throwAt_5 : decode cX5_throwAt 5 = .ok (.iaload, 1) := by decide +kernel
theorem dX5_throwAt_6 : decode cX5_throwAt 6 = .ok (.aload_n 1, 1) := by decide +kernel
theorem dX5_throwAt_7 : decode cX5_throwAt 7 = .ok (.getfield 57, 3) := by decide +kernel
theorem dX5_throwAt_10 : decode cX5_throwAt 10 = .ok (.iload_n 2, 1) := by decide +kernel
theorem dX5_throwAt_11 : decode cX5_throwAt 11 = .ok (.iaload, 1) := by decide +kernel
theorem dX5_throwAt_12 : decode cX5_throwAt 12 = .ok (.if_icmp .lt 10, 3) := by decide +kernel
theorem dX5_throwAt_15 : decode cX5_throwAt 15 = .ok (.aload_n 0, 1) := by decide +kernel
theorem dX5_throwAt_16 : decode cX5_throwAt 16 = .ok (.getfield 9, 3) := by decide +kernel
theorem dX5_throwAt_19 : decode cX5_throwAt 19 = .ok (.iload_n 2, 1) := by decide +kernel
theorem dX5_throwAt_20 : decode cX5_throwAt 20 = .ok (.iconst 0, 1) := by decide +kernel
theorem dX5_throwAt_21 : decode cX5_throwAt 21 = .ok (.iastore, 1) := by decide +kernel
theorem dX5_throwAt_22 : decode cX5_throwAt 22 = .ok (.aload_n 0, 1) := by decide +kernel
theorem dX5_throwAt_23 : decode cX5_throwAt 23 = .ok (.getfield 9, 3) := by decide +kernel
theorem dX5_throwAt_26 : decode cX5_throwAt 26 = .ok (.iload_n 3, 1) := by decide +kernel
theorem dX5_throwAt_27 : decode cX5_throwAt 27 = .ok (.iaload, 1) := by decide +kernel
theorem dX5_throwAt_28 : decode cX5_throwAt 28 = .ok (.aload_n 1, 1) := by decide +kernel
theorem dX5_throwAt_29 : decode cX5_throwAt 29 = .ok (.getfield 57, 3) := by decide +kernel
theorem dX5_throwAt_32 : decode cX5_throwAt 32 = .ok (.iload_n 3, 1) := by decide +kernel
theorem dX5_throwAt_33 : decode cX5_throwAt 33 = .ok (.iaload, 1) := by decide +kernel
theorem dX5_throwAt_34 : decode cX5_throwAt 34 = .ok (.if_icmp .lt 7, 3) := by decide +kernel
theorem dX5_throwAt_37 : decode cX5_throwAt 37 = .ok (.iconst 1, 1) := by decide +kernel
theorem dX5_throwAt_38 : decode cX5_throwAt 38 = .ok (.goto 4, 3) := by decide +kernel
theorem dX5_throwAt_41 : decode cX5_throwAt 41 = .ok (.iconst 0, 1) := by decide +kernel
theorem dX5_throwAt_42 : decode cX5_throwAt 42 = .ok (.istore 4, 2) := by decide +kernel
theorem dX5_throwAt_44 : decode cX5_throwAt 44 = .ok (.iconst 0, 1) := by decide +kernel
theorem dX5_throwAt_45 : decode cX5_throwAt 45 = .ok (.aload_n 1, 1) := by decide +kernel
theorem dX5_throwAt_46 : decode cX5_throwAt 46 = .ok (.getfield 60, 3) := by decide +kernel
theorem dX5_throwAt_49 : decode cX5_throwAt 49 = .ok (.iload_n 2, 1) := by decide +kernel
theorem dX5_throwAt_50 : decode cX5_throwAt 50 = .ok (.iaload, 1) := by decide +kernel
theorem dX5_throwAt_51 : decode cX5_throwAt 51 = .ok (.iload 4, 2) := by decide +kernel
theorem dX5_throwAt_53 : decode cX5_throwAt 53 = .ok (.iconst 0, 1) := by decide +kernel
theorem dX5_throwAt_54 : decode cX5_throwAt 54 = .ok (.invokestatic 63, 3) := by decide +kernel
theorem dX5_throwAt_57 : decode cX5_throwAt 57 = .ok (.istore 5, 2) := by decide +kernel
theorem dX5_throwAt_59 : decode cX5_throwAt 59 = .ok (.iload 5, 2) := by decide +kernel
theorem dX5_throwAt_61 : decode cX5_throwAt 61 = .ok (.iconst 0, 1) := by decide +kernel
theorem dX5_throwAt_62 : decode cX5_throwAt 62 = .ok (.aload_n 1, 1) := by decide +kernel
theorem dX5_throwAt_63 : decode cX5_throwAt 63 = .ok (.getfield 60, 3) := by decide +kernel
theorem dX5_throwAt_66 : decode cX5_throwAt 66 = .ok (.iload_n 2, 1) := by decide +kernel
theorem dX5_throwAt_67 : decode cX5_throwAt 67 = .ok (.iaload, 1) := by decide +kernel
theorem dX5_throwAt_68 : decode cX5_throwAt 68 = .ok (.iload 4, 2) := by decide +kernel
theorem dX5_throwAt_70 : decode cX5_throwAt 70 = .ok (.iconst 1, 1) := by decide +kernel
theorem dX5_throwAt_71 : decode cX5_throwAt 71 = .ok (.invokestatic 63, 3) := by decide +kernel
theorem dX5_throwAt_74 : decode cX5_throwAt 74 = .ok (.iadd, 1) := by decide +kernel
theorem dX5_throwAt_75 : decode cX5_throwAt 75 = .ok (.istore 6, 2) := by decide +kernel
theorem dX5_throwAt_77 : decode cX5_throwAt 77 = .ok (.aload_n 0, 1) := by decide +kernel
theorem dX5_throwAt_78 : decode cX5_throwAt 78 = .ok (.bipush 10, 2) := by decide +kernel
theorem dX5_throwAt_80 : decode cX5_throwAt 80 = .ok (.invokevirtual 36, 3) := by decide +kernel
theorem dX5_throwAt_83 : decode cX5_throwAt 83 = .ok (.istore 7, 2) := by decide +kernel
theorem dX5_throwAt_85 : decode cX5_throwAt 85 = .ok (.iload 7, 2) := by decide +kernel
theorem dX5_throwAt_87 : decode cX5_throwAt 87 = .ok (.iload 5, 2) := by decide +kernel
theorem dX5_throwAt_89 : decode cX5_throwAt 89 = .ok (.if_icmp .lt 31, 3) := by decide +kernel
theorem dX5_throwAt_92 : decode cX5_throwAt 92 = .ok (.iload 7, 2) := by decide +kernel
theorem dX5_throwAt_94 : decode cX5_throwAt 94 = .ok (.iload 6, 2) := by decide +kernel
theorem dX5_throwAt_96 : decode cX5_throwAt 96 = .ok (.if_icmp .ge 24, 3) := by decide +kernel
theorem dX5_throwAt_99 : decode cX5_throwAt 99 = .ok (.aload_n 0, 1) := by decide +kernel
theorem dX5_throwAt_100 : decode cX5_throwAt 100 = .ok (.dup, 1) := by decide +kernel
theorem dX5_throwAt_101 : decode cX5_throwAt 101 = .ok (.getfield 25, 3) := by decide +kernel
theorem dX5_throwAt_104 : decode cX5_throwAt 104 = .ok (.iconst 1, 1) := by decide +kernel
theorem dX5_throwAt_105 : decode cX5_throwAt 105 = .ok (.iadd, 1) := by decide +kernel
theorem dX5_throwAt_106 : decode cX5_throwAt 106 = .ok (.putfield 25, 3) := by decide +kernel
theorem dX5_throwAt_109 : decode cX5_throwAt 109 = .ok (.aload_n 0, 1) := by decide +kernel
theorem dX5_throwAt_110 : decode cX5_throwAt 110 = .ok (.getfield 9, 3) := by decide +kernel
theorem dX5_throwAt_113 : decode cX5_throwAt 113 = .ok (.iload_n 3, 1) := by decide +kernel
theorem dX5_throwAt_114 : decode cX5_throwAt 114 = .ok (.dup2, 1) := by decide +kernel
theorem dX5_throwAt_115 : decode cX5_throwAt 115 = .ok (.iaload, 1) := by decide +kernel
theorem dX5_throwAt_116 : decode cX5_throwAt 116 = .ok (.iconst 1, 1) := by decide +kernel
theorem dX5_throwAt_117 : decode cX5_throwAt 117 = .ok (.iadd, 1) := by decide +kernel
theorem dX5_throwAt_118 : decode cX5_throwAt 118 = .ok (.iastore, 1) := by decide +kernel
theorem dX5_throwAt_119 : decode cX5_throwAt 119 = .ok (.return_, 1) := by decide +kernel
theorem dX5_throwAt_120 : decode cX5_throwAt 120 = .ok (.iload 7, 2) := by decide +kernel
theorem dX5_throwAt_122 : decode cX5_throwAt 122 = .ok (.iload 6, 2) := by decide +kernel
theorem dX5_throwAt_124 : decode cX5_throwAt 124 = .ok (.if_icmp .lt 13, 3) := by decide +kernel
theorem dX5_throwAt_127 : decode cX5_throwAt 127 = .ok (.aload_n 0, 1) := by decide +kernel
theorem dX5_throwAt_128 : decode cX5_throwAt 128 = .ok (.dup, 1) := by decide +kernel
theorem dX5_throwAt_129 : decode cX5_throwAt 129 = .ok (.getfield 28, 3) := by decide +kernel
theorem dX5_throwAt_132 : decode cX5_throwAt 132 = .ok (.iconst 1, 1) := by decide +kernel
theorem dX5_throwAt_133 : decode cX5_throwAt 133 = .ok (.iadd, 1) := by decide +kernel
theorem dX5_throwAt_134 : decode cX5_throwAt 134 = .ok (.putfield 28, 3) := by decide +kernel
theorem dX5_throwAt_137 : decode cX5_throwAt 137 = .ok (.aload_n 0, 1) := by decide +kernel
theorem dX5_throwAt_138 : decode cX5_throwAt 138 = .ok (.getfield 9, 3) := by decide +kernel
theorem dX5_throwAt_141 : decode cX5_throwAt 141 = .ok (.iload_n 2, 1) := by decide +kernel
theorem dX5_throwAt_142 : decode cX5_throwAt 142 = .ok (.dup2, 1) := by decide +kernel
theorem dX5_throwAt_143 : decode cX5_throwAt 143 = .ok (.iaload, 1) := by decide +kernel
theorem dX5_throwAt_144 : decode cX5_throwAt 144 = .ok (.iconst 1, 1) := by decide +kernel
theorem dX5_throwAt_145 : decode cX5_throwAt 145 = .ok (.iadd, 1) := by decide +kernel
theorem dX5_throwAt_146 : decode cX5_throwAt 146 = .ok (.iastore, 1) := by decide +kernel
theorem dX5_throwAt_147 : decode cX5_throwAt 147 = .ok (.return_, 1) := by decide +kernel
theorem dX5_draw_0 : decode cX5_draw 0 = .ok (.aload_n 0, 1) := by decide +kernel
theorem dX5_draw_1 : decode cX5_draw 1 = .ok (.ldc2_w 67, 3) := by decide +kernel
theorem dX5_draw_4 : decode cX5_draw 4 = .ok (.aload_n 0, 1) := by decide +kernel
theorem dX5_draw_5 : decode cX5_draw 5 = .ok (.getfield 21, 3) := by decide +kernel
theorem dX5_draw_8 : decode cX5_draw 8 = .ok (.i2l, 1) := by decide +kernel
theorem dX5_draw_9 : decode cX5_draw 9 = .ok (.lmul, 1) := by decide +kernel
theorem dX5_draw_10 : decode cX5_draw 10 = .ok (.ldc2_w 69, 3) := by decide +kernel
theorem dX5_draw_13 : decode cX5_draw 13 = .ok (.ladd, 1) := by decide +kernel
theorem dX5_draw_14 : decode cX5_draw 14 = .ok (.ldc2_w 71, 3) := by decide +kernel
theorem dX5_draw_17 : decode cX5_draw 17 = .ok (.land, 1) := by decide +kernel
theorem dX5_draw_18 : decode cX5_draw 18 = .ok (.l2i, 1) := by decide +kernel
theorem dX5_draw_19 : decode cX5_draw 19 = .ok (.putfield 21, 3) := by decide +kernel
theorem dX5_draw_22 : decode cX5_draw 22 = .ok (.iload_n 1, 1) := by decide +kernel
theorem dX5_draw_23 : decode cX5_draw 23 = .ok (.ifCond .le 15, 3) := by decide +kernel
theorem dX5_draw_26 : decode cX5_draw 26 = .ok (.aload_n 0, 1) := by decide +kernel
theorem dX5_draw_27 : decode cX5_draw 27 = .ok (.getfield 21, 3) := by decide +kernel
theorem dX5_draw_30 : decode cX5_draw 30 = .ok (.bipush 16, 2) := by decide +kernel
theorem dX5_draw_32 : decode cX5_draw 32 = .ok (.ishr, 1) := by decide +kernel
theorem dX5_draw_33 : decode cX5_draw 33 = .ok (.iload_n 1, 1) := by decide +kernel
theorem dX5_draw_34 : decode cX5_draw 34 = .ok (.irem, 1) := by decide +kernel
theorem dX5_draw_35 : decode cX5_draw 35 = .ok (.goto 4, 3) := by decide +kernel
theorem dX5_draw_38 : decode cX5_draw 38 = .ok (.iconst 0, 1) := by decide +kernel
theorem dX5_draw_39 : decode cX5_draw 39 = .ok (.ireturn, 1) := by decide +kernel
theorem dX6_init_0 : decode cX6_init 0 = .ok (.aload_n 0, 1) := by decide +kernel
theorem dX6_init_1 : decode cX6_init 1 = .ok (.invokespecial 3, 3) := by decide +kernel
theorem dX6_init_4 : decode cX6_init 4 = .ok (.aload_n 0, 1) := by decide +kernel
theorem dX6_init_5 : decode cX6_init 5 = .ok (.bipush 6, 2) := by decide +kernel
theorem dX6_init_7 : decode cX6_init 7 = .ok (.newarray .int, 2) := by decide +kernel
theorem dX6_init_9 : decode cX6_init 9 = .ok (.putfield 9, 3) := by decide +kernel
theorem dX6_init_12 : decode cX6_init 12 = .ok (.aload_n 0, 1) := by decide +kernel
theorem dX6_init_13 : decode cX6_init 13 = .ok (.bipush 6, 2) := by decide +kernel
theorem dX6_init_15 : decode cX6_init 15 = .ok (.newarray .int, 2) := by decide +kernel
theorem dX6_init_17 : decode cX6_init 17 = .ok (.putfield 15, 3) := by decide +kernel
theorem dX6_init_20 : decode cX6_init 20 = .ok (.aload_n 0, 1) := by decide +kernel
theorem dX6_init_21 : decode cX6_init 21 = .ok (.bipush 6, 2) := by decide +kernel
theorem dX6_init_23 : decode cX6_init 23 = .ok (.newarray .int, 2) := by decide +kernel
theorem dX6_init_25 : decode cX6_init 25 = .ok (.putfield 18, 3) := by decide +kernel
theorem dX6_init_28 : decode cX6_init 28 = .ok (.return_, 1) := by decide +kernel
set_option maxRecDepth 20000 in
theorem ggX6_seek_J7_fill_53178 : GoodIn wsX6_seek wsJ7_fill_53178 := goodIn_r _ [11] (by decide +kernel) (by decide +kernel)
set_option maxRecDepth 20000 in
theorem gX6_seek_J7_fill_53178 : GoodIn wsX6_seek (va_wsS RX6 29 yJ7_fill_53178 wsJ7_fill_53178) := goodIn_app (goodIn_of _ (by decide +kernel)) ggX6_seek_J7_fill_53178
set_option maxRecDepth 20000 in
theorem ggX6_seek_X6_askAllFound : GoodIn wsX6_seek wsX6_askAllFound := goodIn_r _ [16, 17, 18, 19, 20, 8, 9, 10, 11, 21, 22, 23, 15, 24, 37, 38, 39, 40, 41, 42, 43, 44, 45, 46, 47, 48, 49] (by decide +kernel) (by decide +kernel)
set_option maxRecDepth 20000 in
theorem gX6_seek_X6_askAllFound : GoodIn wsX6_seek (wsV RX6 35 RX6 yX6_askAllFound wsX6_askAllFound) := goodIn_app (goodIn_of _ (by decide +kernel)) ggX6_seek_X6_askAllFound
set_option maxRecDepth 20000 in
theorem ggX6_seek_X6_hangFrom : GoodIn wsX6_seek wsX6_hangFrom := goodIn_r _ [27, 28, 29, 30, 31, 15, 32, 2, 3, 33, 34, 35, 36, 21, 22, 23, 24, 17, 25, 26, 37, 38, 39, 40, 41] (by decide +kernel) (by decide +kernel)
set_option maxRecDepth 20000 in
theorem gX6_seek_X6_hangFrom : GoodIn wsX6_seek (va_wsS RX6 45 yX6_hangFrom wsX6_hangFrom) := goodIn_app (goodIn_of _ (by decide +kernel)) ggX6_seek_X6_hangFrom
theorem dX6_seek_0 : decode cX6_seek 0 = .ok (.aload_n 0, 1) := by decide +kernel
theorem dX6_seek_1 : decode cX6_seek 1 = .ok (.getfield 21, 3) := by decide +kernel
theorem dX6_seek_4 : decode cX6_seek 4 = .ok (.ifCond .eq 4, 3) := by decide +kernel
theorem dX6_seek_7 : decode cX6_seek 7 = .ok (.return_, 1) := by decide +kernel
theorem dX6_seek_8 : decode cX6_seek 8 = .ok (.aload_n 0, 1) := by decide +kernel
theorem dX6_seek_9 : decode cX6_seek 9 = .ok (.iconst 1, 1) := by decide +kernel
theorem dX6_seek_10 : decode cX6_seek 10 = .ok (.putfield 21, 3) := by decide +kernel
theorem dX6_seek_13 : decode cX6_seek 13 = .ok (.aload_n 0, 1) := by decide +kernel
theorem dX6_seek_14 : decode cX6_seek 14 = .ok (.iconst 0, 1) := by decide +kernel
theorem dX6_seek_15 : decode cX6_seek 15 = .ok (.putfield 25, 3) := by decide +kernel
theorem dX6_seek_18 : decode cX6_seek 18 = .ok (.aload_n 0, 1) := by decide +kernel
theorem dX6_seek_19 : decode cX6_seek 19 = .ok (.getfield 18, 3) := by decide +kernel
theorem dX6_seek_22 : decode cX6_seek 22 = .ok (.iconst 0, 1) := by decide +kernel
theorem dX6_seek_23 : decode cX6_seek 23 = .ok (.invokestatic 29, 3) := by decide +kernel
theorem dX6_seek_26 : decode cX6_seek 26 = .ok (.aload_n 0, 1) := by decide +kernel
theorem dX6_seek_27 : decode cX6_seek 27 = .ok (.aload_n 1, 1) := by decide +kernel
theorem dX6_seek_28 : decode cX6_seek 28 = .ok (.invokevirtual 35, 3) := by decide +kernel
theorem dX6_seek_31 : decode cX6_seek 31 = .ok (.ifCond .eq 15, 3) := by decide +kernel
theorem dX6_seek_34 : decode cX6_seek 34 = .ok (.aload_n 0, 1) := by decide +kernel
theorem dX6_seek_35 : decode cX6_seek 35 = .ok (.iconst 0, 1) := by decide +kernel
theorem dX6_seek_36 : decode cX6_seek 36 = .ok (.iconst 0, 1) := by decide +kernel
theorem dX6_seek_37 : decode cX6_seek 37 = .ok (.iload_n 2, 1) := by decide +kernel
theorem dX6_seek_38 : decode cX6_seek 38 = .ok (.bipush 6, 2) := by decide +kernel
theorem dX6_seek_40 : decode cX6_seek 40 = .ok (.invokestatic 39, 3) := by decide +kernel
theorem dX6_seek_43 : decode cX6_seek 43 = .ok (.invokestatic 45, 3) := by decide +kernel
theorem dX6_seek_46 : decode cX6_seek 46 = .ok (.return_, 1) := by decide +kernel
set_option maxRecDepth 20000 in
theorem ggX6_askAllFound_J7_fill_53178 : GoodIn wsX6_askAllFound wsJ7_fill_53178 := goodIn_r _ [8] (by decide +kernel) (by decide +kernel)
set_option maxRecDepth 20000 in
theorem gX6_askAllFound_J7_fill_53178 : GoodIn wsX6_askAllFound (va_wsS RX6 29 yJ7_fill_53178 wsJ7_fill_53178) := goodIn_app (goodIn_of _ (by decide +kernel)) ggX6_askAllFound_J7_fill_53178
set_option maxRecDepth 20000 in
theorem ggX6_askAllFound_X6_beyondOf : GoodIn wsX6_askAllFound wsX6_beyondOf := goodIn_r _ [13, 1, 14, 15, 16, 17, 18] (by decide +kernel) (by decide +kernel)
set_option maxRecDepth 20000 in
theorem gX6_askAllFound_X6_beyondOf : GoodIn wsX6_askAllFound (wsV RX6 60 RX6 yX6_beyondOf wsX6_beyondOf) := goodIn_app (goodIn_of _ (by decide +kernel)) ggX6_askAllFound_X6_beyondOf
theorem dX6_askAllFound_0 : decode cX6_askAllFound 0 = .ok (.aload_n 0, 1) := by decide +kernel
theorem dX6_askAllFound_1 : decode cX6_askAllFound 1 = .ok (.getfield 15, 3) := by decide +kernel
theorem dX6_askAllFound_4 : decode cX6_askAllFound 4 = .ok (.iconst (-1), 1) := by decide +kernel
theorem dX6_askAllFound_5 : decode cX6_askAllFound 5 = .ok (.invokestatic 29, 3) := by decide +kernel
theorem dX6_askAllFound_8 : decode cX6_askAllFound 8 = .ok (.iconst 0, 1) := by decide +kernel
theorem dX6_askAllFound_9 : decode cX6_askAllFound 9 = .ok (.istore_n 2, 1) := by decide +kernel
theorem dX6_askAllFound_10 : decode cX6_askAllFound 10 = .ok (.iload_n 2, 1) := by decide +kernel
theorem dX6_askAllFound_11 : decode cX6_askAllFound 11 = .ok (.aload_n 1, 1) := by decide +kernel
theorem dX6_askAllFound_12 : decode cX6_askAllFound 12 = .ok (.getfield 49, 3) := by decide +kernel
theorem dX6_askAllFound_15 : decode cX6_askAllFound 15 = .ok (.if_icmp .ge 66, 3) := by decide +kernel
theorem dX6_askAllFound_18 : decode cX6_askAllFound 18 = .ok (.aload_n 1, 1) := by decide +kernel
theorem dX6_askAllFound_19 : decode cX6_askAllFound 19 = .ok (.getfield 54, 3) := by decide +kernel
theorem dX6_askAllFound_22 : decode cX6_askAllFound 22 = .ok (.iload_n 2, 1) := by decide +kernel
theorem dX6_askAllFound_23 : decode cX6_askAllFound 23 = .ok (.iaload, 1) := by decide +kernel
theorem dX6_askAllFound_24 : decode cX6_askAllFound 24 = .ok (.istore_n 3, 1) := by decide +kernel
theorem dX6_askAllFound_25 : decode cX6_askAllFound 25 = .ok (.aload_n 1, 1) := by decide +kernel
theorem dX6_askAllFound_26 : decode cX6_askAllFound 26 = .ok (.getfield 57, 3) := by decide +kernel
theorem dX6_askAllFound_29 : decode cX6_askAllFound 29 = .ok (.iload_n 2, 1) := by decide +kernel
theorem dX6_askAllFound_30 : decode cX6_askAllFound 30 = .ok (.iaload, 1) := by decide +kernel
theorem dX6_askAllFound_31 : decode cX6_askAllFound 31 = .ok (.istore 4, 2) := by decide +kernel
theorem dX6_askAllFound_33 : decode cX6_askAllFound 33 = .ok (.aload_n 0, 1) := by decide +kernel
theorem dX6_askAllFound_34 : decode cX6_askAllFound 34 = .ok (.iload_n 3, 1) := by decide +kernel
theorem dX6_askAllFound_35 : decode cX6_askAllFound 35 = .ok (.invokevirtual 60, 3) := by decide +kernel
theorem dX6_askAllFound_38 : decode cX6_askAllFound 38 = .ok (.iconst (-1), 1) := by decide +kernel
theorem dX6_askAllFound_39 : decode cX6_askAllFound 39 = .ok (.if_icmp .eq 15, 3) := by decide +kernel
theorem dX6_askAllFound_42 : decode cX6_askAllFound 42 = .ok (.aload_n 0, 1) := by decide +kernel
theorem dX6_askAllFound_43 : decode cX6_askAllFound 43 = .ok (.iload_n 3, 1) := by decide +kernel
theorem dX6_askAllFound_44 : decode cX6_askAllFound 44 = .ok (.invokevirtual 60, 3) := by decide +kernel
theorem dX6_askAllFound_47 : decode cX6_askAllFound 47 = .ok (.iload 4, 2) := by decide +kernel
theorem dX6_askAllFound_49 : decode cX6_askAllFound 49 = .ok (.if_icmp .eq 5, 3) := by decide +kernel
theorem dX6_askAllFound_52 : decode cX6_askAllFound 52 = .ok (.iconst 0, 1) := by decide +kernel
theorem dX6_askAllFound_53 : decode cX6_askAllFound 53 = .ok (.ireturn, 1) := by decide +kernel
theorem dX6_askAllFound_54 : decode cX6_askAllFound 54 = .ok (.iload_n 3, 1) := by decide +kernel
theorem dX6_askAllFound_55 : decode cX6_askAllFound 55 = .ok (.ifCond .lt 20, 3) := by decide +kernel
theorem dX6_askAllFound_58 : decode cX6_askAllFound 58 = .ok (.iload_n 3, 1) := by decide +kernel
theorem dX6_askAllFound_59 : decode cX6_askAllFound 59 = .ok (.aload_n 0, 1) := by decide +kernel
theorem dX6_askAllFound_60 : decode cX6_askAllFound 60 = .ok (.getfield 15, 3) := by decide +kernel
theorem dX6_askAllFound_63 : decode cX6_askAllFound 63 = .ok (.arraylength, 1) := by decide +kernel
theorem dX6_askAllFound_64 : decode cX6_askAllFound 64 = .ok (.if_icmp .ge 11, 3) := by decide +kernel
theorem dX6_askAllFound_67 : decode cX6_askAllFound 67 = .ok (.aload_n 0, 1) := by decide +kernel
theorem dX6_askAllFound_68 : decode cX6_askAllFound 68 = .ok (.getfield 15, 3) := by decide +kernel
theorem dX6_askAllFound_71 : decode cX6_askAllFound 71 = .ok (.iload_n 3, 1) := by decide +kernel
theorem dX6_askAllFound_72 : decode cX6_askAllFound 72 = .ok (.iload 4, 2) := by decide +kernel
theorem dX6_askAllFound_74 : decode cX6_askAllFound 74 = .ok (.iastore, 1) := by decide +kernel
theorem dX6_askAllFound_75 : decode cX6_askAllFound 75 = .ok (.iinc 2 1, 3) := by decide +kernel
theorem dX6_askAllFound_78 : decode cX6_askAllFound 78 = .ok (.goto (-68), 3) := by decide +kernel
theorem dX6_askAllFound_81 : decode cX6_askAllFound 81 = .ok (.iconst 1, 1) := by decide +kernel
theorem dX6_askAllFound_82 : decode cX6_askAllFound 82 = .ok (.ireturn, 1) := by decide +kernel
theorem dX6_beyondOf_0 : decode cX6_beyondOf 0 = .ok (.iload_n 1, 1) := by decide +kernel
theorem dX6_beyondOf_1 : decode cX6_beyondOf 1 = .ok (.ifCond .lt 21, 3) := by decide +kernel
theorem dX6_beyondOf_4 : decode cX6_beyondOf 4 = .ok (.iload_n 1, 1) := by decide +kernel
theorem dX6_beyondOf_5 : decode cX6_beyondOf 5 = .ok (.aload_n 0, 1) := by decide +kernel
theorem dX6_beyondOf_6 : decode cX6_beyondOf 6 = .ok (.getfield 15, 3) := by decide +kernel
theorem dX6_beyondOf_9 : decode cX6_beyondOf 9 = .ok (.arraylength, 1) := by decide +kernel
theorem dX6_beyondOf_10 : decode cX6_beyondOf 10 = .ok (.if_icmp .ge 12, 3) := by decide +kernel
theorem dX6_beyondOf_13 : decode cX6_beyondOf 13 = .ok (.aload_n 0, 1) := by decide +kernel
theorem dX6_beyondOf_14 : decode cX6_beyondOf 14 = .ok (.getfield 15, 3) := by decide +kernel
theorem dX6_beyondOf_17 : decode cX6_beyondOf 17 = .ok (.iload_n 1, 1) := by decide +kernel
theorem dX6_beyondOf_18 : decode cX6_beyondOf 18 = .ok (.iaload, 1) := by decide +kernel
theorem dX6_beyondOf_19 : decode cX6_beyondOf 19 = .ok (.goto 4, 3) := by decide +kernel
theorem dX6_beyondOf_22 : decode cX6_beyondOf 22 = .ok (.iconst (-1), 1) := by decide +kernel
theorem dX6_beyondOf_23 : decode cX6_beyondOf 23 = .ok (.ireturn, 1) := by decide +kernel
set_option maxRecDepth 20000 in
theorem ggX6_hangFrom_X6_keep : GoodIn wsX6_hangFrom wsX6_keep := goodIn_r _ [6, 7, 1, 8, 20, 21, 22, 23, 24] (by decide +kernel) (by decide +kernel)
set_option maxRecDepth 20000 in
theorem gX6_hangFrom_X6_keep : GoodIn wsX6_hangFrom (wsV RX6 64 RX6 yX6_keep wsX6_keep) := goodIn_app (goodIn_of _ (by decide +kernel)) ggX6_hangFrom_X6_keep
set_option maxRecDepth 20000 in
theorem ggX6_hangFrom_X6_canHang : GoodIn wsX6_hangFrom wsX6_canHang := goodIn_r _ [12, 1, 13, 14, 15, 5, 16, 17, 20, 21, 22, 23, 24] (by decide +kernel) (by decide +kernel)
set_option maxRecDepth 20000 in
theorem gX6_hangFrom_X6_canHang : GoodIn wsX6_hangFrom (wsV RX6 68 RX6 yX6_canHang wsX6_canHang) := goodIn_app (goodIn_of _ (by decide +kernel)) ggX6_hangFrom_X6_canHang
set_option maxRecDepth 20000 in
theorem ggX6_hangFrom_X6_hangFrom : GoodIn wsX6_hangFrom wsX6_hangFrom := goodIn_r _ [0, 1, 2, 3, 4, 5, 6, 7, 8, 9, 10, 11, 12, 13, 14, 15, 16, 17, 18, 19, 20, 21, 22, 23, 24] (by decide +kernel) (by decide +kernel)
set_option maxRecDepth 20000 in
theorem gX6_hangFrom_X6_hangFrom : GoodIn wsX6_hangFrom (va_wsS RX6 45 yX6_hangFrom wsX6_hangFrom) := goodIn_app (goodIn_of _ (by decide +kernel)) ggX6_hangFrom_X6_hangFrom
theorem dX6_hangFrom_0 : decode cX6_hangFrom 0 = .ok (.iload_n 1, 1) := by decide +kernel
theorem dX6_hangFrom_1 : decode cX6_hangFrom 1 = .ok (.iload_n 3, 1) := by decide +kernel
theorem dX6_hangFrom_2 : decode cX6_hangFrom 2 = .ok (.if_icmp .lt 9, 3) := by decide +kernel
theorem dX6_hangFrom_5 : decode cX6_hangFrom 5 = .ok (.aload_n 0, 1) := by decide +kernel
theorem dX6_hangFrom_6 : decode cX6_hangFrom 6 = .ok (.iload_n 3, 1) := by decide +kernel
theorem dX6_hangFrom_7 : decode cX6_hangFrom 7 = .ok (.invokevirtual 64, 3) := by decide +kernel
theorem dX6_hangFrom_10 : decode cX6_hangFrom 10 = .ok (.return_, 1) := by decide +kernel
theorem dX6_hangFrom_11 : decode cX6_hangFrom 11 = .ok (.iconst 0, 1) := by decide +kernel
theorem dX6_hangFrom_12 : decode cX6_hangFrom 12 = .ok (.istore 4, 2) := by decide +kernel
theorem dX6_hangFrom_14 : decode cX6_hangFrom 14 = .ok (.iload 4, 2) := by decide +kernel
theorem dX6_hangFrom_16 : decode cX6_hangFrom 16 = .ok (.iload_n 3, 1) := by decide +kernel
theorem dX6_hangFrom_17 : decode cX6_hangFrom 17 = .ok (.if_icmp .ge 51, 3) := by decide +kernel
theorem dX6_hangFrom_20 : decode cX6_hangFrom 20 = .ok (.iload_n 2, 1) := by decide +kernel
theorem dX6_hangFrom_21 : decode cX6_hangFrom 21 = .ok (.iload 4, 2) := by decide +kernel
theorem dX6_hangFrom_23 : decode cX6_hangFrom 23 = .ok (.ishr, 1) := by decide +kernel
theorem dX6_hangFrom_24 : decode cX6_hangFrom 24 = .ok (.iconst 1, 1) := by decide +kernel
theorem dX6_hangFrom_25 : decode cX6_hangFrom 25 = .ok (.iand, 1) := by decide +kernel
theorem dX6_hangFrom_26 : decode cX6_hangFrom 26 = .ok (.ifCond .ne 36, 3) := by decide +kernel
theorem dX6_hangFrom_29 : decode cX6_hangFrom 29 = .ok (.aload_n 0, 1) := by decide +kernel
theorem dX6_hangFrom_30 : decode cX6_hangFrom 30 = .ok (.iload 4, 2) := by decide +kernel
theorem dX6_hangFrom_32 : decode cX6_hangFrom 32 = .ok (.iload_n 1, 1) := by decide +kernel
theorem dX6_hangFrom_33 : decode cX6_hangFrom 33 = .ok (.iload_n 3, 1) := by decide +kernel
theorem dX6_hangFrom_34 : decode cX6_hangFrom 34 = .ok (.invokevirtual 68, 3) := by decide +kernel
theorem dX6_hangFrom_37 : decode cX6_hangFrom 37 = .ok (.ifCond .eq 25, 3) := by decide +kernel
theorem dX6_hangFrom_40 : decode cX6_hangFrom 40 = .ok (.aload_n 0, 1) := by decide +kernel
theorem dX6_hangFrom_41 : decode cX6_hangFrom 41 = .ok (.getfield 9, 3) := by decide +kernel
theorem dX6_hangFrom_44 : decode cX6_hangFrom 44 = .ok (.iload_n 1, 1) := by decide +kernel
theorem dX6_hangFrom_45 : decode cX6_hangFrom 45 = .ok (.iload 4, 2) := by decide +kernel
theorem dX6_hangFrom_47 : decode cX6_hangFrom 47 = .ok (.iastore, 1) := by decide +kernel
theorem dX6_hangFrom_48 : decode cX6_hangFrom 48 = .ok (.aload_n 0, 1) := by decide +kernel
theorem dX6_hangFrom_49 : decode cX6_hangFrom 49 = .ok (.iload_n 1, 1) := by decide +kernel
theorem dX6_hangFrom_50 : decode cX6_hangFrom 50 = .ok (.iconst 1, 1) := by decide +kernel
theorem dX6_hangFrom_51 : decode cX6_hangFrom 51 = .ok (.iadd, 1) := by decide +kernel
theorem dX6_hangFrom_52 : decode cX6_hangFrom 52 = .ok (.iload_n 2, 1) := by decide +kernel
theorem dX6_hangFrom_53 : decode cX6_hangFrom 53 = .ok (.iconst 1, 1) := by decide +kernel
theorem dX6_hangFrom_54 : decode cX6_hangFrom 54 = .ok (.iload 4, 2) := by decide +kernel
theorem dX6_hangFrom_56 : decode cX6_hangFrom 56 = .ok (.ishl, 1) := by decide +kernel
theorem dX6_hangFrom_57 : decode cX6_hangFrom 57 = .ok (.ior, 1) := by decide +kernel
theorem dX6_hangFrom_58 : decode cX6_hangFrom 58 = .ok (.iload_n 3, 1) := by decide +kernel
theorem dX6_hangFrom_59 : decode cX6_hangFrom 59 = .ok (.invokestatic 45, 3) := by decide +kernel
theorem dX6_hangFrom_62 : decode cX6_hangFrom 62 = .ok (.iinc 4 1, 3) := by decide +kernel
theorem dX6_hangFrom_65 : decode cX6_hangFrom 65 = .ok (.goto (-51), 3) := by decide +kernel
theorem dX6_hangFrom_68 : decode cX6_hangFrom 68 = .ok (.return_, 1) := by decide +kernel
set_option maxRecDepth 20000 in
theorem ggX6_canHang_X6_beyondOf : GoodIn wsX6_canHang wsX6_beyondOf := goodIn_r _ [6, 7, 8, 9, 10, 11, 12] (by decide +kernel) (by decide +kernel)
set_option maxRecDepth 20000 in
theorem gX6_canHang_X6_beyondOf : GoodIn wsX6_canHang (wsV RX6 60 RX6 yX6_beyondOf wsX6_beyondOf) := goodIn_app (goodIn_of _ (by decide +kernel)) ggX6_canHang_X6_beyondOf
theorem dX6_canHang_0 : decode cX6_canHang 0 = .ok (.iload_n 2, 1) := by decide +kernel
theorem dX6_canHang_1 : decode cX6_canHang 1 = .ok (.ifCond .ne 5, 3) := by decide +kernel
theorem dX6_canHang_4 : decode cX6_canHang 4 = .ok (.iconst 1, 1) := by decide +kernel
theorem dX6_canHang_5 : decode cX6_canHang 5 = .ok (.ireturn, 1) := by decide +kernel
theorem dX6_canHang_6 : decode cX6_canHang 6 = .ok (.aload_n 0, 1) := by decide +kernel
theorem dX6_canHang_7 : decode cX6_canHang 7 = .ok (.getfield 9, 3) := by decide +kernel
theorem dX6_canHang_10 : decode cX6_canHang 10 = .ok (.iload_n 2, 1) := by decide +kernel
theorem dX6_canHang_11 : decode cX6_canHang 11 = .ok (.iconst 1, 1) := by decide +kernel
theorem dX6_canHang_12 : decode cX6_canHang 12 = .ok (.isub, 1) := by decide +kernel
theorem dX6_canHang_13 : decode cX6_canHang 13 = .ok (.iaload, 1) := by decide +kernel
theorem dX6_canHang_14 : decode cX6_canHang 14 = .ok (.istore 4, 2) := by decide +kernel
theorem dX6_canHang_16 : decode cX6_canHang 16 = .ok (.aload_n 0, 1) := by decide +kernel
theorem dX6_canHang_17 : decode cX6_canHang 17 = .ok (.iload 4, 2) := by decide +kernel
theorem dX6_canHang_19 : decode cX6_canHang 19 = .ok (.invokevirtual 60, 3) := by decide +kernel
theorem dX6_canHang_22 : decode cX6_canHang 22 = .ok (.iconst (-1), 1) := by decide +kernel
theorem dX6_canHang_23 : decode cX6_canHang 23 = .ok (.if_icmp .eq 15, 3) := by decide +kernel
theorem dX6_canHang_26 : decode cX6_canHang 26 = .ok (.aload_n 0, 1) := by decide +kernel
theorem dX6_canHang_27 : decode cX6_canHang 27 = .ok (.iload 4, 2) := by decide +kernel
theorem dX6_canHang_29 : decode cX6_canHang 29 = .ok (.invokevirtual 60, 3) := by decide +kernel
theorem dX6_canHang_32 : decode cX6_canHang 32 = .ok (.iload_n 1, 1) := by decide +kernel
theorem dX6_canHang_33 : decode cX6_canHang 33 = .ok (.if_icmp .eq 5, 3) := by decide +kernel
theorem dX6_canHang_36 : decode cX6_canHang 36 = .ok (.iconst 0, 1) := by decide +kernel
theorem dX6_canHang_37 : decode cX6_canHang 37 = .ok (.ireturn, 1) := by decide +kernel
theorem dX6_canHang_38 : decode cX6_canHang 38 = .ok (.iload_n 2, 1) := by decide +kernel
theorem dX6_canHang_39 : decode cX6_canHang 39 = .ok (.iload_n 3, 1) := by decide +kernel
theorem dX6_canHang_40 : decode cX6_canHang 40 = .ok (.iconst 1, 1) := by decide +kernel
theorem dX6_canHang_41 : decode cX6_canHang 41 = .ok (.isub, 1) := by decide +kernel
theorem dX6_canHang_42 : decode cX6_canHang 42 = .ok (.if_icmp .lt 22, 3) := by decide +kernel
theorem dX6_canHang_45 : decode cX6_canHang 45 = .ok (.aload_n 0, 1) := by decide +kernel
theorem dX6_canHang_46 : decode cX6_canHang 46 = .ok (.iload_n 1, 1) := by decide +kernel
theorem dX6_canHang_47 : decode cX6_canHang 47 = .ok (.invokevirtual 60, 3) := by decide +kernel
theorem dX6_canHang_50 : decode cX6_canHang 50 = .ok (.iconst (-1), 1) := by decide +kernel
theorem dX6_canHang_51 : decode cX6_canHang 51 = .ok (.if_icmp .eq 13, 3) := by decide +kernel
theorem dX6_canHang_54 : decode cX6_canHang 54 = .ok (.aload_n 0, 1) := by decide +kernel
theorem dX6_canHang_55 : decode cX6_canHang 55 = .ok (.iload_n 1, 1) := by decide +kernel
theorem dX6_canHang_56 : decode cX6_canHang 56 = .ok (.invokevirtual 60, 3) := by decide +kernel
theorem dX6_canHang_59 : decode cX6_canHang 59 = .ok (.iload 4, 2) := by decide +kernel
theorem dX6_canHang_61 : decode cX6_canHang 61 = .ok (.if_icmp .ne 7, 3) := by decide +kernel
theorem dX6_canHang_64 : decode cX6_canHang 64 = .ok (.iconst 1, 1) := by decide +kernel
theorem dX6_canHang_65 : decode cX6_canHang 65 = .ok (.goto 4, 3) := by decide +kernel
theorem dX6_canHang_68 : decode cX6_canHang 68 = .ok (.iconst 0, 1) := by decide +kernel
theorem dX6_canHang_69 : decode cX6_canHang 69 = .ok (.ireturn, 1) := by decide +kernel
theorem dX6_keep_0 : decode cX6_keep 0 = .ok (.aload_n 0, 1) := by decide +kernel
theorem dX6_keep_1 : decode cX6_keep 1 = .ok (.dup, 1) := by decide +kernel
theorem dX6_keep_2 : decode cX6_keep 2 = .ok (.getfield 25, 3) := by decide +kernel
theorem dX6_keep_5 : decode cX6_keep 5 = .ok (.iconst 1, 1) := by decide +kernel
theorem dX6_keep_6 : decode cX6_keep 6 = .ok (.iadd, 1) := by decide +kernel
theorem dX6_keep_7 : decode cX6_keep 7 = .ok (.putfield 25, 3) := by decide +kernel
theorem dX6_keep_10 : decode cX6_keep 10 = .ok (.iconst 0, 1) := by decide +kernel
theorem dX6_keep_11 : decode cX6_keep 11 = .ok (.istore_n 2, 1) := by decide +kernel
theorem dX6_keep_12 : decode cX6_keep 12 = .ok (.iload_n 2, 1) := by decide +kernel
theorem dX6_keep_13 : decode cX6_keep 13 = .ok (.iload_n 1, 1) := by decide +kernel
theorem dX6_keep_14 : decode cX6_keep 14 = .ok (.if_icmp .ge 41, 3) := by decide +kernel
theorem dX6_keep_17 : decode cX6_keep 17 = .ok (.aload_n 0, 1) := by decide +kernel
theorem dX6_keep_18 : decode cX6_keep 18 = .ok (.getfield 9, 3) := by decide +kernel
theorem dX6_keep_21 : decode cX6_keep 21 = .ok (.iload_n 2, 1) := by decide +kernel
theorem dX6_keep_22 : decode cX6_keep 22 = .ok (.iaload, 1) := by decide +kernel
theorem dX6_keep_23 : decode cX6_keep 23 = .ok (.istore_n 3, 1) := by decide +kernel
theorem dX6_keep_24 : decode cX6_keep 24 = .ok (.iload_n 3, 1) := by decide +kernel
theorem dX6_keep_25 : decode cX6_keep 25 = .ok (.ifCond .lt 24, 3) := by decide +kernel
theorem dX6_keep_28 : decode cX6_keep 28 = .ok (.iload_n 3, 1) := by decide +kernel
theorem dX6_keep_29 : decode cX6_keep 29 = .ok (.aload_n 0, 1) := by decide +kernel
theorem dX6_keep_30 : decode cX6_keep 30 = .ok (.getfield 18, 3) := by decide +kernel
theorem dX6_keep_33 : decode cX6_keep 33 = .ok (.arraylength, 1) := by decide +kernel
theorem dX6_keep_34 : decode cX6_keep 34 = .ok (.if_icmp .ge 15, 3) := by decide +kernel
theorem dX6_keep_37 : decode cX6_keep 37 = .ok (.aload_n 0, 1) := by decide +kernel
theorem dX6_keep_38 : decode cX6_keep 38 = .ok (.getfield 18, 3) := by decide +kernel
theorem dX6_keep_41 : decode cX6_keep 41 = .ok (.iload_n 3, 1) := by decide +kernel
theorem dX6_keep_42 : decode cX6_keep 42 = .ok (.dup2, 1) := by decide +kernel
theorem dX6_keep_43 : decode cX6_keep 43 = .ok (.iaload, 1) := by decide +kernel
theorem dX6_keep_44 : decode cX6_keep 44 = .ok (.iconst 1, 1) := by decide +kernel
theorem dX6_keep_45 : decode cX6_keep 45 = .ok (.iload_n 2, 1) := by decide +kernel
