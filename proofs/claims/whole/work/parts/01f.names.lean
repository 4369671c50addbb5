theorem dX8_init_180 : decode cX8_init 180 = .ok (.return_, 1) := by decide +kernel
theorem dX8_within_0 : decode cX8_within 0 = .ok (.iload_n 0, 1) := by decide +kernel
theorem dX8_within_1 : decode cX8_within 1 = .ok (.iload_n 1, 1) := by decide +kernel
theorem dX8_within_2 : decode cX8_within 2 = .ok (.if_icmp .lt 12, 3) := by decide +kernel
theorem dX8_within_5 : decode cX8_within 5 = .ok (.iload_n 0, 1) := by decide +kernel
theorem dX8_within_6 : decode cX8_within 6 = .ok (.iload_n 2, 1) := by decide +kernel
theorem dX8_within_7 : decode cX8_within 7 = .ok (.if_icmp .gt 7, 3) := by decide +kernel
theorem dX8_within_10 : decode cX8_within 10 = .ok (.iconst 1, 1) := by decide +kernel
theorem dX8_within_11 : decode cX8_within 11 = .ok (.goto 4, 3) := by decide +kernel
theorem dX8_within_14 : decode cX8_within 14 = .ok (.iconst 0, 1) := by decide +kernel
theorem dX8_within_15 : decode cX8_within 15 = .ok (.ireturn, 1) := by decide +kernel
set_option maxRecDepth 20000 in
theorem ggX8_letter_X8_within : GoodIn wsX8_letter wsX8_within := goodIn_r _ [6] (by decide +kernel) (by decide +kernel)
set_option maxRecDepth 20000 in
theorem gX8_letter_X8_within : GoodIn wsX8_letter (va_wsS RX8 77 yX8_within wsX8_within) := goodIn_app (goodIn_of _ (by decide +kernel)) ggX8_letter_X8_within
theorem dX8_letter_0 : decode cX8_letter 0 = .ok (.iload_n 1, 1) := by decide +kernel
theorem dX8_letter_1 : decode cX8_letter 1 = .ok (.bipush 32, 2) := by decide +kernel
theorem dX8_letter_3 : decode cX8_letter 3 = .ok (.bipush 126, 2) := by decide +kernel
theorem dX8_letter_5 : decode cX8_letter 5 = .ok (.invokestatic 77, 3) := by decide +kernel
theorem dX8_letter_8 : decode cX8_letter 8 = .ok (.ifCond .ne 6, 3) := by decide +kernel
theorem dX8_letter_11 : decode cX8_letter 11 = .ok (.bipush (-102), 2) := by decide +kernel
theorem dX8_letter_13 : decode cX8_letter 13 = .ok (.ireturn, 1) := by decide +kernel
theorem dX8_letter_14 : decode cX8_letter 14 = .ok (.aload_n 0, 1) := by decide +kernel
theorem dX8_letter_15 : decode cX8_letter 15 = .ok (.getfield 81, 3) := by decide +kernel
theorem dX8_letter_18 : decode cX8_letter 18 = .ok (.bipush 24, 2) := by decide +kernel
theorem dX8_letter_20 : decode cX8_letter 20 = .ok (.if_icmp .ne 6, 3) := by decide +kernel
theorem dX8_letter_23 : decode cX8_letter 23 = .ok (.bipush (-104), 2) := by decide +kernel
theorem dX8_letter_25 : decode cX8_letter 25 = .ok (.ireturn, 1) := by decide +kernel
theorem dX8_letter_26 : decode cX8_letter 26 = .ok (.aload_n 0, 1) := by decide +kernel
theorem dX8_letter_27 : decode cX8_letter 27 = .ok (.getfield 46, 3) := by decide +kernel
theorem dX8_letter_30 : decode cX8_letter 30 = .ok (.aload_n 0, 1) := by decide +kernel
theorem dX8_letter_31 : decode cX8_letter 31 = .ok (.getfield 81, 3) := by decide +kernel
theorem dX8_letter_34 : decode cX8_letter 34 = .ok (.iload_n 1, 1) := by decide +kernel
theorem dX8_letter_35 : decode cX8_letter 35 = .ok (.i2b, 1) := by decide +kernel
theorem dX8_letter_36 : decode cX8_letter 36 = .ok (.bastore, 1) := by decide +kernel
theorem dX8_letter_37 : decode cX8_letter 37 = .ok (.aload_n 0, 1) := by decide +kernel
theorem dX8_letter_38 : decode cX8_letter 38 = .ok (.dup, 1) := by decide +kernel
theorem dX8_letter_39 : decode cX8_letter 39 = .ok (.getfield 81, 3) := by decide +kernel
theorem dX8_letter_42 : decode cX8_letter 42 = .ok (.iconst 1, 1) := by decide +kernel
theorem dX8_letter_43 : decode cX8_letter 43 = .ok (.iadd, 1) := by decide +kernel
theorem dX8_letter_44 : decode cX8_letter 44 = .ok (.putfield 81, 3) := by decide +kernel
theorem dX8_letter_47 : decode cX8_letter 47 = .ok (.aload_n 0, 1) := by decide +kernel
theorem dX8_letter_48 : decode cX8_letter 48 = .ok (.getfield 81, 3) := by decide +kernel
theorem dX8_letter_51 : decode cX8_letter 51 = .ok (.ireturn, 1) := by decide +kernel
theorem dX8_blank_0 : decode cX8_blank 0 = .ok (.aload_n 0, 1) := by decide +kernel
theorem dX8_blank_1 : decode cX8_blank 1 = .ok (.getfield 81, 3) := by decide +kernel
theorem dX8_blank_4 : decode cX8_blank 4 = .ok (.istore_n 1, 1) := by decide +kernel
theorem dX8_blank_5 : decode cX8_blank 5 = .ok (.aload_n 0, 1) := by decide +kernel
theorem dX8_blank_6 : decode cX8_blank 6 = .ok (.iconst 0, 1) := by decide +kernel
theorem dX8_blank_7 : decode cX8_blank 7 = .ok (.putfield 81, 3) := by decide +kernel
theorem dX8_blank_10 : decode cX8_blank 10 = .ok (.iload_n 1, 1) := by decide +kernel
theorem dX8_blank_11 : decode cX8_blank 11 = .ok (.ireturn, 1) := by decide +kernel
set_option maxRecDepth 20000 in
theorem ggX8_isFigure_X8_within : GoodIn wsX8_isFigure wsX8_within := goodIn_r _ [6] (by decide +kernel) (by decide +kernel)
set_option maxRecDepth 20000 in
theorem gX8_isFigure_X8_within : GoodIn wsX8_isFigure (va_wsS RX8 77 yX8_within wsX8_within) := goodIn_app (goodIn_of _ (by decide +kernel)) ggX8_isFigure_X8_within
theorem dX8_isFigure_0 : decode cX8_isFigure 0 = .ok (.iload_n 1, 1) := by decide +kernel
theorem dX8_isFigure_1 : decode cX8_isFigure 1 = .ok (.aload_n 0, 1) := by decide +kernel
theorem dX8_isFigure_2 : decode cX8_isFigure 2 = .ok (.getfield 81, 3) := by decide +kernel
theorem dX8_isFigure_5 : decode cX8_isFigure 5 = .ok (.if_icmp .ge 24, 3) := by decide +kernel
theorem dX8_isFigure_8 : decode cX8_isFigure 8 = .ok (.aload_n 0, 1) := by decide +kernel
theorem dX8_isFigure_9 : decode cX8_isFigure 9 = .ok (.getfield 46, 3) := by decide +kernel
theorem dX8_isFigure_12 : decode cX8_isFigure 12 = .ok (.iload_n 1, 1) := by decide +kernel
theorem dX8_isFigure_13 : decode cX8_isFigure 13 = .ok (.baload, 1) := by decide +kernel
theorem dX8_isFigure_14 : decode cX8_isFigure 14 = .ok (.bipush 48, 2) := by decide +kernel
theorem dX8_isFigure_16 : decode cX8_isFigure 16 = .ok (.isub, 1) := by decide +kernel
theorem dX8_isFigure_17 : decode cX8_isFigure 17 = .ok (.iload_n 2, 1) := by decide +kernel
theorem dX8_isFigure_18 : decode cX8_isFigure 18 = .ok (.iload_n 3, 1) := by decide +kernel
theorem dX8_isFigure_19 : decode cX8_isFigure 19 = .ok (.invokestatic 77, 3) := by decide +kernel
theorem dX8_isFigure_22 : decode cX8_isFigure 22 = .ok (.ifCond .eq 7, 3) := by decide +kernel
theorem dX8_isFigure_25 : decode cX8_isFigure 25 = .ok (.iconst 1, 1) := by decide +kernel
theorem dX8_isFigure_26 : decode cX8_isFigure 26 = .ok (.goto 4, 3) := by decide +kernel
theorem dX8_isFigure_29 : decode cX8_isFigure 29 = .ok (.iconst 0, 1) := by decide +kernel
theorem dX8_isFigure_30 : decode cX8_isFigure 30 = .ok (.ireturn, 1) := by decide +kernel
theorem dX8_isSign_0 : decode cX8_isSign 0 = .ok (.iload_n 1, 1) := by decide +kernel
theorem dX8_isSign_1 : decode cX8_isSign 1 = .ok (.aload_n 0, 1) := by decide +kernel
theorem dX8_isSign_2 : decode cX8_isSign 2 = .ok (.getfield 81, 3) := by decide +kernel
theorem dX8_isSign_5 : decode cX8_isSign 5 = .ok (.if_icmp .ge 17, 3) := by decide +kernel
theorem dX8_isSign_8 : decode cX8_isSign 8 = .ok (.aload_n 0, 1) := by decide +kernel
theorem dX8_isSign_9 : decode cX8_isSign 9 = .ok (.getfield 46, 3) := by decide +kernel
theorem dX8_isSign_12 : decode cX8_isSign 12 = .ok (.iload_n 1, 1) := by decide +kernel
theorem dX8_isSign_13 : decode cX8_isSign 13 = .ok (.baload, 1) := by decide +kernel
theorem dX8_isSign_14 : decode cX8_isSign 14 = .ok (.iload_n 2, 1) := by decide +kernel
theorem dX8_isSign_15 : decode cX8_isSign 15 = .ok (.if_icmp .ne 7, 3) := by decide +kernel
theorem dX8_isSign_18 : decode cX8_isSign 18 = .ok (.iconst 1, 1) := by decide +kernel
theorem dX8_isSign_19 : decode cX8_isSign 19 = .ok (.goto 4, 3) := by decide +kernel
theorem dX8_isSign_22 : decode cX8_isSign 22 = .ok (.iconst 0, 1) := by decide +kernel
theorem dX8_isSign_23 : decode cX8_isSign 23 = .ok (.ireturn, 1) := by decide +kernel
set_option maxRecDepth 20000 in
theorem ggX8_read_X8_isFigure : GoodIn wsX8_read wsX8_isFigure := goodIn_r _ [8, 9, 10, 11, 12, 7, 13, 22, 23, 24, 25, 26, 27, 28, 29, 30, 31, 32, 33, 34, 35, 36, 37, 38, 39, 40, 41, 42, 43, 44, 45, 46, 47, 48, 49, 50, 51, 52, 53, 54, 55, 56, 57, 58, 59, 60, 61, 62, 63] (by decide +kernel) (by decide +kernel)
set_option maxRecDepth 20000 in
theorem gX8_read_X8_isFigure : GoodIn wsX8_read (wsV RX8 95 RX8 yX8_isFigure wsX8_isFigure) := goodIn_app (goodIn_of _ (by decide +kernel)) ggX8_read_X8_isFigure
set_option maxRecDepth 20000 in
theorem ggX8_read_X8_isSign : GoodIn wsX8_read wsX8_isSign := goodIn_r _ [17, 9, 10, 22, 23, 24, 25, 26, 27, 28, 29, 30, 31, 32, 33, 34, 35, 36, 37, 38, 39, 40, 41, 42, 43, 44, 45, 46, 47, 48, 49, 50, 51, 52, 53, 54, 55, 56, 57, 58, 59, 60, 61, 62, 63] (by decide +kernel) (by decide +kernel)
set_option maxRecDepth 20000 in
theorem gX8_read_X8_isSign : GoodIn wsX8_read (wsV RX8 98 RX8 yX8_isSign wsX8_isSign) := goodIn_app (goodIn_of _ (by decide +kernel)) ggX8_read_X8_isSign
set_option maxRecDepth 20000 in
theorem ggX8_read_X8_readOften : GoodIn wsX8_read wsX8_readOften := goodIn_r _ [21, 1, 3, 9, 2, 4, 5, 6, 7, 8, 10, 11, 12, 13, 22, 23, 24, 25, 26, 27, 28, 29, 30, 31, 32, 33, 34, 35, 36, 37, 38, 39, 40, 41, 42, 43, 44, 45, 46, 47, 48, 49, 50, 51, 52, 53, 54, 55, 56, 57, 58, 59, 60, 61, 62, 63] (by decide +kernel) (by decide +kernel)
set_option maxRecDepth 20000 in
theorem gX8_read_X8_readOften : GoodIn wsX8_read (wsV RX8 102 RX8 yX8_readOften wsX8_readOften) := goodIn_app (goodIn_of _ (by decide +kernel)) ggX8_read_X8_readOften
theorem dX8_read_0 : decode cX8_read 0 = .ok (.iconst 0, 1) := by decide +kernel
theorem dX8_read_1 : decode cX8_read 1 = .ok (.istore_n 1, 1) := by decide +kernel
theorem dX8_read_2 : decode cX8_read 2 = .ok (.aload_n 0, 1) := by decide +kernel
theorem dX8_read_3 : decode cX8_read 3 = .ok (.iconst 0, 1) := by decide +kernel
theorem dX8_read_4 : decode cX8_read 4 = .ok (.putfield 85, 3) := by decide +kernel
theorem dX8_read_7 : decode cX8_read 7 = .ok (.aload_n 0, 1) := by decide +kernel
theorem dX8_read_8 : decode cX8_read 8 = .ok (.iconst 0, 1) := by decide +kernel
theorem dX8_read_9 : decode cX8_read 9 = .ok (.putfield 88, 3) := by decide +kernel
theorem dX8_read_12 : decode cX8_read 12 = .ok (.iconst 1, 1) := by decide +kernel
theorem dX8_read_13 : decode cX8_read 13 = .ok (.istore_n 2, 1) := by decide +kernel
theorem dX8_read_14 : decode cX8_read 14 = .ok (.iload_n 2, 1) := by decide +kernel
theorem dX8_read_15 : decode cX8_read 15 = .ok (.ifCond .eq 122, 3) := by decide +kernel
theorem dX8_read_18 : decode cX8_read 18 = .ok (.aload_n 0, 1) := by decide +kernel
theorem dX8_read_19 : decode cX8_read 19 = .ok (.iload_n 1, 1) := by decide +kernel
theorem dX8_read_20 : decode cX8_read 20 = .ok (.putfield 92, 3) := by decide +kernel
theorem dX8_read_23 : decode cX8_read 23 = .ok (.aload_n 0, 1) := by decide +kernel
theorem dX8_read_24 : decode cX8_read 24 = .ok (.iload_n 1, 1) := by decide +kernel
theorem dX8_read_25 : decode cX8_read 25 = .ok (.iconst 1, 1) := by decide +kernel
theorem dX8_read_26 : decode cX8_read 26 = .ok (.bipush 8, 2) := by decide +kernel
theorem dX8_read_28 : decode cX8_read 28 = .ok (.invokevirtual 95, 3) := by decide +kernel
theorem dX8_read_31 : decode cX8_read 31 = .ok (.istore_n 2, 1) := by decide +kernel
theorem dX8_read_32 : decode cX8_read 32 = .ok (.iload_n 2, 1) := by decide +kernel
theorem dX8_read_33 : decode cX8_read 33 = .ok (.ifCond .eq 21, 3) := by decide +kernel
theorem dX8_read_36 : decode cX8_read 36 = .ok (.aload_n 0, 1) := by decide +kernel
theorem dX8_read_37 : decode cX8_read 37 = .ok (.iload_n 1, 1) := by decide +kernel
theorem dX8_read_38 : decode cX8_read 38 = .ok (.iconst 1, 1) := by decide +kernel
theorem dX8_read_39 : decode cX8_read 39 = .ok (.iadd, 1) := by decide +kernel
theorem dX8_read_40 : decode cX8_read 40 = .ok (.putfield 92, 3) := by decide +kernel
theorem dX8_read_43 : decode cX8_read 43 = .ok (.aload_n 0, 1) := by decide +kernel
theorem dX8_read_44 : decode cX8_read 44 = .ok (.iload_n 1, 1) := by decide +kernel
theorem dX8_read_45 : decode cX8_read 45 = .ok (.iconst 1, 1) := by decide +kernel
theorem dX8_read_46 : decode cX8_read 46 = .ok (.iadd, 1) := by decide +kernel
theorem dX8_read_47 : decode cX8_read 47 = .ok (.iconst 1, 1) := by decide +kernel
theorem dX8_read_48 : decode cX8_read 48 = .ok (.bipush 9, 2) := by decide +kernel
theorem dX8_read_50 : decode cX8_read 50 = .ok (.invokevirtual 95, 3) := by decide +kernel
theorem dX8_read_53 : decode cX8_read 53 = .ok (.istore_n 2, 1) := by decide +kernel
theorem dX8_read_54 : decode cX8_read 54 = .ok (.iload_n 2, 1) := by decide +kernel
theorem dX8_read_55 : decode cX8_read 55 = .ok (.ifCond .eq (-41), 3) := by decide +kernel
theorem dX8_read_58 : decode cX8_read 58 = .ok (.iinc 1 2, 3) := by decide +kernel
theorem dX8_read_61 : decode cX8_read 61 = .ok (.aload_n 0, 1) := by decide +kernel
theorem dX8_read_62 : decode cX8_read 62 = .ok (.dup, 1) := by decide +kernel
theorem dX8_read_63 : decode cX8_read 63 = .ok (.getfield 85, 3) := by decide +kernel
theorem dX8_read_66 : decode cX8_read 66 = .ok (.iconst 1, 1) := by decide +kernel
theorem dX8_read_67 : decode cX8_read 67 = .ok (.iadd, 1) := by decide +kernel
theorem dX8_read_68 : decode cX8_read 68 = .ok (.putfield 85, 3) := by decide +kernel
theorem dX8_read_71 : decode cX8_read 71 = .ok (.aload_n 0, 1) := by decide +kernel
theorem dX8_read_72 : decode cX8_read 72 = .ok (.iload_n 1, 1) := by decide +kernel
theorem dX8_read_73 : decode cX8_read 73 = .ok (.putfield 92, 3) := by decide +kernel
theorem dX8_read_76 : decode cX8_read 76 = .ok (.aload_n 0, 1) := by decide +kernel
theorem dX8_read_77 : decode cX8_read 77 = .ok (.getfield 85, 3) := by decide +kernel
theorem dX8_read_80 : decode cX8_read 80 = .ok (.iconst 2, 1) := by decide +kernel
theorem dX8_read_81 : decode cX8_read 81 = .ok (.if_icmp .le 25, 3) := by decide +kernel
theorem dX8_read_84 : decode cX8_read 84 = .ok (.aload_n 0, 1) := by decide +kernel
theorem dX8_read_85 : decode cX8_read 85 = .ok (.iload_n 1, 1) := by decide +kernel
theorem dX8_read_86 : decode cX8_read 86 = .ok (.bipush 59, 2) := by decide +kernel
theorem dX8_read_88 : decode cX8_read 88 = .ok (.invokevirtual 98, 3) := by decide +kernel
theorem dX8_read_91 : decode cX8_read 91 = .ok (.ifCond .eq 15, 3) := by decide +kernel
theorem dX8_read_94 : decode cX8_read 94 = .ok (.aload_n 0, 1) := by decide +kernel
theorem dX8_read_95 : decode cX8_read 95 = .ok (.iload_n 1, 1) := by decide +kernel
theorem dX8_read_96 : decode cX8_read 96 = .ok (.iconst 1, 1) := by decide +kernel
theorem dX8_read_97 : decode cX8_read 97 = .ok (.iadd, 1) := by decide +kernel
theorem dX8_read_98 : decode cX8_read 98 = .ok (.invokevirtual 102, 3) := by decide +kernel
theorem dX8_read_101 : decode cX8_read 101 = .ok (.iconst 0, 1) := by decide +kernel
theorem dX8_read_102 : decode cX8_read 102 = .ok (.istore_n 2, 1) := by decide +kernel
theorem dX8_read_103 : decode cX8_read 103 = .ok (.goto (-89), 3) := by decide +kernel
theorem dX8_read_106 : decode cX8_read 106 = .ok (.aload_n 0, 1) := by decide +kernel
theorem dX8_read_107 : decode cX8_read 107 = .ok (.getfield 85, 3) := by decide +kernel
theorem dX8_read_110 : decode cX8_read 110 = .ok (.bipush 6, 2) := by decide +kernel
theorem dX8_read_112 : decode cX8_read 112 = .ok (.if_icmp .ge 17, 3) := by decide +kernel
theorem dX8_read_115 : decode cX8_read 115 = .ok (.aload_n 0, 1) := by decide +kernel
theorem dX8_read_116 : decode cX8_read 116 = .ok (.iload_n 1, 1) := by decide +kernel
theorem dX8_read_117 : decode cX8_read 117 = .ok (.bipush 44, 2) := by decide +kernel
theorem dX8_read_119 : decode cX8_read 119 = .ok (.invokevirtual 98, 3) := by decide +kernel
theorem dX8_read_122 : decode cX8_read 122 = .ok (.ifCond .eq 7, 3) := by decide +kernel
theorem dX8_read_125 : decode cX8_read 125 = .ok (.iconst 1, 1) := by decide +kernel
theorem dX8_read_126 : decode cX8_read 126 = .ok (.goto 4, 3) := by decide +kernel
theorem dX8_read_129 : decode cX8_read 129 = .ok (.iconst 0, 1) := by decide +kernel
theorem dX8_read_130 : decode cX8_read 130 = .ok (.istore_n 2, 1) := by decide +kernel
theorem dX8_read_131 : decode cX8_read 131 = .ok (.iinc 1 1, 3) := by decide +kernel
theorem dX8_read_134 : decode cX8_read 134 = .ok (.goto (-120), 3) := by decide +kernel
theorem dX8_read_137 : decode cX8_read 137 = .ok (.return_, 1) := by decide +kernel
set_option maxRecDepth 20000 in
theorem ggX8_readOften_X8_isFigure : GoodIn wsX8_readOften wsX8_isFigure := goodIn_r _ [9, 3, 10, 11, 12, 8, 13, 14, 15, 16, 17, 18, 19, 20, 21, 22, 23, 24, 25, 26, 27, 28, 29, 30, 31, 32, 33, 34, 35, 36, 37, 38, 39, 40, 41, 42, 43, 44, 45, 46, 47, 48, 49, 50, 51, 52, 53, 54, 55] (by decide +kernel) (by decide +kernel)
set_option maxRecDepth 20000 in
theorem gX8_readOften_X8_isFigure : GoodIn wsX8_readOften (wsV RX8 95 RX8 yX8_isFigure wsX8_isFigure) := goodIn_app (goodIn_of _ (by decide +kernel)) ggX8_readOften_X8_isFigure
theorem dX8_readOften_0 : decode cX8_readOften 0 = .ok (.iload_n 1, 1) := by decide +kernel
theorem dX8_readOften_1 : decode cX8_readOften 1 = .ok (.istore_n 2, 1) := by decide +kernel
theorem dX8_readOften_2 : decode cX8_readOften 2 = .ok (.iload_n 2, 1) := by decide +kernel
theorem dX8_readOften_3 : decode cX8_readOften 3 = .ok (.iload_n 1, 1) := by decide +kernel
theorem dX8_readOften_4 : decode cX8_readOften 4 = .ok (.aload_n 0, 1) := by decide +kernel
theorem dX8_readOften_5 : decode cX8_readOften 5 = .ok (.getfield 85, 3) := by decide +kernel
theorem dX8_readOften_8 : decode cX8_readOften 8 = .ok (.iadd, 1) := by decide +kernel
theorem dX8_readOften_9 : decode cX8_readOften 9 = .ok (.if_icmp .ge 20, 3) := by decide +kernel
theorem dX8_readOften_12 : decode cX8_readOften 12 = .ok (.aload_n 0, 1) := by decide +kernel
theorem dX8_readOften_13 : decode cX8_readOften 13 = .ok (.iload_n 2, 1) := by decide +kernel
theorem dX8_readOften_14 : decode cX8_readOften 14 = .ok (.iconst 0, 1) := by decide +kernel
theorem dX8_readOften_15 : decode cX8_readOften 15 = .ok (.bipush 9, 2) := by decide +kernel
theorem dX8_readOften_17 : decode cX8_readOften 17 = .ok (.invokevirtual 95, 3) := by decide +kernel
theorem dX8_readOften_20 : decode cX8_readOften 20 = .ok (.ifCond .eq 9, 3) := by decide +kernel
theorem dX8_readOften_23 : decode cX8_readOften 23 = .ok (.iinc 2 1, 3) := by decide +kernel
theorem dX8_readOften_26 : decode cX8_readOften 26 = .ok (.goto (-24), 3) := by decide +kernel
theorem dX8_readOften_29 : decode cX8_readOften 29 = .ok (.aload_n 0, 1) := by decide +kernel
theorem dX8_readOften_30 : decode cX8_readOften 30 = .ok (.iload_n 2, 1) := by decide +kernel
theorem dX8_readOften_31 : decode cX8_readOften 31 = .ok (.putfield 92, 3) := by decide +kernel
theorem dX8_readOften_34 : decode cX8_readOften 34 = .ok (.aload_n 0, 1) := by decide +kernel
theorem dX8_readOften_35 : decode cX8_readOften 35 = .ok (.iload_n 2, 1) := by decide +kernel
theorem dX8_readOften_36 : decode cX8_readOften 36 = .ok (.iload_n 1, 1) := by decide +kernel
theorem dX8_readOften_37 : decode cX8_readOften 37 = .ok (.aload_n 0, 1) := by decide +kernel
theorem dX8_readOften_38 : decode cX8_readOften 38 = .ok (.getfield 85, 3) := by decide +kernel
theorem dX8_readOften_41 : decode cX8_readOften 41 = .ok (.iadd, 1) := by decide +kernel
theorem dX8_readOften_42 : decode cX8_readOften 42 = .ok (.if_icmp .ne 15, 3) := by decide +kernel
theorem dX8_readOften_45 : decode cX8_readOften 45 = .ok (.iload_n 2, 1) := by decide +kernel
theorem dX8_readOften_46 : decode cX8_readOften 46 = .ok (.aload_n 0, 1) := by decide +kernel
theorem dX8_readOften_47 : decode cX8_readOften 47 = .ok (.getfield 81, 3) := by decide +kernel
theorem dX8_readOften_50 : decode cX8_readOften 50 = .ok (.if_icmp .ne 7, 3) := by decide +kernel
theorem dX8_readOften_53 : decode cX8_readOften 53 = .ok (.iconst 1, 1) := by decide +kernel
theorem dX8_readOften_54 : decode cX8_readOften 54 = .ok (.goto 4, 3) := by decide +kernel
theorem dX8_readOften_57 : decode cX8_readOften 57 = .ok (.iconst 0, 1) := by decide +kernel
theorem dX8_readOften_58 : decode cX8_readOften 58 = .ok (.putfield 88, 3) := by decide +kernel
theorem dX8_readOften_61 : decode cX8_readOften 61 = .ok (.return_, 1) := by decide +kernel
set_option maxRecDepth 20000 in
theorem ggX8_fault_X8_read : GoodIn wsX8_fault wsX8_read := goodIn_r _ [6, 7, 8, 1, 9, 10, 11, 5, 12, 13, 14, 15, 16, 17, 18, 19, 20, 21, 22, 23, 24, 25, 26, 27, 28, 29, 30, 31, 32, 33, 34, 35, 36, 37, 38, 39, 40, 41, 42, 43, 44, 45, 46, 47, 48, 49, 50, 51, 52, 53, 54, 55, 56, 57, 58, 59, 60, 61, 62, 63, 64, 65, 66, 67] (by decide +kernel) (by decide +kernel)
set_option maxRecDepth 20000 in
theorem gX8_fault_X8_read : GoodIn wsX8_fault (wsV RX8 106 RX8 yX8_read wsX8_read) := goodIn_app (goodIn_of _ (by decide +kernel)) ggX8_fault_X8_read
theorem dX8_fault_0 : decode cX8_fault 0 = .ok (.aload_n 0, 1) := by decide +kernel
theorem dX8_fault_1 : decode cX8_fault 1 = .ok (.invokevirtual 106, 3) := by decide +kernel
theorem dX8_fault_4 : decode cX8_fault 4 = .ok (.aload_n 0, 1) := by decide +kernel
theorem dX8_fault_5 : decode cX8_fault 5 = .ok (.getfield 92, 3) := by decide +kernel
theorem dX8_fault_8 : decode cX8_fault 8 = .ok (.ireturn, 1) := by decide +kernel
set_option maxRecDepth 20000 in
theorem ggX8_floor_X8_read : GoodIn wsX8_floor wsX8_read := goodIn_r _ [19, 2, 1, 20, 21, 22, 23, 18, 24, 14, 5, 25, 26, 27, 28, 29, 30, 31, 32, 33, 34, 35, 44, 45, 46, 47, 48, 49, 50, 51, 52, 53, 54, 55, 56, 57, 58, 59, 60, 61, 62, 63, 64, 65, 66, 67, 68, 69, 70, 71, 72, 73, 74, 75, 76, 77, 78, 79, 80, 81, 82, 83, 84, 85] (by decide +kernel) (by decide +kernel)
set_option maxRecDepth 20000 in
theorem gX8_floor_X8_read : GoodIn wsX8_floor (wsV RX8 106 RX8 yX8_read wsX8_read) := goodIn_app (goodIn_of _ (by decide +kernel)) ggX8_floor_X8_read
set_option maxRecDepth 20000 in
theorem ggX8_floor_X8_empty : GoodIn wsX8_floor wsX8_empty := goodIn_r _ [39, 40, 41, 42, 43, 44, 45, 46, 47, 48, 49, 50, 51, 52, 53, 54, 55, 56, 57, 58, 59, 60, 61, 62, 63, 64, 65, 66, 67, 68, 69, 70, 71, 72, 73, 74, 75, 76, 77, 78, 79, 80, 81, 82, 83, 84, 85] (by decide +kernel) (by decide +kernel)
set_option maxRecDepth 20000 in
theorem gX8_floor_X8_empty : GoodIn wsX8_floor (wsV RX8 112 RX8 yX8_empty wsX8_empty) := goodIn_app (goodIn_of _ (by decide +kernel)) ggX8_floor_X8_empty
theorem dX8_floor_0 : decode cX8_floor 0 = .ok (.aload_n 0, 1) := by decide +kernel
theorem dX8_floor_1 : decode cX8_floor 1 = .ok (.invokevirtual 106, 3) := by decide +kernel
theorem dX8_floor_4 : decode cX8_floor 4 = .ok (.aload_n 0, 1) := by decide +kernel
theorem dX8_floor_5 : decode cX8_floor 5 = .ok (.getfield 88, 3) := by decide +kernel
theorem dX8_floor_8 : decode cX8_floor 8 = .ok (.ifCond .ne 6, 3) := by decide +kernel
theorem dX8_floor_11 : decode cX8_floor 11 = .ok (.bipush (-103), 2) := by decide +kernel
theorem dX8_floor_13 : decode cX8_floor 13 = .ok (.ireturn, 1) := by decide +kernel
theorem dX8_floor_14 : decode cX8_floor 14 = .ok (.aload_n 0, 1) := by decide +kernel
theorem dX8_floor_15 : decode cX8_floor 15 = .ok (.aload_n 0, 1) := by decide +kernel
theorem dX8_floor_16 : decode cX8_floor 16 = .ok (.getfield 85, 3) := by decide +kernel
theorem dX8_floor_19 : decode cX8_floor 19 = .ok (.putfield 109, 3) := by decide +kernel
theorem dX8_floor_22 : decode cX8_floor 22 = .ok (.iconst 0, 1) := by decide +kernel
theorem dX8_floor_23 : decode cX8_floor 23 = .ok (.istore_n 1, 1) := by decide +kernel
theorem dX8_floor_24 : decode cX8_floor 24 = .ok (.iload_n 1, 1) := by decide +kernel
theorem dX8_floor_25 : decode cX8_floor 25 = .ok (.aload_n 0, 1) := by decide +kernel
theorem dX8_floor_26 : decode cX8_floor 26 = .ok (.getfield 109, 3) := by decide +kernel
theorem dX8_floor_29 : decode cX8_floor 29 = .ok (.if_icmp .ge 79, 3) := by decide +kernel
theorem dX8_floor_32 : decode cX8_floor 32 = .ok (.aload_n 0, 1) := by decide +kernel
theorem dX8_floor_33 : decode cX8_floor 33 = .ok (.getfield 7, 3) := by decide +kernel
theorem dX8_floor_36 : decode cX8_floor 36 = .ok (.iload_n 1, 1) := by decide +kernel
theorem dX8_floor_37 : decode cX8_floor 37 = .ok (.aload_n 0, 1) := by decide +kernel
theorem dX8_floor_38 : decode cX8_floor 38 = .ok (.getfield 46, 3) := by decide +kernel
theorem dX8_floor_41 : decode cX8_floor 41 = .ok (.iconst 3, 1) := by decide +kernel
theorem dX8_floor_42 : decode cX8_floor 42 = .ok (.iload_n 1, 1) := by decide +kernel
theorem dX8_floor_43 : decode cX8_floor 43 = .ok (.imul, 1) := by decide +kernel
theorem dX8_floor_44 : decode cX8_floor 44 = .ok (.baload, 1) := by decide +kernel
theorem dX8_floor_45 : decode cX8_floor 45 = .ok (.bipush 48, 2) := by decide +kernel
theorem dX8_floor_47 : decode cX8_floor 47 = .ok (.isub, 1) := by decide +kernel
theorem dX8_floor_48 : decode cX8_floor 48 = .ok (.iastore, 1) := by decide +kernel
theorem dX8_floor_49 : decode cX8_floor 49 = .ok (.aload_n 0, 1) := by decide +kernel
theorem dX8_floor_50 : decode cX8_floor 50 = .ok (.getfield 13, 3) := by decide +kernel
theorem dX8_floor_53 : decode cX8_floor 53 = .ok (.iload_n 1, 1) := by decide +kernel
theorem dX8_floor_54 : decode cX8_floor 54 = .ok (.aload_n 0, 1) := by decide +kernel
theorem dX8_floor_55 : decode cX8_floor 55 = .ok (.getfield 46, 3) := by decide +kernel
theorem dX8_floor_58 : decode cX8_floor 58 = .ok (.iconst 3, 1) := by decide +kernel
theorem dX8_floor_59 : decode cX8_floor 59 = .ok (.iload_n 1, 1) := by decide +kernel
theorem dX8_floor_60 : decode cX8_floor 60 = .ok (.imul, 1) := by decide +kernel
theorem dX8_floor_61 : decode cX8_floor 61 = .ok (.iconst 1, 1) := by decide +kernel
theorem dX8_floor_62 : decode cX8_floor 62 = .ok (.iadd, 1) := by decide +kernel
theorem dX8_floor_63 : decode cX8_floor 63 = .ok (.baload, 1) := by decide +kernel
theorem dX8_floor_64 : decode cX8_floor 64 = .ok (.bipush 48, 2) := by decide +kernel
theorem dX8_floor_66 : decode cX8_floor 66 = .ok (.isub, 1) := by decide +kernel
theorem dX8_floor_67 : decode cX8_floor 67 = .ok (.iastore, 1) := by decide +kernel
theorem dX8_floor_68 : decode cX8_floor 68 = .ok (.aload_n 0, 1) := by decide +kernel
theorem dX8_floor_69 : decode cX8_floor 69 = .ok (.getfield 16, 3) := by decide +kernel
theorem dX8_floor_72 : decode cX8_floor 72 = .ok (.iload_n 1, 1) := by decide +kernel
theorem dX8_floor_73 : decode cX8_floor 73 = .ok (.aload_n 0, 1) := by decide +kernel
theorem dX8_floor_74 : decode cX8_floor 74 = .ok (.getfield 46, 3) := by decide +kernel
theorem dX8_floor_77 : decode cX8_floor 77 = .ok (.iconst 3, 1) := by decide +kernel
theorem dX8_floor_78 : decode cX8_floor 78 = .ok (.aload_n 0, 1) := by decide +kernel
theorem dX8_floor_79 : decode cX8_floor 79 = .ok (.getfield 109, 3) := by decide +kernel
theorem dX8_floor_82 : decode cX8_floor 82 = .ok (.imul, 1) := by decide +kernel
theorem dX8_floor_83 : decode cX8_floor 83 = .ok (.iload_n 1, 1) := by decide +kernel
theorem dX8_floor_84 : decode cX8_floor 84 = .ok (.iadd, 1) := by decide +kernel
theorem dX8_floor_85 : decode cX8_floor 85 = .ok (.baload, 1) := by decide +kernel
theorem dX8_floor_86 : decode cX8_floor 86 = .ok (.bipush 48, 2) := by decide +kernel
theorem dX8_floor_88 : decode cX8_floor 88 = .ok (.isub, 1) := by decide +kernel
theorem dX8_floor_89 : decode cX8_floor 89 = .ok (.iastore, 1) := by decide +kernel
theorem dX8_floor_90 : decode cX8_floor 90 = .ok (.aload_n 0, 1) := by decide +kernel
theorem dX8_floor_91 : decode cX8_floor 91 = .ok (.getfield 19, 3) := by decide +kernel
theorem dX8_floor_94 : decode cX8_floor 94 = .ok (.iload_n 1, 1) := by decide +kernel
theorem dX8_floor_95 : decode cX8_floor 95 = .ok (.iload_n 1, 1) := by decide +kernel
theorem dX8_floor_96 : decode cX8_floor 96 = .ok (.iastore, 1) := by decide +kernel
theorem dX8_floor_97 : decode cX8_floor 97 = .ok (.aload_n 0, 1) := by decide +kernel
theorem dX8_floor_98 : decode cX8_floor 98 = .ok (.iload_n 1, 1) := by decide +kernel
theorem dX8_floor_99 : decode cX8_floor 99 = .ok (.invokevirtual 112, 3) := by decide +kernel
theorem dX8_floor_102 : decode cX8_floor 102 = .ok (.iinc 1 1, 3) := by decide +kernel
theorem dX8_floor_105 : decode cX8_floor 105 = .ok (.goto (-81), 3) := by decide +kernel
theorem dX8_floor_108 : decode cX8_floor 108 = .ok (.aload_n 0, 1) := by decide +kernel
theorem dX8_floor_109 : decode cX8_floor 109 = .ok (.dup, 1) := by decide +kernel
theorem dX8_floor_110 : decode cX8_floor 110 = .ok (.getfield 115, 3) := by decide +kernel
theorem dX8_floor_113 : decode cX8_floor 113 = .ok (.iconst 1, 1) := by decide +kernel
theorem dX8_floor_114 : decode cX8_floor 114 = .ok (.iadd, 1) := by decide +kernel
theorem dX8_floor_115 : decode cX8_floor 115 = .ok (.putfield 115, 3) := by decide +kernel
theorem dX8_floor_118 : decode cX8_floor 118 = .ok (.aload_n 0, 1) := by decide +kernel
theorem dX8_floor_119 : decode cX8_floor 119 = .ok (.iconst 0, 1) := by decide +kernel
theorem dX8_floor_120 : decode cX8_floor 120 = .ok (.putfield 118, 3) := by decide +kernel
theorem dX8_floor_123 : decode cX8_floor 123 = .ok (.aload_n 0, 1) := by decide +kernel
theorem dX8_floor_124 : decode cX8_floor 124 = .ok (.iconst 0, 1) := by decide +kernel
theorem dX8_floor_125 : decode cX8_floor 125 = .ok (.putfield 121, 3) := by decide +kernel
theorem dX8_floor_128 : decode cX8_floor 128 = .ok (.aload_n 0, 1) := by decide +kernel
theorem dX8_floor_129 : decode cX8_floor 129 = .ok (.iconst 0, 1) := by decide +kernel
theorem dX8_floor_130 : decode cX8_floor 130 = .ok (.putfield 124, 3) := by decide +kernel
theorem dX8_floor_133 : decode cX8_floor 133 = .ok (.aload_n 0, 1) := by decide +kernel
theorem dX8_floor_134 : decode cX8_floor 134 = .ok (.iconst 0, 1) := by decide +kernel
theorem dX8_floor_135 : decode cX8_floor 135 = .ok (.putfield 127, 3) := by decide +kernel
theorem dX8_floor_138 : decode cX8_floor 138 = .ok (.aload_n 0, 1) := by decide +kernel
theorem dX8_floor_139 : decode cX8_floor 139 = .ok (.iconst 0, 1) := by decide +kernel
theorem dX8_floor_140 : decode cX8_floor 140 = .ok (.putfield 81, 3) := by decide +kernel
theorem dX8_floor_143 : decode cX8_floor 143 = .ok (.aload_n 0, 1) := by decide +kernel
theorem dX8_floor_144 : decode cX8_floor 144 = .ok (.getfield 109, 3) := by decide +kernel
theorem dX8_floor_147 : decode cX8_floor 147 = .ok (.ireturn, 1) := by decide +kernel
theorem dX8_empty_0 : decode cX8_empty 0 = .ok (.aload_n 0, 1) := by decide +kernel
theorem dX8_empty_1 : decode cX8_empty 1 = .ok (.getfield 22, 3) := by decide +kernel
theorem dX8_empty_4 : decode cX8_empty 4 = .ok (.iload_n 1, 1) := by decide +kernel
theorem dX8_empty_5 : decode cX8_empty 5 = .ok (.iconst 0, 1) := by decide +kernel
theorem dX8_empty_6 : decode cX8_empty 6 = .ok (.iastore, 1) := by decide +kernel
theorem dX8_empty_7 : decode cX8_empty 7 = .ok (.aload_n 0, 1) := by decide +kernel
theorem dX8_empty_8 : decode cX8_empty 8 = .ok (.getfield 25, 3) := by decide +kernel
theorem dX8_empty_11 : decode cX8_empty 11 = .ok (.iload_n 1, 1) := by decide +kernel
theorem dX8_empty_12 : decode cX8_empty 12 = .ok (.iconst 0, 1) := by decide +kernel
theorem dX8_empty_13 : decode cX8_empty 13 = .ok (.iastore, 1) := by decide +kernel
theorem dX8_empty_14 : decode cX8_empty 14 = .ok (.aload_n 0, 1) := by decide +kernel
theorem dX8_empty_15 : decode cX8_empty 15 = .ok (.getfield 28, 3) := by decide +kernel
theorem dX8_empty_18 : decode cX8_empty 18 = .ok (.iload_n 1, 1) := by decide +kernel
theorem dX8_empty_19 : decode cX8_empty 19 = .ok (.iconst 0, 1) := by decide +kernel
theorem dX8_empty_20 : decode cX8_empty 20 = .ok (.iastore, 1) := by decide +kernel
theorem dX8_empty_21 : decode cX8_empty 21 = .ok (.aload_n 0, 1) := by decide +kernel
theorem dX8_empty_22 : decode cX8_empty 22 = .ok (.getfield 31, 3) := by decide +kernel
theorem dX8_empty_25 : decode cX8_empty 25 = .ok (.iload_n 1, 1) := by decide +kernel
theorem dX8_empty_26 : decode cX8_empty 26 = .ok (.iconst 0, 1) := by decide +kernel
theorem dX8_empty_27 : decode cX8_empty 27 = .ok (.iastore, 1) := by decide +kernel
theorem dX8_empty_28 : decode cX8_empty 28 = .ok (.return_, 1) := by decide +kernel
set_option maxRecDepth 20000 in
theorem ggX8_isHook_X8_within : GoodIn wsX8_isHook wsX8_within := goodIn_r _ [5] (by decide +kernel) (by decide +kernel)
set_option maxRecDepth 20000 in
theorem gX8_isHook_X8_within : GoodIn wsX8_isHook (va_wsS RX8 77 yX8_within wsX8_within) := goodIn_app (goodIn_of _ (by decide +kernel)) ggX8_isHook_X8_within
theorem dX8_isHook_0 : decode cX8_isHook 0 = .ok (.iload_n 1, 1) := by decide +kernel
theorem dX8_isHook_1 : decode cX8_isHook 1 = .ok (.iconst 0, 1) := by decide +kernel
theorem dX8_isHook_2 : decode cX8_isHook 2 = .ok (.aload_n 0, 1) := by decide +kernel
theorem dX8_isHook_3 : decode cX8_isHook 3 = .ok (.getfield 109, 3) := by decide +kernel
theorem dX8_isHook_6 : decode cX8_isHook 6 = .ok (.iconst 1, 1) := by decide +kernel
theorem dX8_isHook_7 : decode cX8_isHook 7 = .ok (.isub, 1) := by decide +kernel
theorem dX8_isHook_8 : decode cX8_isHook 8 = .ok (.invokestatic 77, 3) := by decide +kernel
theorem dX8_isHook_11 : decode cX8_isHook 11 = .ok (.ireturn, 1) := by decide +kernel
theorem dX8_hookNow_0 : decode cX8_hookNow 0 = .ok (.aload_n 0, 1) := by decide +kernel
theorem dX8_hookNow_1 : decode cX8_hookNow 1 = .ok (.getfield 19, 3) := by decide +kernel
theorem dX8_hookNow_4 : decode cX8_hookNow 4 = .ok (.iload_n 1, 1) := by decide +kernel
theorem dX8_hookNow_5 : decode cX8_hookNow 5 = .ok (.iaload, 1) := by decide +kernel
theorem dX8_hookNow_6 : decode cX8_hookNow 6 = .ok (.istore_n 3, 1) := by decide +kernel
theorem dX8_hookNow_7 : decode cX8_hookNow 7 = .ok (.iload_n 2, 1) := by decide +kernel
theorem dX8_hookNow_8 : decode cX8_hookNow 8 = .ok (.tableswitch 77 0 5 #[40, 47, 54, 56, 63, 70], 40) := by decide +kernel
theorem dX8_hookNow_48 : decode cX8_hookNow 48 = .ok (.aload_n 0, 1) := by decide +kernel
theorem dX8_hookNow_49 : decode cX8_hookNow 49 = .ok (.getfield 7, 3) := by decide +kernel
theorem dX8_hookNow_52 : decode cX8_hookNow 52 = .ok (.iload_n 1, 1) := by decide +kernel
theorem dX8_hookNow_53 : decode cX8_hookNow 53 = .ok (.iaload, 1) := by decide +kernel
theorem dX8_hookNow_54 : decode cX8_hookNow 54 = .ok (.ireturn, 1) := by decide +kernel
theorem dX8_hookNow_55 : decode cX8_hookNow 55 = .ok (.aload_n 0, 1) := by decide +kernel
theorem dX8_hookNow_56 : decode cX8_hookNow 56 = .ok (.getfield 13, 3) := by decide +kernel
theorem dX8_hookNow_59 : decode cX8_hookNow 59 = .ok (.iload_n 1, 1) := by decide +kernel
theorem dX8_hookNow_60 : decode cX8_hookNow 60 = .ok (.iaload, 1) := by decide +kernel
theorem dX8_hookNow_61 : decode cX8_hookNow 61 = .ok (.ireturn, 1) := by decide +kernel
theorem dX8_hookNow_62 : decode cX8_hookNow 62 = .ok (.iload_n 3, 1) := by decide +kernel
theorem dX8_hookNow_63 : decode cX8_hookNow 63 = .ok (.ireturn, 1) := by decide +kernel
theorem dX8_hookNow_64 : decode cX8_hookNow 64 = .ok (.aload_n 0, 1) := by decide +kernel
theorem dX8_hookNow_65 : decode cX8_hookNow 65 = .ok (.getfield 22, 3) := by decide +kernel
theorem dX8_hookNow_68 : decode cX8_hookNow 68 = .ok (.iload_n 3, 1) := by decide +kernel
theorem dX8_hookNow_69 : decode cX8_hookNow 69 = .ok (.iaload, 1) := by decide +kernel
theorem dX8_hookNow_70 : decode cX8_hookNow 70 = .ok (.ireturn, 1) := by decide +kernel
theorem dX8_hookNow_71 : decode cX8_hookNow 71 = .ok (.aload_n 0, 1) := by decide +kernel
theorem dX8_hookNow_72 : decode cX8_hookNow 72 = .ok (.getfield 25, 3) := by decide +kernel
theorem dX8_hookNow_75 : decode cX8_hookNow 75 = .ok (.iload_n 3, 1) := by decide +kernel
theorem dX8_hookNow_76 : decode cX8_hookNow 76 = .ok (.iaload, 1) := by decide +kernel
theorem dX8_hookNow_77 : decode cX8_hookNow 77 = .ok (.ireturn, 1) := by decide +kernel
theorem dX8_hookNow_78 : decode cX8_hookNow 78 = .ok (.aload_n 0, 1) := by decide +kernel
theorem dX8_hookNow_79 : decode cX8_hookNow 79 = .ok (.getfield 28, 3) := by decide +kernel
theorem dX8_hookNow_82 : decode cX8_hookNow 82 = .ok (.iload_n 3, 1) := by decide +kernel
theorem dX8_hookNow_83 : decode cX8_hookNow 83 = .ok (.iaload, 1) := by decide +kernel
theorem dX8_hookNow_84 : decode cX8_hookNow 84 = .ok (.ireturn, 1) := by decide +kernel
theorem dX8_hookNow_85 : decode cX8_hookNow 85 = .ok (.aload_n 0, 1) := by decide +kernel
theorem dX8_hookNow_86 : decode cX8_hookNow 86 = .ok (.getfield 16, 3) := by decide +kernel
theorem dX8_hookNow_89 : decode cX8_hookNow 89 = .ok (.iload_n 3, 1) := by decide +kernel
theorem dX8_hookNow_90 : decode cX8_hookNow 90 = .ok (.iaload, 1) := by decide +kernel
theorem dX8_hookNow_91 : decode cX8_hookNow 91 = .ok (.ireturn, 1) := by decide +kernel
set_option maxRecDepth 20000 in
theorem ggX8_hook_X8_isHook : GoodIn wsX8_hook wsX8_isHook := goodIn_r _ [5, 6, 7, 8, 4, 9, 21, 22, 23, 24, 25, 26, 27, 28, 29, 30, 31, 32, 33, 34, 35, 36, 37, 38, 39, 40, 41, 42, 43, 44, 45, 46, 47, 48, 49, 50, 51, 52, 53, 54, 55, 56, 57, 58, 59, 60, 61, 62] (by decide +kernel) (by decide +kernel)
set_option maxRecDepth 20000 in
theorem gX8_hook_X8_isHook : GoodIn wsX8_hook (wsV RX8 130 RX8 yX8_isHook wsX8_isHook) := goodIn_app (goodIn_of _ (by decide +kernel)) ggX8_hook_X8_isHook
set_option maxRecDepth 20000 in
theorem ggX8_hook_X8_within : GoodIn wsX8_hook wsX8_within := goodIn_r _ [9] (by decide +kernel) (by decide +kernel)
set_option maxRecDepth 20000 in
theorem gX8_hook_X8_within : GoodIn wsX8_hook (va_wsS RX8 77 yX8_within wsX8_within) := goodIn_app (goodIn_of _ (by decide +kernel)) ggX8_hook_X8_within
set_option maxRecDepth 20000 in
theorem ggX8_hook_X8_hookNow : GoodIn wsX8_hook wsX8_hookNow := goodIn_r _ [13, 14, 15, 16, 17, 18, 19, 20, 21, 22, 23, 24, 25, 26, 27, 28, 29, 30, 31, 32, 33, 34, 35, 36, 37, 38, 39, 40, 41, 42, 43, 44, 45, 46, 47, 48, 49, 50, 51, 52, 53, 54, 55, 56, 57, 58, 59, 60, 61, 62] (by decide +kernel) (by decide +kernel)
set_option maxRecDepth 20000 in
theorem gX8_hook_X8_hookNow : GoodIn wsX8_hook (wsV RX8 134 RX8 yX8_hookNow wsX8_hookNow) := goodIn_app (goodIn_of _ (by decide +kernel)) ggX8_hook_X8_hookNow
theorem dX8_hook_0 : decode cX8_hook 0 = .ok (.aload_n 0, 1) := by decide +kernel
theorem dX8_hook_1 : decode cX8_hook 1 = .ok (.iload_n 1, 1) := by decide +kernel
theorem dX8_hook_2 : decode cX8_hook 2 = .ok (.invokevirtual 130, 3) := by decide +kernel
theorem dX8_hook_5 : decode cX8_hook 5 = .ok (.ifCond .ne 8, 3) := by decide +kernel
theorem dX8_hook_8 : decode cX8_hook 8 = .ok (.bipush (-101), 2) := by decide +kernel
theorem dX8_hook_10 : decode cX8_hook 10 = .ok (.goto 24, 3) := by decide +kernel
theorem dX8_hook_13 : decode cX8_hook 13 = .ok (.iload_n 2, 1) := by decide +kernel
theorem dX8_hook_14 : decode cX8_hook 14 = .ok (.iconst 0, 1) := by decide +kernel
theorem dX8_hook_15 : decode cX8_hook 15 = .ok (.bipush 6, 2) := by decide +kernel
theorem dX8_hook_17 : decode cX8_hook 17 = .ok (.invokestatic 77, 3) := by decide +kernel
theorem dX8_hook_20 : decode cX8_hook 20 = .ok (.ifCond .eq 12, 3) := by decide +kernel
theorem dX8_hook_23 : decode cX8_hook 23 = .ok (.aload_n 0, 1) := by decide +kernel
theorem dX8_hook_24 : decode cX8_hook 24 = .ok (.iload_n 1, 1) := by decide +kernel
theorem dX8_hook_25 : decode cX8_hook 25 = .ok (.iload_n 2, 1) := by decide +kernel
theorem dX8_hook_26 : decode cX8_hook 26 = .ok (.invokevirtual 134, 3) := by decide +kernel
theorem dX8_hook_29 : decode cX8_hook 29 = .ok (.goto 5, 3) := by decide +kernel
theorem dX8_hook_32 : decode cX8_hook 32 = .ok (.bipush (-102), 2) := by decide +kernel
theorem dX8_hook_34 : decode cX8_hook 34 = .ok (.ireturn, 1) := by decide +kernel
theorem dX8_gripOf_0 : decode cX8_gripOf 0 = .ok (.iload_n 0, 1) := by decide +kernel
theorem dX8_gripOf_1 : decode cX8_gripOf 1 = .ok (.tableswitch 38 1 4 #[31, 33, 36, 33], 31) := by decide +kernel
theorem dX8_gripOf_32 : decode cX8_gripOf 32 = .ok (.iconst 1, 1) := by decide +kernel
theorem dX8_gripOf_33 : decode cX8_gripOf 33 = .ok (.ireturn, 1) := by decide +kernel
theorem dX8_gripOf_34 : decode cX8_gripOf 34 = .ok (.bipush (-2), 2) := by decide +kernel
theorem dX8_gripOf_36 : decode cX8_gripOf 36 = .ok (.ireturn, 1) := by decide +kernel
theorem dX8_gripOf_37 : decode cX8_gripOf 37 = .ok (.iconst (-1), 1) := by decide +kernel
theorem dX8_gripOf_38 : decode cX8_gripOf 38 = .ok (.ireturn, 1) := by decide +kernel
theorem dX8_gripOf_39 : decode cX8_gripOf 39 = .ok (.iconst 0, 1) := by decide +kernel
theorem dX8_gripOf_40 : decode cX8_gripOf 40 = .ok (.ireturn, 1) := by decide +kernel
set_option maxRecDepth 20000 in
theorem ggX8_parcel_X8_within : GoodIn wsX8_parcel wsX8_within := goodIn_r _ [7] (by decide +kernel) (by decide +kernel)
set_option maxRecDepth 20000 in
theorem gX8_parcel_X8_within : GoodIn wsX8_parcel (va_wsS RX8 77 yX8_within wsX8_within) := goodIn_app (goodIn_of _ (by decide +kernel)) ggX8_parcel_X8_within
set_option maxRecDepth 20000 in
theorem ggX8_parcel_X8_isHook : GoodIn wsX8_parcel wsX8_isHook := goodIn_r _ [11, 12, 4, 5, 6, 7, 13, 14, 15, 16, 17, 18, 19, 20, 21, 22, 23, 24, 25, 26, 27, 28, 29, 30, 31, 32, 33, 34, 35, 36, 37, 38, 39, 40, 41, 42, 43, 44, 45, 46, 47, 48, 49, 50, 51, 52, 53, 54] (by decide +kernel) (by decide +kernel)
set_option maxRecDepth 20000 in
theorem gX8_parcel_X8_isHook : GoodIn wsX8_parcel (wsV RX8 130 RX8 yX8_isHook wsX8_isHook) := goodIn_app (goodIn_of _ (by decide +kernel)) ggX8_parcel_X8_isHook
theorem dX8_parcel_0 : decode cX8_parcel 0 = .ok (.iload_n 1, 1) := by decide +kernel
theorem dX8_parcel_1 : decode cX8_parcel 1 = .ok (.iconst 0, 1) := by decide +kernel
theorem dX8_parcel_2 : decode cX8_parcel 2 = .ok (.iconst 4, 1) := by decide +kernel
theorem dX8_parcel_3 : decode cX8_parcel 3 = .ok (.invokestatic 77, 3) := by decide +kernel
theorem dX8_parcel_6 : decode cX8_parcel 6 = .ok (.ifCond .ne 6, 3) := by decide +kernel
theorem dX8_parcel_9 : decode cX8_parcel 9 = .ok (.bipush (-102), 2) := by decide +kernel
theorem dX8_parcel_11 : decode cX8_parcel 11 = .ok (.ireturn, 1) := by decide +kernel
theorem dX8_parcel_12 : decode cX8_parcel 12 = .ok (.aload_n 0, 1) := by decide +kernel
theorem dX8_parcel_13 : decode cX8_parcel 13 = .ok (.iload_n 2, 1) := by decide +kernel
theorem dX8_parcel_14 : decode cX8_parcel 14 = .ok (.invokevirtual 130, 3) := by decide +kernel
theorem dX8_parcel_17 : decode cX8_parcel 17 = .ok (.ifCond .ne 6, 3) := by decide +kernel
theorem dX8_parcel_20 : decode cX8_parcel 20 = .ok (.bipush (-101), 2) := by decide +kernel
theorem dX8_parcel_22 : decode cX8_parcel 22 = .ok (.ireturn, 1) := by decide +kernel
theorem dX8_parcel_23 : decode cX8_parcel 23 = .ok (.aload_n 0, 1) := by decide +kernel
theorem dX8_parcel_24 : decode cX8_parcel 24 = .ok (.getfield 118, 3) := by decide +kernel
theorem dX8_parcel_27 : decode cX8_parcel 27 = .ok (.bipush 8, 2) := by decide +kernel
theorem dX8_parcel_29 : decode cX8_parcel 29 = .ok (.if_icmp .ne 6, 3) := by decide +kernel
theorem dX8_parcel_32 : decode cX8_parcel 32 = .ok (.bipush (-104), 2) := by decide +kernel
theorem dX8_parcel_34 : decode cX8_parcel 34 = .ok (.ireturn, 1) := by decide +kernel
theorem dX8_parcel_35 : decode cX8_parcel 35 = .ok (.aload_n 0, 1) := by decide +kernel
theorem dX8_parcel_36 : decode cX8_parcel 36 = .ok (.getfield 34, 3) := by decide +kernel
theorem dX8_parcel_39 : decode cX8_parcel 39 = .ok (.aload_n 0, 1) := by decide +kernel
theorem dX8_parcel_40 : decode cX8_parcel 40 = .ok (.getfield 118, 3) := by decide +kernel
theorem dX8_parcel_43 : decode cX8_parcel 43 = .ok (.iload_n 1, 1) := by decide +kernel
theorem dX8_parcel_44 : decode cX8_parcel 44 = .ok (.iastore, 1) := by decide +kernel
theorem dX8_parcel_45 : decode cX8_parcel 45 = .ok (.aload_n 0, 1) := by decide +kernel
theorem dX8_parcel_46 : decode cX8_parcel 46 = .ok (.getfield 37, 3) := by decide +kernel
theorem dX8_parcel_49 : decode cX8_parcel 49 = .ok (.aload_n 0, 1) := by decide +kernel
theorem dX8_parcel_50 : decode cX8_parcel 50 = .ok (.getfield 118, 3) := by decide +kernel
theorem dX8_parcel_53 : decode cX8_parcel 53 = .ok (.iload_n 2, 1) := by decide +kernel
theorem dX8_parcel_54 : decode cX8_parcel 54 = .ok (.iastore, 1) := by decide +kernel
theorem dX8_parcel_55 : decode cX8_parcel 55 = .ok (.aload_n 0, 1) := by decide +kernel
theorem dX8_parcel_56 : decode cX8_parcel 56 = .ok (.dup, 1) := by decide +kernel
theorem dX8_parcel_57 : decode cX8_parcel 57 = .ok (.getfield 118, 3) := by decide +kernel
theorem dX8_parcel_60 : decode cX8_parcel 60 = .ok (.iconst 1, 1) := by decide +kernel
theorem dX8_parcel_61 : decode cX8_parcel 61 = .ok (.iadd, 1) := by decide +kernel
theorem dX8_parcel_62 : decode cX8_parcel 62 = .ok (.putfield 118, 3) := by decide +kernel
theorem dX8_parcel_65 : decode cX8_parcel 65 = .ok (.aload_n 0, 1) := by decide +kernel
theorem dX8_parcel_66 : decode cX8_parcel 66 = .ok (.getfield 118, 3) := by decide +kernel
theorem dX8_parcel_69 : decode cX8_parcel 69 = .ok (.ireturn, 1) := by decide +kernel
set_option maxRecDepth 20000 in
theorem ggX8_isPlace_X8_within : GoodIn wsX8_isPlace wsX8_within := goodIn_r _ [5] (by decide +kernel) (by decide +kernel)
set_option maxRecDepth 20000 in
theorem gX8_isPlace_X8_within : GoodIn wsX8_isPlace (va_wsS RX8 77 yX8_within wsX8_within) := goodIn_app (goodIn_of _ (by decide +kernel)) ggX8_isPlace_X8_within
theorem dX8_isPlace_0 : decode cX8_isPlace 0 = .ok (.iload_n 1, 1) := by decide +kernel
theorem dX8_isPlace_1 : decode cX8_isPlace 1 = .ok (.iconst 0, 1) := by decide +kernel
theorem dX8_isPlace_2 : decode cX8_isPlace 2 = .ok (.aload_n 0, 1) := by decide +kernel
theorem dX8_isPlace_3 : decode cX8_isPlace 3 = .ok (.getfield 118, 3) := by decide +kernel
theorem dX8_isPlace_6 : decode cX8_isPlace 6 = .ok (.iconst 1, 1) := by decide +kernel
theorem dX8_isPlace_7 : decode cX8_isPlace 7 = .ok (.isub, 1) := by decide +kernel
theorem dX8_isPlace_8 : decode cX8_isPlace 8 = .ok (.invokestatic 77, 3) := by decide +kernel
theorem dX8_isPlace_11 : decode cX8_isPlace 11 = .ok (.ireturn, 1) := by decide +kernel
set_option maxRecDepth 20000 in
theorem ggX8_beltNow_X8_gripOf : GoodIn wsX8_beltNow wsX8_gripOf := goodIn_r _ [6] (by decide +kernel) (by decide +kernel)
set_option maxRecDepth 20000 in
theorem gX8_beltNow_X8_gripOf : GoodIn wsX8_beltNow (va_wsS RX8 138 yX8_gripOf wsX8_gripOf) := goodIn_app (goodIn_of _ (by decide +kernel)) ggX8_beltNow_X8_gripOf
theorem dX8_beltNow_0 : decode cX8_beltNow 0 = .ok (.iload_n 2, 1) := by decide +kernel
theorem dX8_beltNow_1 : decode cX8_beltNow 1 = .ok (.ifCond .ne 12, 3) := by decide +kernel
theorem dX8_beltNow_4 : decode cX8_beltNow 4 = .ok (.aload_n 0, 1) := by decide +kernel
theorem dX8_beltNow_5 : decode cX8_beltNow 5 = .ok (.getfield 34, 3) := by decide +kernel
theorem dX8_beltNow_8 : decode cX8_beltNow 8 = .ok (.iload_n 1, 1) := by decide +kernel
theorem dX8_beltNow_9 : decode cX8_beltNow 9 = .ok (.iaload, 1) := by decide +kernel
theorem dX8_beltNow_10 : decode cX8_beltNow 10 = .ok (.goto 26, 3) := by decide +kernel
theorem dX8_beltNow_13 : decode cX8_beltNow 13 = .ok (.iload_n 2, 1) := by decide +kernel
theorem dX8_beltNow_14 : decode cX8_beltNow 14 = .ok (.iconst 1, 1) := by decide +kernel
theorem dX8_beltNow_15 : decode cX8_beltNow 15 = .ok (.if_icmp .ne 12, 3) := by decide +kernel
theorem dX8_beltNow_18 : decode cX8_beltNow 18 = .ok (.aload_n 0, 1) := by decide +kernel
theorem dX8_beltNow_19 : decode cX8_beltNow 19 = .ok (.getfield 37, 3) := by decide +kernel
theorem dX8_beltNow_22 : decode cX8_beltNow 22 = .ok (.iload_n 1, 1) := by decide +kernel
theorem dX8_beltNow_23 : decode cX8_beltNow 23 = .ok (.iaload, 1) := by decide +kernel
theorem dX8_beltNow_24 : decode cX8_beltNow 24 = .ok (.goto 12, 3) := by decide +kernel
theorem dX8_beltNow_27 : decode cX8_beltNow 27 = .ok (.aload_n 0, 1) := by decide +kernel
theorem dX8_beltNow_28 : decode cX8_beltNow 28 = .ok (.getfield 34, 3) := by decide +kernel
theorem dX8_beltNow_31 : decode cX8_beltNow 31 = .ok (.iload_n 1, 1) := by decide +kernel
theorem dX8_beltNow_32 : decode cX8_beltNow 32 = .ok (.iaload, 1) := by decide +kernel
theorem dX8_beltNow_33 : decode cX8_beltNow 33 = .ok (.invokestatic 138, 3) := by decide +kernel
theorem dX8_beltNow_36 : decode cX8_beltNow 36 = .ok (.ireturn, 1) := by decide +kernel
set_option maxRecDepth 20000 in
theorem ggX8_belt_X8_isPlace : GoodIn wsX8_belt wsX8_isPlace := goodIn_r _ [5, 6, 7, 8, 4, 9, 19, 20, 21, 22, 23, 24, 25, 26, 27, 28, 29, 30, 31, 32, 33, 34, 35, 36, 37, 38, 39, 40, 41, 42, 43, 44, 45, 46, 47, 48, 49, 50, 51, 52, 53, 54, 55, 56, 57, 58, 59, 60] (by decide +kernel) (by decide +kernel)
set_option maxRecDepth 20000 in
theorem gX8_belt_X8_isPlace : GoodIn wsX8_belt (wsV RX8 142 RX8 yX8_isPlace wsX8_isPlace) := goodIn_app (goodIn_of _ (by decide +kernel)) ggX8_belt_X8_isPlace
set_option maxRecDepth 20000 in
theorem ggX8_belt_X8_within : GoodIn wsX8_belt wsX8_within := goodIn_r _ [9] (by decide +kernel) (by decide +kernel)
set_option maxRecDepth 20000 in
theorem gX8_belt_X8_within : GoodIn wsX8_belt (va_wsS RX8 77 yX8_within wsX8_within) := goodIn_app (goodIn_of _ (by decide +kernel)) ggX8_belt_X8_within
set_option maxRecDepth 20000 in
theorem ggX8_belt_X8_beltNow : GoodIn wsX8_belt wsX8_beltNow := goodIn_r _ [13, 14, 15, 16, 17, 4, 18, 19, 20, 21, 22, 23, 24, 25, 26, 27, 28, 29, 30, 31, 32, 33, 34, 35, 36, 37, 38, 39, 40, 41, 42, 43, 44, 45, 46, 47, 48, 49, 50, 51, 52, 53, 54, 55, 56, 57, 58, 59, 60] (by decide +kernel) (by decide +kernel)
set_option maxRecDepth 20000 in
theorem gX8_belt_X8_beltNow : GoodIn wsX8_belt (wsV RX8 145 RX8 yX8_beltNow wsX8_beltNow) := goodIn_app (goodIn_of _ (by decide +kernel)) ggX8_belt_X8_beltNow
theorem dX8_belt_0 : decode cX8_belt 0 = .ok (.aload_n 0, 1) := by decide +kernel
theorem dX8_belt_1 : decode cX8_belt 1 = .ok (.iload_n 1, 1) := by decide +kernel
theorem dX8_belt_2 : decode cX8_belt 2 = .ok (.invokevirtual 142, 3) := by decide +kernel
theorem dX8_belt_5 : decode cX8_belt 5 = .ok (.ifCond .ne 8, 3) := by decide +kernel
theorem dX8_belt_8 : decode cX8_belt 8 = .ok (.bipush (-101), 2) := by decide +kernel
theorem dX8_belt_10 : decode cX8_belt 10 = .ok (.goto 23, 3) := by decide +kernel
theorem dX8_belt_13 : decode cX8_belt 13 = .ok (.iload_n 2, 1) := by decide +kernel
theorem dX8_belt_14 : decode cX8_belt 14 = .ok (.iconst 0, 1) := by decide +kernel
theorem dX8_belt_15 : decode cX8_belt 15 = .ok (.iconst 2, 1) := by decide +kernel
theorem dX8_belt_16 : decode cX8_belt 16 = .ok (.invokestatic 77, 3) := by decide +kernel
theorem dX8_belt_19 : decode cX8_belt 19 = .ok (.ifCond .eq 12, 3) := by decide +kernel
theorem dX8_belt_22 : decode cX8_belt 22 = .ok (.aload_n 0, 1) := by decide +kernel
theorem dX8_belt_23 : decode cX8_belt 23 = .ok (.iload_n 1, 1) := by decide +kernel
theorem dX8_belt_24 : decode cX8_belt 24 = .ok (.iload_n 2, 1) := by decide +kernel
theorem dX8_belt_25 : decode cX8_belt 25 = .ok (.invokevirtual 145, 3) := by decide +kernel
theorem dX8_belt_28 : decode cX8_belt 28 = .ok (.goto 5, 3) := by decide +kernel
theorem dX8_belt_31 : decode cX8_belt 31 = .ok (.bipush (-102), 2) := by decide +kernel
theorem dX8_belt_33 : decode cX8_belt 33 = .ok (.ireturn, 1) := by decide +kernel
set_option maxRecDepth 20000 in
theorem ggX8_as_X8_isPlace : GoodIn wsX8_as wsX8_isPlace := goodIn_r _ [7, 8, 9, 10, 6, 11, 12, 13, 14, 15, 16, 17, 18, 19, 20, 21, 22, 23, 24, 25, 26, 27, 28, 29, 30, 31, 32, 33, 34, 35, 36, 37, 38, 39, 40, 41, 42, 43, 44, 45, 46, 47, 48, 49, 50, 51, 52, 53] (by decide +kernel) (by decide +kernel)
set_option maxRecDepth 20000 in
theorem gX8_as_X8_isPlace : GoodIn wsX8_as (wsV RX8 142 RX8 yX8_isPlace wsX8_isPlace) := goodIn_app (goodIn_of _ (by decide +kernel)) ggX8_as_X8_isPlace
set_option maxRecDepth 20000 in
theorem ggX8_as_X8_within : GoodIn wsX8_as wsX8_within := goodIn_r _ [11] (by decide +kernel) (by decide +kernel)
set_option maxRecDepth 20000 in
theorem gX8_as_X8_within : GoodIn wsX8_as (va_wsS RX8 77 yX8_within wsX8_within) := goodIn_app (goodIn_of _ (by decide +kernel)) ggX8_as_X8_within
theorem dX8_as_0 : decode cX8_as 0 = .ok (.aload_n 0, 1) := by decide +kernel
theorem dX8_as_1 : decode cX8_as 1 = .ok (.iload_n 1, 1) := by decide +kernel
theorem dX8_as_2 : decode cX8_as 2 = .ok (.invokevirtual 142, 3) := by decide +kernel
theorem dX8_as_5 : decode cX8_as 5 = .ok (.ifCond .ne 6, 3) := by decide +kernel
theorem dX8_as_8 : decode cX8_as 8 = .ok (.bipush (-101), 2) := by decide +kernel
theorem dX8_as_10 : decode cX8_as 10 = .ok (.ireturn, 1) := by decide +kernel
theorem dX8_as_11 : decode cX8_as 11 = .ok (.iload_n 2, 1) := by decide +kernel
theorem dX8_as_12 : decode cX8_as 12 = .ok (.iconst 0, 1) := by decide +kernel
theorem dX8_as_13 : decode cX8_as 13 = .ok (.iconst 4, 1) := by decide +kernel
theorem dX8_as_14 : decode cX8_as 14 = .ok (.invokestatic 77, 3) := by decide +kernel
theorem dX8_as_17 : decode cX8_as 17 = .ok (.ifCond .ne 6, 3) := by decide +kernel
theorem dX8_as_20 : decode cX8_as 20 = .ok (.bipush (-102), 2) := by decide +kernel
theorem dX8_as_22 : decode cX8_as 22 = .ok (.ireturn, 1) := by decide +kernel
theorem dX8_as_23 : decode cX8_as 23 = .ok (.aload_n 0, 1) := by decide +kernel
theorem dX8_as_24 : decode cX8_as 24 = .ok (.getfield 34, 3) := by decide +kernel
theorem dX8_as_27 : decode cX8_as 27 = .ok (.iload_n 1, 1) := by decide +kernel
theorem dX8_as_28 : decode cX8_as 28 = .ok (.iaload, 1) := by decide +kernel
theorem dX8_as_29 : decode cX8_as 29 = .ok (.istore_n 3, 1) := by decide +kernel
theorem dX8_as_30 : decode cX8_as 30 = .ok (.iload_n 2, 1) := by decide +kernel
theorem dX8_as_31 : decode cX8_as 31 = .ok (.ifCond .eq 18, 3) := by decide +kernel
theorem dX8_as_34 : decode cX8_as 34 = .ok (.iload_n 3, 1) := by decide +kernel
theorem dX8_as_35 : decode cX8_as 35 = .ok (.iload_n 2, 1) := by decide +kernel
theorem dX8_as_36 : decode cX8_as 36 = .ok (.if_icmp .eq 13, 3) := by decide +kernel
theorem dX8_as_39 : decode cX8_as 39 = .ok (.iload_n 2, 1) := by decide +kernel
theorem dX8_as_40 : decode cX8_as 40 = .ok (.iconst 2, 1) := by decide +kernel
theorem dX8_as_41 : decode cX8_as 41 = .ok (.if_icmp .ne 17, 3) := by decide +kernel
theorem dX8_as_44 : decode cX8_as 44 = .ok (.iload_n 3, 1) := by decide +kernel
theorem dX8_as_45 : decode cX8_as 45 = .ok (.iconst 4, 1) := by decide +kernel
theorem dX8_as_46 : decode cX8_as 46 = .ok (.if_icmp .ne 12, 3) := by decide +kernel
theorem dX8_as_49 : decode cX8_as 49 = .ok (.aload_n 0, 1) := by decide +kernel
theorem dX8_as_50 : decode cX8_as 50 = .ok (.getfield 37, 3) := by decide +kernel
theorem dX8_as_53 : decode cX8_as 53 = .ok (.iload_n 1, 1) := by decide +kernel
theorem dX8_as_54 : decode cX8_as 54 = .ok (.iaload, 1) := by decide +kernel
theorem dX8_as_55 : decode cX8_as 55 = .ok (.goto 4, 3) := by decide +kernel
theorem dX8_as_58 : decode cX8_as 58 = .ok (.iconst (-1), 1) := by decide +kernel
theorem dX8_as_59 : decode cX8_as 59 = .ok (.ireturn, 1) := by decide +kernel
theorem dX8_nextOf_0 : decode cX8_nextOf 0 = .ok (.iload_n 1, 1) := by decide +kernel
theorem dX8_nextOf_1 : decode cX8_nextOf 1 = .ok (.aload_n 0, 1) := by decide +kernel
theorem dX8_nextOf_2 : decode cX8_nextOf 2 = .ok (.getfield 109, 3) := by decide +kernel
theorem dX8_nextOf_5 : decode cX8_nextOf 5 = .ok (.iconst 1, 1) := by decide +kernel
theorem dX8_nextOf_6 : decode cX8_nextOf 6 = .ok (.isub, 1) := by decide +kernel
theorem dX8_nextOf_7 : decode cX8_nextOf 7 = .ok (.if_icmp .ne 9, 3) := by decide +kernel
theorem dX8_nextOf_10 : decode cX8_nextOf 10 = .ok (.iload_n 1, 1) := by decide +kernel
theorem dX8_nextOf_11 : decode cX8_nextOf 11 = .ok (.iconst 1, 1) := by decide +kernel
theorem dX8_nextOf_12 : decode cX8_nextOf 12 = .ok (.isub, 1) := by decide +kernel
theorem dX8_nextOf_13 : decode cX8_nextOf 13 = .ok (.goto 6, 3) := by decide +kernel
theorem dX8_nextOf_16 : decode cX8_nextOf 16 = .ok (.iload_n 1, 1) := by decide +kernel
theorem dX8_nextOf_17 : decode cX8_nextOf 17 = .ok (.iconst 1, 1) := by decide +kernel
theorem dX8_nextOf_18 : decode cX8_nextOf 18 = .ok (.iadd, 1) := by decide +kernel
theorem dX8_nextOf_19 : decode cX8_nextOf 19 = .ok (.ireturn, 1) := by decide +kernel
set_option maxRecDepth 20000 in
theorem ggX8_tenthsIn_X8_gripOf : GoodIn wsX8_tenthsIn wsX8_gripOf := goodIn_r _ [5] (by decide +kernel) (by decide +kernel)
set_option maxRecDepth 20000 in
theorem gX8_tenthsIn_X8_gripOf : GoodIn wsX8_tenthsIn (va_wsS RX8 138 yX8_gripOf wsX8_gripOf) := goodIn_app (goodIn_of _ (by decide +kernel)) ggX8_tenthsIn_X8_gripOf
theorem dX8_tenthsIn_0 : decode cX8_tenthsIn 0 = .ok (.bipush 10, 2) := by decide +kernel
theorem dX8_tenthsIn_2 : decode cX8_tenthsIn 2 = .ok (.iload_n 1, 1) := by decide +kernel
theorem dX8_tenthsIn_3 : decode cX8_tenthsIn 3 = .ok (.invokestatic 138, 3) := by decide +kernel
theorem dX8_tenthsIn_6 : decode cX8_tenthsIn 6 = .ok (.iadd, 1) := by decide +kernel
theorem dX8_tenthsIn_7 : decode cX8_tenthsIn 7 = .ok (.aload_n 0, 1) := by decide +kernel
theorem dX8_tenthsIn_8 : decode cX8_tenthsIn 8 = .ok (.getfield 7, 3) := by decide +kernel
theorem dX8_tenthsIn_11 : decode cX8_tenthsIn 11 = .ok (.iload_n 2, 1) := by decide +kernel
theorem dX8_tenthsIn_12 : decode cX8_tenthsIn 12 = .ok (.iaload, 1) := by decide +kernel
theorem dX8_tenthsIn_13 : decode cX8_tenthsIn 13 = .ok (.isub, 1) := by decide +kernel
theorem dX8_tenthsIn_14 : decode cX8_tenthsIn 14 = .ok (.istore_n 3, 1) := by decide +kernel
theorem dX8_tenthsIn_15 : decode cX8_tenthsIn 15 = .ok (.iload_n 3, 1) := by decide +kernel
theorem dX8_tenthsIn_16 : decode cX8_tenthsIn 16 = .ok (.ifCond .ge 7, 3) := by decide +kernel
theorem dX8_tenthsIn_19 : decode cX8_tenthsIn 19 = .ok (.iconst 0, 1) := by decide +kernel
theorem dX8_tenthsIn_20 : decode cX8_tenthsIn 20 = .ok (.goto 15, 3) := by decide +kernel
theorem dX8_tenthsIn_23 : decode cX8_tenthsIn 23 = .ok (.iload_n 3, 1) := by decide +kernel
theorem dX8_tenthsIn_24 : decode cX8_tenthsIn 24 = .ok (.bipush 10, 2) := by decide +kernel
theorem dX8_tenthsIn_26 : decode cX8_tenthsIn 26 = .ok (.if_icmp .le 8, 3) := by decide +kernel
theorem dX8_tenthsIn_29 : decode cX8_tenthsIn 29 = .ok (.bipush 10, 2) := by decide +kernel
theorem dX8_tenthsIn_31 : decode cX8_tenthsIn 31 = .ok (.goto 4, 3) := by decide +kernel
theorem dX8_tenthsIn_34 : decode cX8_tenthsIn 34 = .ok (.iload_n 3, 1) := by decide +kernel
theorem dX8_tenthsIn_35 : decode cX8_tenthsIn 35 = .ok (.ireturn, 1) := by decide +kernel
set_option maxRecDepth 20000 in
theorem ggX8_tenthsNext_X8_tenthsIn : GoodIn wsX8_tenthsNext wsX8_tenthsIn := goodIn_r _ [5, 6, 7, 8, 4, 9, 10, 11, 12, 13, 14, 15, 16, 17, 18, 19, 20, 21, 22, 23, 24, 25, 26, 27, 28, 29, 30, 31, 32, 33, 34, 35, 36, 37, 38, 39, 40, 41, 42, 43, 44, 45, 46, 47, 48, 49, 50, 51] (by decide +kernel) (by decide +kernel)
set_option maxRecDepth 20000 in
theorem gX8_tenthsNext_X8_tenthsIn : GoodIn wsX8_tenthsNext (wsV RX8 148 RX8 yX8_tenthsIn wsX8_tenthsIn) := goodIn_app (goodIn_of _ (by decide +kernel)) ggX8_tenthsNext_X8_tenthsIn
theorem dX8_tenthsNext_0 : decode cX8_tenthsNext 0 = .ok (.bipush 10, 2) := by decide +kernel
theorem dX8_tenthsNext_2 : decode cX8_tenthsNext 2 = .ok (.aload_n 0, 1) := by decide +kernel
theorem dX8_tenthsNext_3 : decode cX8_tenthsNext 3 = .ok (.iload_n 1, 1) := by decide +kernel
theorem dX8_tenthsNext_4 : decode cX8_tenthsNext 4 = .ok (.iload_n 2, 1) := by decide +kernel
theorem dX8_tenthsNext_5 : decode cX8_tenthsNext 5 = .ok (.invokevirtual 148, 3) := by decide +kernel
theorem dX8_tenthsNext_8 : decode cX8_tenthsNext 8 = .ok (.isub, 1) := by decide +kernel
theorem dX8_tenthsNext_9 : decode cX8_tenthsNext 9 = .ok (.iconst 3, 1) := by decide +kernel
theorem dX8_tenthsNext_10 : decode cX8_tenthsNext 10 = .ok (.idiv, 1) := by decide +kernel
theorem dX8_tenthsNext_11 : decode cX8_tenthsNext 11 = .ok (.ireturn, 1) := by decide +kernel
theorem dX8_isFull_0 : decode cX8_isFull 0 = .ok (.aload_n 0, 1) := by decide +kernel
theorem dX8_isFull_1 : decode cX8_isFull 1 = .ok (.getfield 22, 3) := by decide +kernel
theorem dX8_isFull_4 : decode cX8_isFull 4 = .ok (.aload_n 0, 1) := by decide +kernel
theorem dX8_isFull_5 : decode cX8_isFull 5 = .ok (.getfield 19, 3) := by decide +kernel
theorem dX8_isFull_8 : decode cX8_isFull 8 = .ok (.iload_n 1, 1) := by decide +kernel
theorem dX8_isFull_9 : decode cX8_isFull 9 = .ok (.iaload, 1) := by decide +kernel
theorem dX8_isFull_10 : decode cX8_isFull 10 = .ok (.iaload, 1) := by decide +kernel
theorem dX8_isFull_11 : decode cX8_isFull 11 = .ok (.aload_n 0, 1) := by decide +kernel
theorem dX8_isFull_12 : decode cX8_isFull 12 = .ok (.getfield 13, 3) := by decide +kernel
theorem dX8_isFull_15 : decode cX8_isFull 15 = .ok (.iload_n 1, 1) := by decide +kernel
theorem dX8_isFull_16 : decode cX8_isFull 16 = .ok (.iaload, 1) := by decide +kernel
theorem dX8_isFull_17 : decode cX8_isFull 17 = .ok (.if_icmp .lt 7, 3) := by decide +kernel
theorem dX8_isFull_20 : decode cX8_isFull 20 = .ok (.iconst 1, 1) := by decide +kernel
theorem dX8_isFull_21 : decode cX8_isFull 21 = .ok (.goto 4, 3) := by decide +kernel
theorem dX8_isFull_24 : decode cX8_isFull 24 = .ok (.iconst 0, 1) := by decide +kernel
theorem dX8_isFull_25 : decode cX8_isFull 25 = .ok (.ireturn, 1) := by decide +kernel
set_option maxRecDepth 20000 in
theorem ggX8_tenthsOf_X8_tenthsIn : GoodIn wsX8_tenthsOf wsX8_tenthsIn := goodIn_r _ [5, 6, 7, 8, 4, 9, 26, 27, 28, 29, 30, 31, 32, 33, 34, 35, 36, 37, 38, 39, 40, 41, 42, 43, 44, 45, 46, 47, 48, 49, 50, 51, 52, 53, 54, 55, 56, 57, 58, 59, 60, 61, 62, 63, 64, 65, 66, 67] (by decide +kernel) (by decide +kernel)
set_option maxRecDepth 20000 in
theorem gX8_tenthsOf_X8_tenthsIn : GoodIn wsX8_tenthsOf (wsV RX8 148 RX8 yX8_tenthsIn wsX8_tenthsIn) := goodIn_app (goodIn_of _ (by decide +kernel)) ggX8_tenthsOf_X8_tenthsIn
set_option maxRecDepth 20000 in
theorem ggX8_tenthsOf_X8_nextOf : GoodIn wsX8_tenthsOf wsX8_nextOf := goodIn_r _ [13, 14, 26, 27, 28, 29, 30, 31, 32, 33, 34, 35, 36, 37, 38, 39, 40, 41, 42, 43, 44, 45, 46, 47, 48, 49, 50, 51, 52, 53, 54, 55, 56, 57, 58, 59, 60, 61, 62, 63, 64, 65, 66, 67] (by decide +kernel) (by decide +kernel)
set_option maxRecDepth 20000 in
theorem gX8_tenthsOf_X8_nextOf : GoodIn wsX8_tenthsOf (wsV RX8 151 RX8 yX8_nextOf wsX8_nextOf) := goodIn_app (goodIn_of _ (by decide +kernel)) ggX8_tenthsOf_X8_nextOf
set_option maxRecDepth 20000 in
theorem ggX8_tenthsOf_X8_isFull : GoodIn wsX8_tenthsOf wsX8_isFull := goodIn_r _ [18, 19, 20, 21, 26, 27, 28, 29, 30, 31, 32, 33, 34, 35, 36, 37, 38, 39, 40, 41, 42, 43, 44, 45, 46, 47, 48, 49, 50, 51, 52, 53, 54, 55, 56, 57, 58, 59, 60, 61, 62, 63, 64, 65, 66, 67] (by decide +kernel) (by decide +kernel)
set_option maxRecDepth 20000 in
theorem gX8_tenthsOf_X8_isFull : GoodIn wsX8_tenthsOf (wsV RX8 154 RX8 yX8_isFull wsX8_isFull) := goodIn_app (goodIn_of _ (by decide +kernel)) ggX8_tenthsOf_X8_isFull
set_option maxRecDepth 20000 in
theorem ggX8_tenthsOf_X8_tenthsNext : GoodIn wsX8_tenthsOf wsX8_tenthsNext := goodIn_r _ [25, 1, 2, 3, 4, 5, 6, 7, 8, 9, 26, 27, 28, 29, 30, 31, 32, 33, 34, 35, 36, 37, 38, 39, 40, 41, 42, 43, 44, 45, 46, 47, 48, 49, 50, 51, 52, 53, 54, 55, 56, 57, 58, 59, 60, 61, 62, 63, 64, 65, 66, 67] (by decide +kernel) (by decide +kernel)
set_option maxRecDepth 20000 in
theorem gX8_tenthsOf_X8_tenthsNext : GoodIn wsX8_tenthsOf (wsV RX8 157 RX8 yX8_tenthsNext wsX8_tenthsNext) := goodIn_app (goodIn_of _ (by decide +kernel)) ggX8_tenthsOf_X8_tenthsNext
theorem dX8_tenthsOf_0 : decode cX8_tenthsOf 0 = .ok (.aload_n 0, 1) := by decide +kernel
theorem dX8_tenthsOf_1 : decode cX8_tenthsOf 1 = .ok (.iload_n 1, 1) := by decide +kernel
theorem dX8_tenthsOf_2 : decode cX8_tenthsOf 2 = .ok (.iload_n 2, 1) := by decide +kernel
theorem dX8_tenthsOf_3 : decode cX8_tenthsOf 3 = .ok (.invokevirtual 148, 3) := by decide +kernel
theorem dX8_tenthsOf_6 : decode cX8_tenthsOf 6 = .ok (.istore 4, 2) := by decide +kernel
theorem dX8_tenthsOf_8 : decode cX8_tenthsOf 8 = .ok (.aload_n 0, 1) := by decide +kernel
theorem dX8_tenthsOf_9 : decode cX8_tenthsOf 9 = .ok (.aload_n 0, 1) := by decide +kernel
theorem dX8_tenthsOf_10 : decode cX8_tenthsOf 10 = .ok (.iload_n 2, 1) := by decide +kernel
theorem dX8_tenthsOf_11 : decode cX8_tenthsOf 11 = .ok (.invokevirtual 151, 3) := by decide +kernel
theorem dX8_tenthsOf_14 : decode cX8_tenthsOf 14 = .ok (.invokevirtual 154, 3) := by decide +kernel
theorem dX8_tenthsOf_17 : decode cX8_tenthsOf 17 = .ok (.ifCond .eq 7, 3) := by decide +kernel
theorem dX8_tenthsOf_20 : decode cX8_tenthsOf 20 = .ok (.iconst 0, 1) := by decide +kernel
theorem dX8_tenthsOf_21 : decode cX8_tenthsOf 21 = .ok (.goto 9, 3) := by decide +kernel
theorem dX8_tenthsOf_24 : decode cX8_tenthsOf 24 = .ok (.aload_n 0, 1) := by decide +kernel
theorem dX8_tenthsOf_25 : decode cX8_tenthsOf 25 = .ok (.iload_n 1, 1) := by decide +kernel
theorem dX8_tenthsOf_26 : decode cX8_tenthsOf 26 = .ok (.iload_n 2, 1) := by decide +kernel
theorem dX8_tenthsOf_27 : decode cX8_tenthsOf 27 = .ok (.invokevirtual 157, 3) := by decide +kernel
theorem dX8_tenthsOf_30 : decode cX8_tenthsOf 30 = .ok (.istore 5, 2) := by decide +kernel
theorem dX8_tenthsOf_32 : decode cX8_tenthsOf 32 = .ok (.iload_n 3, 1) := by decide +kernel
theorem dX8_tenthsOf_33 : decode cX8_tenthsOf 33 = .ok (.ifCond .ne 8, 3) := by decide +kernel
theorem dX8_tenthsOf_36 : decode cX8_tenthsOf 36 = .ok (.iload 4, 2) := by decide +kernel
theorem dX8_tenthsOf_38 : decode cX8_tenthsOf 38 = .ok (.goto 21, 3) := by decide +kernel
theorem dX8_tenthsOf_41 : decode cX8_tenthsOf 41 = .ok (.iload_n 3, 1) := by decide +kernel
theorem dX8_tenthsOf_42 : decode cX8_tenthsOf 42 = .ok (.iconst 1, 1) := by decide +kernel
theorem dX8_tenthsOf_43 : decode cX8_tenthsOf 43 = .ok (.if_icmp .ne 8, 3) := by decide +kernel
theorem dX8_tenthsOf_46 : decode cX8_tenthsOf 46 = .ok (.iload 5, 2) := by decide +kernel
theorem dX8_tenthsOf_48 : decode cX8_tenthsOf 48 = .ok (.goto 11, 3) := by decide +kernel
theorem dX8_tenthsOf_51 : decode cX8_tenthsOf 51 = .ok (.bipush 10, 2) := by decide +kernel
theorem dX8_tenthsOf_53 : decode cX8_tenthsOf 53 = .ok (.iload 4, 2) := by decide +kernel
theorem dX8_tenthsOf_55 : decode cX8_tenthsOf 55 = .ok (.isub, 1) := by decide +kernel
theorem dX8_tenthsOf_56 : decode cX8_tenthsOf 56 = .ok (.iload 5, 2) := by decide +kernel
theorem dX8_tenthsOf_58 : decode cX8_tenthsOf 58 = .ok (.isub, 1) := by decide +kernel
theorem dX8_tenthsOf_59 : decode cX8_tenthsOf 59 = .ok (.ireturn, 1) := by decide +kernel
theorem dX8_walk_0 : decode cX8_walk 0 = .ok (.iconst 2, 1) := by decide +kernel
theorem dX8_walk_1 : decode cX8_walk 1 = .ok (.aload_n 0, 1) := by decide +kernel
theorem dX8_walk_2 : decode cX8_walk 2 = .ok (.getfield 7, 3) := by decide +kernel
theorem dX8_walk_5 : decode cX8_walk 5 = .ok (.iload_n 1, 1) := by decide +kernel
theorem dX8_walk_6 : decode cX8_walk 6 = .ok (.iaload, 1) := by decide +kernel
theorem dX8_walk_7 : decode cX8_walk 7 = .ok (.imul, 1) := by decide +kernel
theorem dX8_walk_8 : decode cX8_walk 8 = .ok (.iconst 3, 1) := by decide +kernel
theorem dX8_walk_9 : decode cX8_walk 9 = .ok (.iadd, 1) := by decide +kernel
theorem dX8_walk_10 : decode cX8_walk 10 = .ok (.ireturn, 1) := by decide +kernel
theorem dX8_comes_0 : decode cX8_comes 0 = .ok (.aload_n 0, 1) := by decide +kernel
theorem dX8_comes_1 : decode cX8_comes 1 = .ok (.getfield 19, 3) := by decide +kernel
theorem dX8_comes_4 : decode cX8_comes 4 = .ok (.iload_n 1, 1) := by decide +kernel
theorem dX8_comes_5 : decode cX8_comes 5 = .ok (.iaload, 1) := by decide +kernel
theorem dX8_comes_6 : decode cX8_comes 6 = .ok (.istore_n 3, 1) := by decide +kernel
theorem dX8_comes_7 : decode cX8_comes 7 = .ok (.aload_n 0, 1) := by decide +kernel
theorem dX8_comes_8 : decode cX8_comes 8 = .ok (.getfield 34, 3) := by decide +kernel
theorem dX8_comes_11 : decode cX8_comes 11 = .ok (.iconst 0, 1) := by decide +kernel
theorem dX8_comes_12 : decode cX8_comes 12 = .ok (.iaload, 1) := by decide +kernel
theorem dX8_comes_13 : decode cX8_comes 13 = .ok (.istore 4, 2) := by decide +kernel
theorem dX8_comes_15 : decode cX8_comes 15 = .ok (.aload_n 0, 1) := by decide +kernel
theorem dX8_comes_16 : decode cX8_comes 16 = .ok (.getfield 22, 3) := by decide +kernel
theorem dX8_comes_19 : decode cX8_comes 19 = .ok (.iload_n 3, 1) := by decide +kernel
theorem dX8_comes_20 : decode cX8_comes 20 = .ok (.dup2, 1) := by decide +kernel
theorem dX8_comes_21 : decode cX8_comes 21 = .ok (.iaload, 1) := by decide +kernel
theorem dX8_comes_22 : decode cX8_comes 22 = .ok (.iconst 1, 1) := by decide +kernel
theorem dX8_comes_23 : decode cX8_comes 23 = .ok (.iadd, 1) := by decide +kernel
theorem dX8_comes_24 : decode cX8_comes 24 = .ok (.iastore, 1) := by decide +kernel
theorem dX8_comes_25 : decode cX8_comes 25 = .ok (.aload_n 0, 1) := by decide +kernel
theorem dX8_comes_26 : decode cX8_comes 26 = .ok (.getfield 25, 3) := by decide +kernel
theorem dX8_comes_29 : decode cX8_comes 29 = .ok (.iload_n 3, 1) := by decide +kernel
theorem dX8_comes_30 : decode cX8_comes 30 = .ok (.dup2, 1) := by decide +kernel
theorem dX8_comes_31 : decode cX8_comes 31 = .ok (.iaload, 1) := by decide +kernel
theorem dX8_comes_32 : decode cX8_comes 32 = .ok (.aload_n 0, 1) := by decide +kernel
theorem dX8_comes_33 : decode cX8_comes 33 = .ok (.getfield 37, 3) := by decide +kernel
theorem dX8_comes_36 : decode cX8_comes 36 = .ok (.iconst 0, 1) := by decide +kernel
theorem dX8_comes_37 : decode cX8_comes 37 = .ok (.iaload, 1) := by decide +kernel
theorem dX8_comes_38 : decode cX8_comes 38 = .ok (.iload_n 3, 1) := by decide +kernel
theorem dX8_comes_39 : decode cX8_comes 39 = .ok (.if_icmp .ne 7, 3) := by decide +kernel
theorem dX8_comes_42 : decode cX8_comes 42 = .ok (.iconst 0, 1) := by decide +kernel
theorem dX8_comes_43 : decode cX8_comes 43 = .ok (.goto 4, 3) := by decide +kernel
theorem dX8_comes_46 : decode cX8_comes 46 = .ok (.iconst 1, 1) := by decide +kernel
theorem dX8_comes_47 : decode cX8_comes 47 = .ok (.iadd, 1) := by decide +kernel
theorem dX8_comes_48 : decode cX8_comes 48 = .ok (.iastore, 1) := by decide +kernel
theorem dX8_comes_49 : decode cX8_comes 49 = .ok (.iload 4, 2) := by decide +kernel
theorem dX8_comes_51 : decode cX8_comes 51 = .ok (.iconst 4, 1) := by decide +kernel
theorem dX8_comes_52 : decode cX8_comes 52 = .ok (.if_icmp .ne 25, 3) := by decide +kernel
theorem dX8_comes_55 : decode cX8_comes 55 = .ok (.aload_n 0, 1) := by decide +kernel
theorem dX8_comes_56 : decode cX8_comes 56 = .ok (.dup, 1) := by decide +kernel
theorem dX8_comes_57 : decode cX8_comes 57 = .ok (.getfield 124, 3) := by decide +kernel
theorem dX8_comes_60 : decode cX8_comes 60 = .ok (.aload_n 0, 1) := by decide +kernel
theorem dX8_comes_61 : decode cX8_comes 61 = .ok (.getfield 31, 3) := by decide +kernel
theorem dX8_comes_64 : decode cX8_comes 64 = .ok (.iload_n 3, 1) := by decide +kernel
theorem dX8_comes_65 : decode cX8_comes 65 = .ok (.iaload, 1) := by decide +kernel
theorem dX8_comes_66 : decode cX8_comes 66 = .ok (.iadd, 1) := by decide +kernel
theorem dX8_comes_67 : decode cX8_comes 67 = .ok (.putfield 124, 3) := by decide +kernel
theorem dX8_comes_70 : decode cX8_comes 70 = .ok (.aload_n 0, 1) := by decide +kernel
theorem dX8_comes_71 : decode cX8_comes 71 = .ok (.getfield 31, 3) := by decide +kernel
theorem dX8_comes_74 : decode cX8_comes 74 = .ok (.iload_n 3, 1) := by decide +kernel
theorem dX8_comes_75 : decode cX8_comes 75 = .ok (.iconst 0, 1) := by decide +kernel
theorem dX8_comes_76 : decode cX8_comes 76 = .ok (.iastore, 1) := by decide +kernel
theorem dX8_comes_77 : decode cX8_comes 77 = .ok (.iload 4, 2) := by decide +kernel
theorem dX8_comes_79 : decode cX8_comes 79 = .ok (.iconst 3, 1) := by decide +kernel
theorem dX8_comes_80 : decode cX8_comes 80 = .ok (.if_icmp .ne 49, 3) := by decide +kernel
theorem dX8_comes_83 : decode cX8_comes 83 = .ok (.aload_n 0, 1) := by decide +kernel
theorem dX8_comes_84 : decode cX8_comes 84 = .ok (.getfield 28, 3) := by decide +kernel
theorem dX8_comes_87 : decode cX8_comes 87 = .ok (.iload_n 3, 1) := by decide +kernel
theorem dX8_comes_88 : decode cX8_comes 88 = .ok (.dup2, 1) := by decide +kernel
theorem dX8_comes_89 : decode cX8_comes 89 = .ok (.iaload, 1) := by decide +kernel
theorem dX8_comes_90 : decode cX8_comes 90 = .ok (.iconst 1, 1) := by decide +kernel
theorem dX8_comes_91 : decode cX8_comes 91 = .ok (.iadd, 1) := by decide +kernel
theorem dX8_comes_92 : decode cX8_comes 92 = .ok (.iastore, 1) := by decide +kernel
theorem dX8_comes_93 : decode cX8_comes 93 = .ok (.aload_n 0, 1) := by decide +kernel
theorem dX8_comes_94 : decode cX8_comes 94 = .ok (.dup, 1) := by decide +kernel
theorem dX8_comes_95 : decode cX8_comes 95 = .ok (.getfield 124, 3) := by decide +kernel
theorem dX8_comes_98 : decode cX8_comes 98 = .ok (.iload_n 2, 1) := by decide +kernel
theorem dX8_comes_99 : decode cX8_comes 99 = .ok (.ifCond .eq 7, 3) := by decide +kernel
theorem dX8_comes_102 : decode cX8_comes 102 = .ok (.iconst 1, 1) := by decide +kernel
theorem dX8_comes_103 : decode cX8_comes 103 = .ok (.goto 4, 3) := by decide +kernel
theorem dX8_comes_106 : decode cX8_comes 106 = .ok (.iconst 0, 1) := by decide +kernel
theorem dX8_comes_107 : decode cX8_comes 107 = .ok (.iadd, 1) := by decide +kernel
theorem dX8_comes_108 : decode cX8_comes 108 = .ok (.putfield 124, 3) := by decide +kernel
theorem dX8_comes_111 : decode cX8_comes 111 = .ok (.aload_n 0, 1) := by decide +kernel
theorem dX8_comes_112 : decode cX8_comes 112 = .ok (.getfield 31, 3) := by decide +kernel
