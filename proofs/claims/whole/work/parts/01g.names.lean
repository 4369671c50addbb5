theorem dX8_comes_115 : decode cX8_comes 115 = .ok (.iload_n 3, 1) := by decide +kernel
theorem dX8_comes_116 : decode cX8_comes 116 = .ok (.dup2, 1) := by decide +kernel
theorem dX8_comes_117 : decode cX8_comes 117 = .ok (.iaload, 1) := by decide +kernel
theorem dX8_comes_118 : decode cX8_comes 118 = .ok (.iload_n 2, 1) := by decide +kernel
theorem dX8_comes_119 : decode cX8_comes 119 = .ok (.ifCond .eq 7, 3) := by decide +kernel
theorem dX8_comes_122 : decode cX8_comes 122 = .ok (.iconst 0, 1) := by decide +kernel
theorem dX8_comes_123 : decode cX8_comes 123 = .ok (.goto 4, 3) := by decide +kernel
theorem dX8_comes_126 : decode cX8_comes 126 = .ok (.iconst 1, 1) := by decide +kernel
theorem dX8_comes_127 : decode cX8_comes 127 = .ok (.iadd, 1) := by decide +kernel
theorem dX8_comes_128 : decode cX8_comes 128 = .ok (.iastore, 1) := by decide +kernel
theorem dX8_comes_129 : decode cX8_comes 129 = .ok (.aload_n 0, 1) := by decide +kernel
theorem dX8_comes_130 : decode cX8_comes 130 = .ok (.dup, 1) := by decide +kernel
theorem dX8_comes_131 : decode cX8_comes 131 = .ok (.getfield 118, 3) := by decide +kernel
theorem dX8_comes_134 : decode cX8_comes 134 = .ok (.iconst 1, 1) := by decide +kernel
theorem dX8_comes_135 : decode cX8_comes 135 = .ok (.isub, 1) := by decide +kernel
theorem dX8_comes_136 : decode cX8_comes 136 = .ok (.putfield 118, 3) := by decide +kernel
theorem dX8_comes_139 : decode cX8_comes 139 = .ok (.iconst 0, 1) := by decide +kernel
theorem dX8_comes_140 : decode cX8_comes 140 = .ok (.istore 5, 2) := by decide +kernel
theorem dX8_comes_142 : decode cX8_comes 142 = .ok (.iload 5, 2) := by decide +kernel
theorem dX8_comes_144 : decode cX8_comes 144 = .ok (.aload_n 0, 1) := by decide +kernel
theorem dX8_comes_145 : decode cX8_comes 145 = .ok (.getfield 118, 3) := by decide +kernel
theorem dX8_comes_148 : decode cX8_comes 148 = .ok (.if_icmp .ge 41, 3) := by decide +kernel
theorem dX8_comes_151 : decode cX8_comes 151 = .ok (.aload_n 0, 1) := by decide +kernel
theorem dX8_comes_152 : decode cX8_comes 152 = .ok (.getfield 34, 3) := by decide +kernel
theorem dX8_comes_155 : decode cX8_comes 155 = .ok (.iload 5, 2) := by decide +kernel
theorem dX8_comes_157 : decode cX8_comes 157 = .ok (.aload_n 0, 1) := by decide +kernel
theorem dX8_comes_158 : decode cX8_comes 158 = .ok (.getfield 34, 3) := by decide +kernel
theorem dX8_comes_161 : decode cX8_comes 161 = .ok (.iload 5, 2) := by decide +kernel
theorem dX8_comes_163 : decode cX8_comes 163 = .ok (.iconst 1, 1) := by decide +kernel
theorem dX8_comes_164 : decode cX8_comes 164 = .ok (.iadd, 1) := by decide +kernel
theorem dX8_comes_165 : decode cX8_comes 165 = .ok (.iaload, 1) := by decide +kernel
theorem dX8_comes_166 : decode cX8_comes 166 = .ok (.iastore, 1) := by decide +kernel
theorem dX8_comes_167 : decode cX8_comes 167 = .ok (.aload_n 0, 1) := by decide +kernel
theorem dX8_comes_168 : decode cX8_comes 168 = .ok (.getfield 37, 3) := by decide +kernel
theorem dX8_comes_171 : decode cX8_comes 171 = .ok (.iload 5, 2) := by decide +kernel
theorem dX8_comes_173 : decode cX8_comes 173 = .ok (.aload_n 0, 1) := by decide +kernel
theorem dX8_comes_174 : decode cX8_comes 174 = .ok (.getfield 37, 3) := by decide +kernel
theorem dX8_comes_177 : decode cX8_comes 177 = .ok (.iload 5, 2) := by decide +kernel
theorem dX8_comes_179 : decode cX8_comes 179 = .ok (.iconst 1, 1) := by decide +kernel
theorem dX8_comes_180 : decode cX8_comes 180 = .ok (.iadd, 1) := by decide +kernel
theorem dX8_comes_181 : decode cX8_comes 181 = .ok (.iaload, 1) := by decide +kernel
theorem dX8_comes_182 : decode cX8_comes 182 = .ok (.iastore, 1) := by decide +kernel
theorem dX8_comes_183 : decode cX8_comes 183 = .ok (.iinc 5 1, 3) := by decide +kernel
theorem dX8_comes_186 : decode cX8_comes 186 = .ok (.goto (-44), 3) := by decide +kernel
theorem dX8_comes_189 : decode cX8_comes 189 = .ok (.return_, 1) := by decide +kernel
set_option maxRecDepth 20000 in
theorem ggX8_toss_X8_isHook : GoodIn wsX8_toss wsX8_isHook := goodIn_r _ [8, 9, 10, 11, 7, 12, 53, 54, 55, 56, 57, 58, 59, 60, 61, 62, 63, 64, 65, 66, 67, 68, 69, 70, 71, 72, 73, 74, 75, 76, 77, 78, 79, 80, 81, 82, 83, 84, 85, 86, 87, 88, 89, 90, 91, 92, 93, 94] (by decide +kernel) (by decide +kernel)
set_option maxRecDepth 20000 in
theorem gX8_toss_X8_isHook : GoodIn wsX8_toss (wsV RX8 130 RX8 yX8_isHook wsX8_isHook) := goodIn_app (goodIn_of _ (by decide +kernel)) ggX8_toss_X8_isHook
set_option maxRecDepth 20000 in
theorem ggX8_toss_X8_within : GoodIn wsX8_toss wsX8_within := goodIn_r _ [12] (by decide +kernel) (by decide +kernel)
set_option maxRecDepth 20000 in
theorem gX8_toss_X8_within : GoodIn wsX8_toss (va_wsS RX8 77 yX8_within wsX8_within) := goodIn_app (goodIn_of _ (by decide +kernel)) ggX8_toss_X8_within
set_option maxRecDepth 20000 in
theorem ggX8_toss_X8_isFull : GoodIn wsX8_toss wsX8_isFull := goodIn_r _ [16, 17, 18, 19, 53, 54, 55, 56, 57, 58, 59, 60, 61, 62, 63, 64, 65, 66, 67, 68, 69, 70, 71, 72, 73, 74, 75, 76, 77, 78, 79, 80, 81, 82, 83, 84, 85, 86, 87, 88, 89, 90, 91, 92, 93, 94] (by decide +kernel) (by decide +kernel)
set_option maxRecDepth 20000 in
theorem gX8_toss_X8_isFull : GoodIn wsX8_toss (wsV RX8 154 RX8 yX8_isFull wsX8_isFull) := goodIn_app (goodIn_of _ (by decide +kernel)) ggX8_toss_X8_isFull
set_option maxRecDepth 20000 in
theorem ggX8_toss_X8_tenthsOf : GoodIn wsX8_toss wsX8_tenthsOf := goodIn_r _ [23, 24, 25, 26, 7, 27, 28, 29, 30, 31, 32, 33, 34, 35, 9, 13, 14, 15, 16, 17, 18, 19, 36, 37, 38, 39, 53, 54, 55, 56, 57, 58, 59, 60, 61, 62, 63, 64, 65, 66, 67, 68, 69, 70, 71, 72, 73, 74, 75, 76, 77, 78, 79, 80, 81, 82, 83, 84, 85, 86, 87, 88, 89, 90, 91, 92, 93, 94] (by decide +kernel) (by decide +kernel)
set_option maxRecDepth 20000 in
theorem gX8_toss_X8_tenthsOf : GoodIn wsX8_toss (wsV RX8 160 RX8 yX8_tenthsOf wsX8_tenthsOf) := goodIn_app (goodIn_of _ (by decide +kernel)) ggX8_toss_X8_tenthsOf
set_option maxRecDepth 20000 in
theorem ggX8_toss_X8_nextOf : GoodIn wsX8_toss wsX8_nextOf := goodIn_r _ [35, 9, 53, 54, 55, 56, 57, 58, 59, 60, 61, 62, 63, 64, 65, 66, 67, 68, 69, 70, 71, 72, 73, 74, 75, 76, 77, 78, 79, 80, 81, 82, 83, 84, 85, 86, 87, 88, 89, 90, 91, 92, 93, 94] (by decide +kernel) (by decide +kernel)
set_option maxRecDepth 20000 in
theorem gX8_toss_X8_nextOf : GoodIn wsX8_toss (wsV RX8 151 RX8 yX8_nextOf wsX8_nextOf) := goodIn_app (goodIn_of _ (by decide +kernel)) ggX8_toss_X8_nextOf
set_option maxRecDepth 20000 in
theorem ggX8_toss_X8_walk : GoodIn wsX8_toss wsX8_walk := goodIn_r _ [43, 28, 53, 54, 55, 56, 57, 58, 59, 60, 61, 62, 63, 64, 65, 66, 67, 68, 69, 70, 71, 72, 73, 74, 75, 76, 77, 78, 79, 80, 81, 82, 83, 84, 85, 86, 87, 88, 89, 90, 91, 92, 93, 94] (by decide +kernel) (by decide +kernel)
set_option maxRecDepth 20000 in
theorem gX8_toss_X8_walk : GoodIn wsX8_toss (wsV RX8 164 RX8 yX8_walk wsX8_walk) := goodIn_app (goodIn_of _ (by decide +kernel)) ggX8_toss_X8_walk
set_option maxRecDepth 20000 in
theorem ggX8_toss_X8_comes : GoodIn wsX8_toss wsX8_comes := goodIn_r _ [47, 18, 2, 17, 48, 49, 50, 51, 52, 1, 53, 54, 55, 56, 57, 58, 59, 60, 61, 62, 63, 64, 65, 66, 67, 68, 69, 70, 71, 72, 73, 74, 75, 76, 77, 78, 79, 80, 81, 82, 83, 84, 85, 86, 87, 88, 89, 90, 91, 92, 93, 94] (by decide +kernel) (by decide +kernel)
set_option maxRecDepth 20000 in
theorem gX8_toss_X8_comes : GoodIn wsX8_toss (wsV RX8 167 RX8 yX8_comes wsX8_comes) := goodIn_app (goodIn_of _ (by decide +kernel)) ggX8_toss_X8_comes
theorem dX8_toss_0 : decode cX8_toss 0 = .ok (.aload_n 0, 1) := by decide +kernel
theorem dX8_toss_1 : decode cX8_toss 1 = .ok (.iload_n 1, 1) := by decide +kernel
theorem dX8_toss_2 : decode cX8_toss 2 = .ok (.invokevirtual 130, 3) := by decide +kernel
theorem dX8_toss_5 : decode cX8_toss 5 = .ok (.ifCond .ne 6, 3) := by decide +kernel
theorem dX8_toss_8 : decode cX8_toss 8 = .ok (.bipush (-101), 2) := by decide +kernel
theorem dX8_toss_10 : decode cX8_toss 10 = .ok (.ireturn, 1) := by decide +kernel
theorem dX8_toss_11 : decode cX8_toss 11 = .ok (.iload_n 2, 1) := by decide +kernel
theorem dX8_toss_12 : decode cX8_toss 12 = .ok (.iconst 0, 1) := by decide +kernel
theorem dX8_toss_13 : decode cX8_toss 13 = .ok (.iconst 2, 1) := by decide +kernel
theorem dX8_toss_14 : decode cX8_toss 14 = .ok (.invokestatic 77, 3) := by decide +kernel
theorem dX8_toss_17 : decode cX8_toss 17 = .ok (.ifCond .ne 6, 3) := by decide +kernel
theorem dX8_toss_20 : decode cX8_toss 20 = .ok (.bipush (-102), 2) := by decide +kernel
theorem dX8_toss_22 : decode cX8_toss 22 = .ok (.ireturn, 1) := by decide +kernel
theorem dX8_toss_23 : decode cX8_toss 23 = .ok (.aload_n 0, 1) := by decide +kernel
theorem dX8_toss_24 : decode cX8_toss 24 = .ok (.getfield 118, 3) := by decide +kernel
theorem dX8_toss_27 : decode cX8_toss 27 = .ok (.ifCond .eq 26, 3) := by decide +kernel
theorem dX8_toss_30 : decode cX8_toss 30 = .ok (.aload_n 0, 1) := by decide +kernel
theorem dX8_toss_31 : decode cX8_toss 31 = .ok (.iload_n 1, 1) := by decide +kernel
theorem dX8_toss_32 : decode cX8_toss 32 = .ok (.invokevirtual 154, 3) := by decide +kernel
theorem dX8_toss_35 : decode cX8_toss 35 = .ok (.ifCond .ne 18, 3) := by decide +kernel
theorem dX8_toss_38 : decode cX8_toss 38 = .ok (.aload_n 0, 1) := by decide +kernel
theorem dX8_toss_39 : decode cX8_toss 39 = .ok (.aload_n 0, 1) := by decide +kernel
theorem dX8_toss_40 : decode cX8_toss 40 = .ok (.getfield 34, 3) := by decide +kernel
theorem dX8_toss_43 : decode cX8_toss 43 = .ok (.iconst 0, 1) := by decide +kernel
theorem dX8_toss_44 : decode cX8_toss 44 = .ok (.iaload, 1) := by decide +kernel
theorem dX8_toss_45 : decode cX8_toss 45 = .ok (.iload_n 1, 1) := by decide +kernel
theorem dX8_toss_46 : decode cX8_toss 46 = .ok (.iload_n 2, 1) := by decide +kernel
theorem dX8_toss_47 : decode cX8_toss 47 = .ok (.invokevirtual 160, 3) := by decide +kernel
theorem dX8_toss_50 : decode cX8_toss 50 = .ok (.ifCond .ne 6, 3) := by decide +kernel
theorem dX8_toss_53 : decode cX8_toss 53 = .ok (.bipush (-103), 2) := by decide +kernel
theorem dX8_toss_55 : decode cX8_toss 55 = .ok (.ireturn, 1) := by decide +kernel
theorem dX8_toss_56 : decode cX8_toss 56 = .ok (.iload_n 2, 1) := by decide +kernel
theorem dX8_toss_57 : decode cX8_toss 57 = .ok (.iconst 1, 1) := by decide +kernel
theorem dX8_toss_58 : decode cX8_toss 58 = .ok (.if_icmp .ne 11, 3) := by decide +kernel
theorem dX8_toss_61 : decode cX8_toss 61 = .ok (.aload_n 0, 1) := by decide +kernel
theorem dX8_toss_62 : decode cX8_toss 62 = .ok (.iload_n 1, 1) := by decide +kernel
theorem dX8_toss_63 : decode cX8_toss 63 = .ok (.invokevirtual 151, 3) := by decide +kernel
theorem dX8_toss_66 : decode cX8_toss 66 = .ok (.goto 4, 3) := by decide +kernel
theorem dX8_toss_69 : decode cX8_toss 69 = .ok (.iload_n 1, 1) := by decide +kernel
theorem dX8_toss_70 : decode cX8_toss 70 = .ok (.istore_n 3, 1) := by decide +kernel
theorem dX8_toss_71 : decode cX8_toss 71 = .ok (.aload_n 0, 1) := by decide +kernel
theorem dX8_toss_72 : decode cX8_toss 72 = .ok (.dup, 1) := by decide +kernel
theorem dX8_toss_73 : decode cX8_toss 73 = .ok (.getfield 121, 3) := by decide +kernel
theorem dX8_toss_76 : decode cX8_toss 76 = .ok (.iconst 2, 1) := by decide +kernel
theorem dX8_toss_77 : decode cX8_toss 77 = .ok (.iload_n 2, 1) := by decide +kernel
theorem dX8_toss_78 : decode cX8_toss 78 = .ok (.iconst 2, 1) := by decide +kernel
theorem dX8_toss_79 : decode cX8_toss 79 = .ok (.if_icmp .ne 11, 3) := by decide +kernel
theorem dX8_toss_82 : decode cX8_toss 82 = .ok (.aload_n 0, 1) := by decide +kernel
theorem dX8_toss_83 : decode cX8_toss 83 = .ok (.iload_n 1, 1) := by decide +kernel
theorem dX8_toss_84 : decode cX8_toss 84 = .ok (.invokevirtual 164, 3) := by decide +kernel
theorem dX8_toss_87 : decode cX8_toss 87 = .ok (.goto 4, 3) := by decide +kernel
theorem dX8_toss_90 : decode cX8_toss 90 = .ok (.iconst 0, 1) := by decide +kernel
theorem dX8_toss_91 : decode cX8_toss 91 = .ok (.iadd, 1) := by decide +kernel
theorem dX8_toss_92 : decode cX8_toss 92 = .ok (.iadd, 1) := by decide +kernel
theorem dX8_toss_93 : decode cX8_toss 93 = .ok (.putfield 121, 3) := by decide +kernel
theorem dX8_toss_96 : decode cX8_toss 96 = .ok (.aload_n 0, 1) := by decide +kernel
theorem dX8_toss_97 : decode cX8_toss 97 = .ok (.iload_n 3, 1) := by decide +kernel
theorem dX8_toss_98 : decode cX8_toss 98 = .ok (.iload_n 2, 1) := by decide +kernel
theorem dX8_toss_99 : decode cX8_toss 99 = .ok (.iconst 2, 1) := by decide +kernel
theorem dX8_toss_100 : decode cX8_toss 100 = .ok (.if_icmp .ge 7, 3) := by decide +kernel
theorem dX8_toss_103 : decode cX8_toss 103 = .ok (.iconst 1, 1) := by decide +kernel
theorem dX8_toss_104 : decode cX8_toss 104 = .ok (.goto 4, 3) := by decide +kernel
theorem dX8_toss_107 : decode cX8_toss 107 = .ok (.iconst 0, 1) := by decide +kernel
theorem dX8_toss_108 : decode cX8_toss 108 = .ok (.invokevirtual 167, 3) := by decide +kernel
theorem dX8_toss_111 : decode cX8_toss 111 = .ok (.iload_n 3, 1) := by decide +kernel
theorem dX8_toss_112 : decode cX8_toss 112 = .ok (.ireturn, 1) := by decide +kernel
set_option maxRecDepth 20000 in
theorem ggX8_carry_X8_isHook : GoodIn wsX8_carry wsX8_isHook := goodIn_r _ [7, 8, 9, 10, 6, 11, 34, 35, 36, 37, 38, 39, 40, 41, 42, 43, 44, 45, 46, 47, 48, 49, 50, 51, 52, 53, 54, 55, 56, 57, 58, 59, 60, 61, 62, 63, 64, 65, 66, 67, 68, 69, 70, 71, 72, 73, 74, 75] (by decide +kernel) (by decide +kernel)
set_option maxRecDepth 20000 in
theorem gX8_carry_X8_isHook : GoodIn wsX8_carry (wsV RX8 130 RX8 yX8_isHook wsX8_isHook) := goodIn_app (goodIn_of _ (by decide +kernel)) ggX8_carry_X8_isHook
set_option maxRecDepth 20000 in
theorem ggX8_carry_X8_isFull : GoodIn wsX8_carry wsX8_isFull := goodIn_r _ [15, 16, 17, 18, 34, 35, 36, 37, 38, 39, 40, 41, 42, 43, 44, 45, 46, 47, 48, 49, 50, 51, 52, 53, 54, 55, 56, 57, 58, 59, 60, 61, 62, 63, 64, 65, 66, 67, 68, 69, 70, 71, 72, 73, 74, 75] (by decide +kernel) (by decide +kernel)
set_option maxRecDepth 20000 in
theorem gX8_carry_X8_isFull : GoodIn wsX8_carry (wsV RX8 154 RX8 yX8_isFull wsX8_isFull) := goodIn_app (goodIn_of _ (by decide +kernel)) ggX8_carry_X8_isFull
set_option maxRecDepth 20000 in
theorem ggX8_carry_X8_walk : GoodIn wsX8_carry wsX8_walk := goodIn_r _ [22, 23, 34, 35, 36, 37, 38, 39, 40, 41, 42, 43, 44, 45, 46, 47, 48, 49, 50, 51, 52, 53, 54, 55, 56, 57, 58, 59, 60, 61, 62, 63, 64, 65, 66, 67, 68, 69, 70, 71, 72, 73, 74, 75] (by decide +kernel) (by decide +kernel)
set_option maxRecDepth 20000 in
theorem gX8_carry_X8_walk : GoodIn wsX8_carry (wsV RX8 164 RX8 yX8_walk wsX8_walk) := goodIn_app (goodIn_of _ (by decide +kernel)) ggX8_carry_X8_walk
set_option maxRecDepth 20000 in
theorem ggX8_carry_X8_comes : GoodIn wsX8_carry wsX8_comes := goodIn_r _ [27, 17, 28, 16, 29, 30, 31, 32, 33, 1, 34, 35, 36, 37, 38, 39, 40, 41, 42, 43, 44, 45, 46, 47, 48, 49, 50, 51, 52, 53, 54, 55, 56, 57, 58, 59, 60, 61, 62, 63, 64, 65, 66, 67, 68, 69, 70, 71, 72, 73, 74, 75] (by decide +kernel) (by decide +kernel)
set_option maxRecDepth 20000 in
theorem gX8_carry_X8_comes : GoodIn wsX8_carry (wsV RX8 167 RX8 yX8_comes wsX8_comes) := goodIn_app (goodIn_of _ (by decide +kernel)) ggX8_carry_X8_comes
theorem dX8_carry_0 : decode cX8_carry 0 = .ok (.aload_n 0, 1) := by decide +kernel
theorem dX8_carry_1 : decode cX8_carry 1 = .ok (.iload_n 1, 1) := by decide +kernel
theorem dX8_carry_2 : decode cX8_carry 2 = .ok (.invokevirtual 130, 3) := by decide +kernel
theorem dX8_carry_5 : decode cX8_carry 5 = .ok (.ifCond .ne 6, 3) := by decide +kernel
theorem dX8_carry_8 : decode cX8_carry 8 = .ok (.bipush (-101), 2) := by decide +kernel
theorem dX8_carry_10 : decode cX8_carry 10 = .ok (.ireturn, 1) := by decide +kernel
theorem dX8_carry_11 : decode cX8_carry 11 = .ok (.aload_n 0, 1) := by decide +kernel
theorem dX8_carry_12 : decode cX8_carry 12 = .ok (.getfield 118, 3) := by decide +kernel
theorem dX8_carry_15 : decode cX8_carry 15 = .ok (.ifCond .eq 11, 3) := by decide +kernel
theorem dX8_carry_18 : decode cX8_carry 18 = .ok (.aload_n 0, 1) := by decide +kernel
theorem dX8_carry_19 : decode cX8_carry 19 = .ok (.iload_n 1, 1) := by decide +kernel
theorem dX8_carry_20 : decode cX8_carry 20 = .ok (.invokevirtual 154, 3) := by decide +kernel
theorem dX8_carry_23 : decode cX8_carry 23 = .ok (.ifCond .eq 6, 3) := by decide +kernel
theorem dX8_carry_26 : decode cX8_carry 26 = .ok (.bipush (-103), 2) := by decide +kernel
theorem dX8_carry_28 : decode cX8_carry 28 = .ok (.ireturn, 1) := by decide +kernel
theorem dX8_carry_29 : decode cX8_carry 29 = .ok (.aload_n 0, 1) := by decide +kernel
theorem dX8_carry_30 : decode cX8_carry 30 = .ok (.dup, 1) := by decide +kernel
theorem dX8_carry_31 : decode cX8_carry 31 = .ok (.getfield 121, 3) := by decide +kernel
theorem dX8_carry_34 : decode cX8_carry 34 = .ok (.aload_n 0, 1) := by decide +kernel
theorem dX8_carry_35 : decode cX8_carry 35 = .ok (.iload_n 1, 1) := by decide +kernel
theorem dX8_carry_36 : decode cX8_carry 36 = .ok (.invokevirtual 164, 3) := by decide +kernel
theorem dX8_carry_39 : decode cX8_carry 39 = .ok (.iadd, 1) := by decide +kernel
theorem dX8_carry_40 : decode cX8_carry 40 = .ok (.putfield 121, 3) := by decide +kernel
theorem dX8_carry_43 : decode cX8_carry 43 = .ok (.aload_n 0, 1) := by decide +kernel
theorem dX8_carry_44 : decode cX8_carry 44 = .ok (.iload_n 1, 1) := by decide +kernel
theorem dX8_carry_45 : decode cX8_carry 45 = .ok (.iconst 0, 1) := by decide +kernel
theorem dX8_carry_46 : decode cX8_carry 46 = .ok (.invokevirtual 167, 3) := by decide +kernel
theorem dX8_carry_49 : decode cX8_carry 49 = .ok (.aload_n 0, 1) := by decide +kernel
theorem dX8_carry_50 : decode cX8_carry 50 = .ok (.getfield 121, 3) := by decide +kernel
theorem dX8_carry_53 : decode cX8_carry 53 = .ok (.ireturn, 1) := by decide +kernel
set_option maxRecDepth 20000 in
theorem ggX8_change_X8_isHook : GoodIn wsX8_change wsX8_isHook := goodIn_r _ [8, 9, 10, 11, 7, 12, 20, 21, 22, 23, 24, 25, 26, 27, 28, 29, 30, 31, 32, 33, 34, 35, 36, 37, 38, 39, 40, 41, 42, 43, 44, 45, 46, 47, 48, 49, 50, 51, 52, 53, 54, 55, 56, 57, 58, 59, 60, 61] (by decide +kernel) (by decide +kernel)
set_option maxRecDepth 20000 in
theorem gX8_change_X8_isHook : GoodIn wsX8_change (wsV RX8 130 RX8 yX8_isHook wsX8_isHook) := goodIn_app (goodIn_of _ (by decide +kernel)) ggX8_change_X8_isHook
set_option maxRecDepth 20000 in
theorem ggX8_change_X8_empty : GoodIn wsX8_change wsX8_empty := goodIn_r _ [16, 1, 17, 18, 19, 20, 21, 22, 23, 24, 25, 26, 27, 28, 29, 30, 31, 32, 33, 34, 35, 36, 37, 38, 39, 40, 41, 42, 43, 44, 45, 46, 47, 48, 49, 50, 51, 52, 53, 54, 55, 56, 57, 58, 59, 60, 61] (by decide +kernel) (by decide +kernel)
set_option maxRecDepth 20000 in
theorem gX8_change_X8_empty : GoodIn wsX8_change (wsV RX8 112 RX8 yX8_empty wsX8_empty) := goodIn_app (goodIn_of _ (by decide +kernel)) ggX8_change_X8_empty
theorem dX8_change_0 : decode cX8_change 0 = .ok (.aload_n 0, 1) := by decide +kernel
theorem dX8_change_1 : decode cX8_change 1 = .ok (.iload_n 1, 1) := by decide +kernel
theorem dX8_change_2 : decode cX8_change 2 = .ok (.invokevirtual 130, 3) := by decide +kernel
theorem dX8_change_5 : decode cX8_change 5 = .ok (.ifCond .ne 6, 3) := by decide +kernel
theorem dX8_change_8 : decode cX8_change 8 = .ok (.bipush (-101), 2) := by decide +kernel
theorem dX8_change_10 : decode cX8_change 10 = .ok (.ireturn, 1) := by decide +kernel
theorem dX8_change_11 : decode cX8_change 11 = .ok (.aload_n 0, 1) := by decide +kernel
theorem dX8_change_12 : decode cX8_change 12 = .ok (.getfield 22, 3) := by decide +kernel
theorem dX8_change_15 : decode cX8_change 15 = .ok (.aload_n 0, 1) := by decide +kernel
theorem dX8_change_16 : decode cX8_change 16 = .ok (.getfield 19, 3) := by decide +kernel
theorem dX8_change_19 : decode cX8_change 19 = .ok (.iload_n 1, 1) := by decide +kernel
theorem dX8_change_20 : decode cX8_change 20 = .ok (.iaload, 1) := by decide +kernel
theorem dX8_change_21 : decode cX8_change 21 = .ok (.iaload, 1) := by decide +kernel
theorem dX8_change_22 : decode cX8_change 22 = .ok (.istore_n 2, 1) := by decide +kernel
theorem dX8_change_23 : decode cX8_change 23 = .ok (.aload_n 0, 1) := by decide +kernel
theorem dX8_change_24 : decode cX8_change 24 = .ok (.aload_n 0, 1) := by decide +kernel
theorem dX8_change_25 : decode cX8_change 25 = .ok (.getfield 19, 3) := by decide +kernel
theorem dX8_change_28 : decode cX8_change 28 = .ok (.iload_n 1, 1) := by decide +kernel
theorem dX8_change_29 : decode cX8_change 29 = .ok (.iaload, 1) := by decide +kernel
theorem dX8_change_30 : decode cX8_change 30 = .ok (.invokevirtual 112, 3) := by decide +kernel
theorem dX8_change_33 : decode cX8_change 33 = .ok (.aload_n 0, 1) := by decide +kernel
theorem dX8_change_34 : decode cX8_change 34 = .ok (.dup, 1) := by decide +kernel
theorem dX8_change_35 : decode cX8_change 35 = .ok (.getfield 121, 3) := by decide +kernel
theorem dX8_change_38 : decode cX8_change 38 = .ok (.bipush 40, 2) := by decide +kernel
theorem dX8_change_40 : decode cX8_change 40 = .ok (.iadd, 1) := by decide +kernel
theorem dX8_change_41 : decode cX8_change 41 = .ok (.putfield 121, 3) := by decide +kernel
theorem dX8_change_44 : decode cX8_change 44 = .ok (.iload_n 2, 1) := by decide +kernel
theorem dX8_change_45 : decode cX8_change 45 = .ok (.ireturn, 1) := by decide +kernel
set_option maxRecDepth 20000 in
theorem ggX8_exchange_X8_isHook : GoodIn wsX8_exchange wsX8_isHook := goodIn_r _ [9, 10, 11, 12, 8, 13, 14, 15, 16, 17, 18, 19, 20, 21, 22, 23, 24, 25, 26, 27, 28, 29, 30, 31, 32, 33, 34, 35, 36, 37, 38, 39, 40, 41, 42, 43, 44, 45, 46, 47, 48, 49, 50, 51, 52, 53, 54, 55] (by decide +kernel) (by decide +kernel)
set_option maxRecDepth 20000 in
theorem gX8_exchange_X8_isHook : GoodIn wsX8_exchange (wsV RX8 130 RX8 yX8_isHook wsX8_isHook) := goodIn_app (goodIn_of _ (by decide +kernel)) ggX8_exchange_X8_isHook
theorem dX8_exchange_0 : decode cX8_exchange 0 = .ok (.aload_n 0, 1) := by decide +kernel
theorem dX8_exchange_1 : decode cX8_exchange 1 = .ok (.iload_n 1, 1) := by decide +kernel
theorem dX8_exchange_2 : decode cX8_exchange 2 = .ok (.invokevirtual 130, 3) := by decide +kernel
theorem dX8_exchange_5 : decode cX8_exchange 5 = .ok (.ifCond .eq 16, 3) := by decide +kernel
theorem dX8_exchange_8 : decode cX8_exchange 8 = .ok (.aload_n 0, 1) := by decide +kernel
theorem dX8_exchange_9 : decode cX8_exchange 9 = .ok (.iload_n 2, 1) := by decide +kernel
theorem dX8_exchange_10 : decode cX8_exchange 10 = .ok (.invokevirtual 130, 3) := by decide +kernel
theorem dX8_exchange_13 : decode cX8_exchange 13 = .ok (.ifCond .eq 8, 3) := by decide +kernel
theorem dX8_exchange_16 : decode cX8_exchange 16 = .ok (.iload_n 1, 1) := by decide +kernel
theorem dX8_exchange_17 : decode cX8_exchange 17 = .ok (.iload_n 2, 1) := by decide +kernel
theorem dX8_exchange_18 : decode cX8_exchange 18 = .ok (.if_icmp .ne 6, 3) := by decide +kernel
theorem dX8_exchange_21 : decode cX8_exchange 21 = .ok (.bipush (-101), 2) := by decide +kernel
theorem dX8_exchange_23 : decode cX8_exchange 23 = .ok (.ireturn, 1) := by decide +kernel
theorem dX8_exchange_24 : decode cX8_exchange 24 = .ok (.aload_n 0, 1) := by decide +kernel
theorem dX8_exchange_25 : decode cX8_exchange 25 = .ok (.getfield 19, 3) := by decide +kernel
theorem dX8_exchange_28 : decode cX8_exchange 28 = .ok (.iload_n 1, 1) := by decide +kernel
theorem dX8_exchange_29 : decode cX8_exchange 29 = .ok (.iaload, 1) := by decide +kernel
theorem dX8_exchange_30 : decode cX8_exchange 30 = .ok (.istore_n 3, 1) := by decide +kernel
theorem dX8_exchange_31 : decode cX8_exchange 31 = .ok (.aload_n 0, 1) := by decide +kernel
theorem dX8_exchange_32 : decode cX8_exchange 32 = .ok (.getfield 19, 3) := by decide +kernel
theorem dX8_exchange_35 : decode cX8_exchange 35 = .ok (.iload_n 2, 1) := by decide +kernel
theorem dX8_exchange_36 : decode cX8_exchange 36 = .ok (.iaload, 1) := by decide +kernel
theorem dX8_exchange_37 : decode cX8_exchange 37 = .ok (.istore 4, 2) := by decide +kernel
theorem dX8_exchange_39 : decode cX8_exchange 39 = .ok (.aload_n 0, 1) := by decide +kernel
theorem dX8_exchange_40 : decode cX8_exchange 40 = .ok (.getfield 22, 3) := by decide +kernel
theorem dX8_exchange_43 : decode cX8_exchange 43 = .ok (.iload_n 3, 1) := by decide +kernel
theorem dX8_exchange_44 : decode cX8_exchange 44 = .ok (.iaload, 1) := by decide +kernel
theorem dX8_exchange_45 : decode cX8_exchange 45 = .ok (.aload_n 0, 1) := by decide +kernel
theorem dX8_exchange_46 : decode cX8_exchange 46 = .ok (.getfield 13, 3) := by decide +kernel
theorem dX8_exchange_49 : decode cX8_exchange 49 = .ok (.iload_n 2, 1) := by decide +kernel
theorem dX8_exchange_50 : decode cX8_exchange 50 = .ok (.iaload, 1) := by decide +kernel
theorem dX8_exchange_51 : decode cX8_exchange 51 = .ok (.if_icmp .gt 19, 3) := by decide +kernel
theorem dX8_exchange_54 : decode cX8_exchange 54 = .ok (.aload_n 0, 1) := by decide +kernel
theorem dX8_exchange_55 : decode cX8_exchange 55 = .ok (.getfield 22, 3) := by decide +kernel
theorem dX8_exchange_58 : decode cX8_exchange 58 = .ok (.iload 4, 2) := by decide +kernel
theorem dX8_exchange_60 : decode cX8_exchange 60 = .ok (.iaload, 1) := by decide +kernel
theorem dX8_exchange_61 : decode cX8_exchange 61 = .ok (.aload_n 0, 1) := by decide +kernel
theorem dX8_exchange_62 : decode cX8_exchange 62 = .ok (.getfield 13, 3) := by decide +kernel
theorem dX8_exchange_65 : decode cX8_exchange 65 = .ok (.iload_n 1, 1) := by decide +kernel
theorem dX8_exchange_66 : decode cX8_exchange 66 = .ok (.iaload, 1) := by decide +kernel
theorem dX8_exchange_67 : decode cX8_exchange 67 = .ok (.if_icmp .le 6, 3) := by decide +kernel
theorem dX8_exchange_70 : decode cX8_exchange 70 = .ok (.bipush (-103), 2) := by decide +kernel
theorem dX8_exchange_72 : decode cX8_exchange 72 = .ok (.ireturn, 1) := by decide +kernel
theorem dX8_exchange_73 : decode cX8_exchange 73 = .ok (.aload_n 0, 1) := by decide +kernel
theorem dX8_exchange_74 : decode cX8_exchange 74 = .ok (.getfield 19, 3) := by decide +kernel
theorem dX8_exchange_77 : decode cX8_exchange 77 = .ok (.iload_n 1, 1) := by decide +kernel
theorem dX8_exchange_78 : decode cX8_exchange 78 = .ok (.iload 4, 2) := by decide +kernel
theorem dX8_exchange_80 : decode cX8_exchange 80 = .ok (.iastore, 1) := by decide +kernel
theorem dX8_exchange_81 : decode cX8_exchange 81 = .ok (.aload_n 0, 1) := by decide +kernel
theorem dX8_exchange_82 : decode cX8_exchange 82 = .ok (.getfield 19, 3) := by decide +kernel
theorem dX8_exchange_85 : decode cX8_exchange 85 = .ok (.iload_n 2, 1) := by decide +kernel
theorem dX8_exchange_86 : decode cX8_exchange 86 = .ok (.iload_n 3, 1) := by decide +kernel
theorem dX8_exchange_87 : decode cX8_exchange 87 = .ok (.iastore, 1) := by decide +kernel
theorem dX8_exchange_88 : decode cX8_exchange 88 = .ok (.aload_n 0, 1) := by decide +kernel
theorem dX8_exchange_89 : decode cX8_exchange 89 = .ok (.dup, 1) := by decide +kernel
theorem dX8_exchange_90 : decode cX8_exchange 90 = .ok (.getfield 121, 3) := by decide +kernel
theorem dX8_exchange_93 : decode cX8_exchange 93 = .ok (.bipush 10, 2) := by decide +kernel
theorem dX8_exchange_95 : decode cX8_exchange 95 = .ok (.iadd, 1) := by decide +kernel
theorem dX8_exchange_96 : decode cX8_exchange 96 = .ok (.putfield 121, 3) := by decide +kernel
theorem dX8_exchange_99 : decode cX8_exchange 99 = .ok (.aload_n 0, 1) := by decide +kernel
theorem dX8_exchange_100 : decode cX8_exchange 100 = .ok (.getfield 121, 3) := by decide +kernel
theorem dX8_exchange_103 : decode cX8_exchange 103 = .ok (.ireturn, 1) := by decide +kernel
set_option maxRecDepth 20000 in
theorem ggX8_costBy_X8_walk : GoodIn wsX8_costBy wsX8_walk := goodIn_r _ [5, 6, 7, 8, 9, 10, 11, 12, 13, 14, 15, 16, 17, 18, 19, 20, 21, 22, 23, 24, 25, 26, 27, 28, 29, 30, 31, 32, 33, 34, 35, 36, 37, 38, 39, 40, 41, 42, 43, 44, 45, 46, 47, 48] (by decide +kernel) (by decide +kernel)
set_option maxRecDepth 20000 in
theorem gX8_costBy_X8_walk : GoodIn wsX8_costBy (wsV RX8 164 RX8 yX8_walk wsX8_walk) := goodIn_app (goodIn_of _ (by decide +kernel)) ggX8_costBy_X8_walk
theorem dX8_costBy_0 : decode cX8_costBy 0 = .ok (.iload_n 1, 1) := by decide +kernel
theorem dX8_costBy_1 : decode cX8_costBy 1 = .ok (.iconst 3, 1) := by decide +kernel
theorem dX8_costBy_2 : decode cX8_costBy 2 = .ok (.if_icmp .ne 13, 3) := by decide +kernel
theorem dX8_costBy_5 : decode cX8_costBy 5 = .ok (.bipush 9, 2) := by decide +kernel
theorem dX8_costBy_7 : decode cX8_costBy 7 = .ok (.iload_n 3, 1) := by decide +kernel
theorem dX8_costBy_8 : decode cX8_costBy 8 = .ok (.iload 4, 2) := by decide +kernel
theorem dX8_costBy_10 : decode cX8_costBy 10 = .ok (.iadd, 1) := by decide +kernel
theorem dX8_costBy_11 : decode cX8_costBy 11 = .ok (.imul, 1) := by decide +kernel
theorem dX8_costBy_12 : decode cX8_costBy 12 = .ok (.goto 4, 3) := by decide +kernel
theorem dX8_costBy_15 : decode cX8_costBy 15 = .ok (.iconst 0, 1) := by decide +kernel
theorem dX8_costBy_16 : decode cX8_costBy 16 = .ok (.istore 5, 2) := by decide +kernel
theorem dX8_costBy_18 : decode cX8_costBy 18 = .ok (.bipush 20, 2) := by decide +kernel
theorem dX8_costBy_20 : decode cX8_costBy 20 = .ok (.bipush 60, 2) := by decide +kernel
theorem dX8_costBy_22 : decode cX8_costBy 22 = .ok (.iload 4, 2) := by decide +kernel
theorem dX8_costBy_24 : decode cX8_costBy 24 = .ok (.imul, 1) := by decide +kernel
theorem dX8_costBy_25 : decode cX8_costBy 25 = .ok (.iadd, 1) := by decide +kernel
theorem dX8_costBy_26 : decode cX8_costBy 26 = .ok (.aload_n 0, 1) := by decide +kernel
theorem dX8_costBy_27 : decode cX8_costBy 27 = .ok (.iload_n 2, 1) := by decide +kernel
theorem dX8_costBy_28 : decode cX8_costBy 28 = .ok (.invokevirtual 164, 3) := by decide +kernel
theorem dX8_costBy_31 : decode cX8_costBy 31 = .ok (.bipush 10, 2) := by decide +kernel
theorem dX8_costBy_33 : decode cX8_costBy 33 = .ok (.iload_n 3, 1) := by decide +kernel
theorem dX8_costBy_34 : decode cX8_costBy 34 = .ok (.isub, 1) := by decide +kernel
theorem dX8_costBy_35 : decode cX8_costBy 35 = .ok (.iload 4, 2) := by decide +kernel
theorem dX8_costBy_37 : decode cX8_costBy 37 = .ok (.isub, 1) := by decide +kernel
theorem dX8_costBy_38 : decode cX8_costBy 38 = .ok (.imul, 1) := by decide +kernel
theorem dX8_costBy_39 : decode cX8_costBy 39 = .ok (.iadd, 1) := by decide +kernel
theorem dX8_costBy_40 : decode cX8_costBy 40 = .ok (.iload 5, 2) := by decide +kernel
theorem dX8_costBy_42 : decode cX8_costBy 42 = .ok (.iadd, 1) := by decide +kernel
theorem dX8_costBy_43 : decode cX8_costBy 43 = .ok (.ireturn, 1) := by decide +kernel
set_option maxRecDepth 20000 in
theorem ggX8_costNow_X8_tenthsOf : GoodIn wsX8_costNow wsX8_tenthsOf := goodIn_r _ [5, 6, 7, 8, 4, 9, 10, 11, 12, 13, 14, 15, 16, 17, 18, 19, 20, 21, 22, 23, 24, 25, 26, 27, 28, 29, 38, 39, 40, 41, 42, 43, 44, 45, 46, 47, 48, 49, 50, 51, 52, 53, 54, 55, 56, 57, 58, 59, 60, 61, 62, 63, 64, 65, 66, 67, 68, 69, 70, 71, 72, 73, 74, 75, 76, 77, 78, 79] (by decide +kernel) (by decide +kernel)
set_option maxRecDepth 20000 in
theorem gX8_costNow_X8_tenthsOf : GoodIn wsX8_costNow (wsV RX8 160 RX8 yX8_tenthsOf wsX8_tenthsOf) := goodIn_app (goodIn_of _ (by decide +kernel)) ggX8_costNow_X8_tenthsOf
set_option maxRecDepth 20000 in
theorem ggX8_costNow_X8_costBy : GoodIn wsX8_costNow wsX8_costBy := goodIn_r _ [33, 34, 35, 36, 4, 37, 10, 38, 39, 40, 41, 42, 43, 44, 45, 46, 47, 48, 49, 50, 51, 52, 53, 54, 55, 56, 57, 58, 59, 60, 61, 62, 63, 64, 65, 66, 67, 68, 69, 70, 71, 72, 73, 74, 75, 76, 77, 78, 79] (by decide +kernel) (by decide +kernel)
set_option maxRecDepth 20000 in
theorem gX8_costNow_X8_costBy : GoodIn wsX8_costNow (wsV RX8 171 RX8 yX8_costBy wsX8_costBy) := goodIn_app (goodIn_of _ (by decide +kernel)) ggX8_costNow_X8_costBy
theorem dX8_costNow_0 : decode cX8_costNow 0 = .ok (.aload_n 0, 1) := by decide +kernel
theorem dX8_costNow_1 : decode cX8_costNow 1 = .ok (.iload_n 1, 1) := by decide +kernel
theorem dX8_costNow_2 : decode cX8_costNow 2 = .ok (.iload_n 2, 1) := by decide +kernel
theorem dX8_costNow_3 : decode cX8_costNow 3 = .ok (.aload_n 0, 1) := by decide +kernel
theorem dX8_costNow_4 : decode cX8_costNow 4 = .ok (.iload_n 1, 1) := by decide +kernel
theorem dX8_costNow_5 : decode cX8_costNow 5 = .ok (.iload_n 2, 1) := by decide +kernel
theorem dX8_costNow_6 : decode cX8_costNow 6 = .ok (.iconst 0, 1) := by decide +kernel
theorem dX8_costNow_7 : decode cX8_costNow 7 = .ok (.invokevirtual 160, 3) := by decide +kernel
theorem dX8_costNow_10 : decode cX8_costNow 10 = .ok (.aload_n 0, 1) := by decide +kernel
theorem dX8_costNow_11 : decode cX8_costNow 11 = .ok (.iload_n 1, 1) := by decide +kernel
theorem dX8_costNow_12 : decode cX8_costNow 12 = .ok (.iload_n 2, 1) := by decide +kernel
theorem dX8_costNow_13 : decode cX8_costNow 13 = .ok (.iconst 1, 1) := by decide +kernel
theorem dX8_costNow_14 : decode cX8_costNow 14 = .ok (.invokevirtual 160, 3) := by decide +kernel
theorem dX8_costNow_17 : decode cX8_costNow 17 = .ok (.invokevirtual 171, 3) := by decide +kernel
theorem dX8_costNow_20 : decode cX8_costNow 20 = .ok (.ireturn, 1) := by decide +kernel
set_option maxRecDepth 20000 in
theorem ggX8_oddsNow_X8_tenthsOf : GoodIn wsX8_oddsNow wsX8_tenthsOf := goodIn_r _ [5, 6, 7, 8, 4, 9, 10, 11, 12, 13, 14, 15, 16, 17, 18, 19, 20, 21, 22, 23, 24, 25, 26, 27, 28, 29, 42, 43, 44, 45, 46, 47, 48, 49, 50, 51, 52, 53, 54, 55, 56, 57, 58, 59, 60, 61, 62, 63, 64, 65, 66, 67, 68, 69, 70, 71, 72, 73, 74, 75, 76, 77, 78, 79, 80, 81, 82, 83] (by decide +kernel) (by decide +kernel)
set_option maxRecDepth 20000 in
theorem gX8_oddsNow_X8_tenthsOf : GoodIn wsX8_oddsNow (wsV RX8 160 RX8 yX8_tenthsOf wsX8_tenthsOf) := goodIn_app (goodIn_of _ (by decide +kernel)) ggX8_oddsNow_X8_tenthsOf
set_option maxRecDepth 20000 in
theorem ggX8_oddsNow_X8_costNow : GoodIn wsX8_oddsNow wsX8_costNow := goodIn_r _ [33, 1, 2, 3, 4, 5, 6, 7, 8, 9, 10, 11, 12, 13, 14, 15, 16, 17, 18, 19, 20, 21, 22, 23, 24, 25, 26, 27, 28, 29, 34, 35, 36, 37, 38, 39, 40, 41, 42, 43, 44, 45, 46, 47, 48, 49, 50, 51, 52, 53, 54, 55, 56, 57, 58, 59, 60, 61, 62, 63, 64, 65, 66, 67, 68, 69, 70, 71, 72, 73, 74, 75, 76, 77, 78, 79, 80, 81, 82, 83] (by decide +kernel) (by decide +kernel)
set_option maxRecDepth 20000 in
theorem gX8_oddsNow_X8_costNow : GoodIn wsX8_oddsNow (wsV RX8 175 RX8 yX8_costNow wsX8_costNow) := goodIn_app (goodIn_of _ (by decide +kernel)) ggX8_oddsNow_X8_costNow
set_option maxRecDepth 20000 in
theorem ggX8_oddsNow_X8_walk : GoodIn wsX8_oddsNow wsX8_walk := goodIn_r _ [41, 10, 42, 43, 44, 45, 46, 47, 48, 49, 50, 51, 52, 53, 54, 55, 56, 57, 58, 59, 60, 61, 62, 63, 64, 65, 66, 67, 68, 69, 70, 71, 72, 73, 74, 75, 76, 77, 78, 79, 80, 81, 82, 83] (by decide +kernel) (by decide +kernel)
set_option maxRecDepth 20000 in
theorem gX8_oddsNow_X8_walk : GoodIn wsX8_oddsNow (wsV RX8 164 RX8 yX8_walk wsX8_walk) := goodIn_app (goodIn_of _ (by decide +kernel)) ggX8_oddsNow_X8_walk
theorem dX8_oddsNow_0 : decode cX8_oddsNow 0 = .ok (.iload_n 3, 1) := by decide +kernel
theorem dX8_oddsNow_1 : decode cX8_oddsNow 1 = .ok (.tableswitch 59 0 4 #[35, 35, 35, 43, 50], 35) := by decide +kernel
theorem dX8_oddsNow_36 : decode cX8_oddsNow 36 = .ok (.aload_n 0, 1) := by decide +kernel
theorem dX8_oddsNow_37 : decode cX8_oddsNow 37 = .ok (.iload_n 1, 1) := by decide +kernel
theorem dX8_oddsNow_38 : decode cX8_oddsNow 38 = .ok (.iload_n 2, 1) := by decide +kernel
theorem dX8_oddsNow_39 : decode cX8_oddsNow 39 = .ok (.iload_n 3, 1) := by decide +kernel
theorem dX8_oddsNow_40 : decode cX8_oddsNow 40 = .ok (.invokevirtual 160, 3) := by decide +kernel
theorem dX8_oddsNow_43 : decode cX8_oddsNow 43 = .ok (.ireturn, 1) := by decide +kernel
theorem dX8_oddsNow_44 : decode cX8_oddsNow 44 = .ok (.aload_n 0, 1) := by decide +kernel
theorem dX8_oddsNow_45 : decode cX8_oddsNow 45 = .ok (.iload_n 1, 1) := by decide +kernel
theorem dX8_oddsNow_46 : decode cX8_oddsNow 46 = .ok (.iload_n 2, 1) := by decide +kernel
theorem dX8_oddsNow_47 : decode cX8_oddsNow 47 = .ok (.invokevirtual 175, 3) := by decide +kernel
theorem dX8_oddsNow_50 : decode cX8_oddsNow 50 = .ok (.ireturn, 1) := by decide +kernel
theorem dX8_oddsNow_51 : decode cX8_oddsNow 51 = .ok (.bipush 10, 2) := by decide +kernel
theorem dX8_oddsNow_53 : decode cX8_oddsNow 53 = .ok (.aload_n 0, 1) := by decide +kernel
theorem dX8_oddsNow_54 : decode cX8_oddsNow 54 = .ok (.iload_n 2, 1) := by decide +kernel
theorem dX8_oddsNow_55 : decode cX8_oddsNow 55 = .ok (.invokevirtual 164, 3) := by decide +kernel
theorem dX8_oddsNow_58 : decode cX8_oddsNow 58 = .ok (.imul, 1) := by decide +kernel
theorem dX8_oddsNow_59 : decode cX8_oddsNow 59 = .ok (.ireturn, 1) := by decide +kernel
theorem dX8_oddsNow_60 : decode cX8_oddsNow 60 = .ok (.aload_n 0, 1) := by decide +kernel
theorem dX8_oddsNow_61 : decode cX8_oddsNow 61 = .ok (.iload_n 1, 1) := by decide +kernel
theorem dX8_oddsNow_62 : decode cX8_oddsNow 62 = .ok (.iload_n 2, 1) := by decide +kernel
theorem dX8_oddsNow_63 : decode cX8_oddsNow 63 = .ok (.invokevirtual 175, 3) := by decide +kernel
theorem dX8_oddsNow_66 : decode cX8_oddsNow 66 = .ok (.bipush 10, 2) := by decide +kernel
theorem dX8_oddsNow_68 : decode cX8_oddsNow 68 = .ok (.aload_n 0, 1) := by decide +kernel
theorem dX8_oddsNow_69 : decode cX8_oddsNow 69 = .ok (.iload_n 2, 1) := by decide +kernel
theorem dX8_oddsNow_70 : decode cX8_oddsNow 70 = .ok (.invokevirtual 164, 3) := by decide +kernel
theorem dX8_oddsNow_73 : decode cX8_oddsNow 73 = .ok (.imul, 1) := by decide +kernel
theorem dX8_oddsNow_74 : decode cX8_oddsNow 74 = .ok (.if_icmp .ge 7, 3) := by decide +kernel
theorem dX8_oddsNow_77 : decode cX8_oddsNow 77 = .ok (.iconst 1, 1) := by decide +kernel
theorem dX8_oddsNow_78 : decode cX8_oddsNow 78 = .ok (.goto 4, 3) := by decide +kernel
theorem dX8_oddsNow_81 : decode cX8_oddsNow 81 = .ok (.iconst 0, 1) := by decide +kernel
theorem dX8_oddsNow_82 : decode cX8_oddsNow 82 = .ok (.ireturn, 1) := by decide +kernel
set_option maxRecDepth 20000 in
theorem ggX8_odds_X8_within : GoodIn wsX8_odds wsX8_within := goodIn_r _ [4] (by decide +kernel) (by decide +kernel)
set_option maxRecDepth 20000 in
theorem gX8_odds_X8_within : GoodIn wsX8_odds (va_wsS RX8 77 yX8_within wsX8_within) := goodIn_app (goodIn_of _ (by decide +kernel)) ggX8_odds_X8_within
set_option maxRecDepth 20000 in
theorem ggX8_odds_X8_isHook : GoodIn wsX8_odds wsX8_isHook := goodIn_r _ [8, 9, 1, 2, 3, 4, 53, 54, 55, 56, 57, 58, 59, 60, 61, 62, 63, 64, 65, 66, 67, 68, 69, 70, 71, 72, 73, 74, 75, 76, 77, 78, 79, 80, 81, 82, 83, 84, 85, 86, 87, 88, 89, 90, 91, 92, 93, 94] (by decide +kernel) (by decide +kernel)
set_option maxRecDepth 20000 in
theorem gX8_odds_X8_isHook : GoodIn wsX8_odds (wsV RX8 130 RX8 yX8_isHook wsX8_isHook) := goodIn_app (goodIn_of _ (by decide +kernel)) ggX8_odds_X8_isHook
set_option maxRecDepth 20000 in
theorem ggX8_odds_X8_oddsNow : GoodIn wsX8_odds wsX8_oddsNow := goodIn_r _ [13, 14, 15, 16, 3, 17, 18, 19, 20, 21, 22, 23, 24, 25, 26, 27, 28, 29, 9, 30, 31, 32, 33, 34, 35, 36, 37, 38, 39, 40, 41, 42, 43, 44, 45, 46, 47, 48, 49, 50, 51, 52, 53, 54, 55, 56, 57, 58, 59, 60, 61, 62, 63, 64, 65, 66, 67, 68, 69, 70, 71, 72, 73, 74, 75, 76, 77, 78, 79, 80, 81, 82, 83, 84, 85, 86, 87, 88, 89, 90, 91, 92, 93, 94] (by decide +kernel) (by decide +kernel)
set_option maxRecDepth 20000 in
theorem gX8_odds_X8_oddsNow : GoodIn wsX8_odds (wsV RX8 178 RX8 yX8_oddsNow wsX8_oddsNow) := goodIn_app (goodIn_of _ (by decide +kernel)) ggX8_odds_X8_oddsNow
theorem dX8_odds_0 : decode cX8_odds 0 = .ok (.iload_n 1, 1) := by decide +kernel
theorem dX8_odds_1 : decode cX8_odds 1 = .ok (.iconst 0, 1) := by decide +kernel
theorem dX8_odds_2 : decode cX8_odds 2 = .ok (.iconst 4, 1) := by decide +kernel
theorem dX8_odds_3 : decode cX8_odds 3 = .ok (.invokestatic 77, 3) := by decide +kernel
theorem dX8_odds_6 : decode cX8_odds 6 = .ok (.ifCond .ne 6, 3) := by decide +kernel
theorem dX8_odds_9 : decode cX8_odds 9 = .ok (.bipush (-102), 2) := by decide +kernel
theorem dX8_odds_11 : decode cX8_odds 11 = .ok (.ireturn, 1) := by decide +kernel
theorem dX8_odds_12 : decode cX8_odds 12 = .ok (.aload_n 0, 1) := by decide +kernel
theorem dX8_odds_13 : decode cX8_odds 13 = .ok (.iload_n 2, 1) := by decide +kernel
theorem dX8_odds_14 : decode cX8_odds 14 = .ok (.invokevirtual 130, 3) := by decide +kernel
theorem dX8_odds_17 : decode cX8_odds 17 = .ok (.ifCond .ne 6, 3) := by decide +kernel
theorem dX8_odds_20 : decode cX8_odds 20 = .ok (.bipush (-101), 2) := by decide +kernel
theorem dX8_odds_22 : decode cX8_odds 22 = .ok (.ireturn, 1) := by decide +kernel
theorem dX8_odds_23 : decode cX8_odds 23 = .ok (.iload_n 3, 1) := by decide +kernel
theorem dX8_odds_24 : decode cX8_odds 24 = .ok (.iconst 0, 1) := by decide +kernel
theorem dX8_odds_25 : decode cX8_odds 25 = .ok (.iconst 5, 1) := by decide +kernel
theorem dX8_odds_26 : decode cX8_odds 26 = .ok (.invokestatic 77, 3) := by decide +kernel
theorem dX8_odds_29 : decode cX8_odds 29 = .ok (.ifCond .eq 13, 3) := by decide +kernel
theorem dX8_odds_32 : decode cX8_odds 32 = .ok (.aload_n 0, 1) := by decide +kernel
theorem dX8_odds_33 : decode cX8_odds 33 = .ok (.iload_n 1, 1) := by decide +kernel
theorem dX8_odds_34 : decode cX8_odds 34 = .ok (.iload_n 2, 1) := by decide +kernel
theorem dX8_odds_35 : decode cX8_odds 35 = .ok (.iload_n 3, 1) := by decide +kernel
theorem dX8_odds_36 : decode cX8_odds 36 = .ok (.invokevirtual 178, 3) := by decide +kernel
theorem dX8_odds_39 : decode cX8_odds 39 = .ok (.goto 5, 3) := by decide +kernel
theorem dX8_odds_42 : decode cX8_odds 42 = .ok (.bipush (-102), 2) := by decide +kernel
theorem dX8_odds_44 : decode cX8_odds 44 = .ok (.ireturn, 1) := by decide +kernel
theorem dX8_ways_0 : decode cX8_ways 0 = .ok (.iconst 1, 1) := by decide +kernel
theorem dX8_ways_1 : decode cX8_ways 1 = .ok (.istore_n 1, 1) := by decide +kernel
theorem dX8_ways_2 : decode cX8_ways 2 = .ok (.iconst 2, 1) := by decide +kernel
theorem dX8_ways_3 : decode cX8_ways 3 = .ok (.istore_n 2, 1) := by decide +kernel
theorem dX8_ways_4 : decode cX8_ways 4 = .ok (.iload_n 2, 1) := by decide +kernel
theorem dX8_ways_5 : decode cX8_ways 5 = .ok (.aload_n 0, 1) := by decide +kernel
theorem dX8_ways_6 : decode cX8_ways 6 = .ok (.getfield 109, 3) := by decide +kernel
theorem dX8_ways_9 : decode cX8_ways 9 = .ok (.if_icmp .gt 13, 3) := by decide +kernel
theorem dX8_ways_12 : decode cX8_ways 12 = .ok (.iload_n 1, 1) := by decide +kernel
theorem dX8_ways_13 : decode cX8_ways 13 = .ok (.iload_n 2, 1) := by decide +kernel
theorem dX8_ways_14 : decode cX8_ways 14 = .ok (.imul, 1) := by decide +kernel
theorem dX8_ways_15 : decode cX8_ways 15 = .ok (.istore_n 1, 1) := by decide +kernel
theorem dX8_ways_16 : decode cX8_ways 16 = .ok (.iinc 2 1, 3) := by decide +kernel
theorem dX8_ways_19 : decode cX8_ways 19 = .ok (.goto (-15), 3) := by decide +kernel
theorem dX8_ways_22 : decode cX8_ways 22 = .ok (.iload_n 1, 1) := by decide +kernel
theorem dX8_ways_23 : decode cX8_ways 23 = .ok (.ireturn, 1) := by decide +kernel
set_option maxRecDepth 20000 in
theorem ggX8_hangBy_X8_ways : GoodIn wsX8_hangBy wsX8_ways := goodIn_r _ [7, 1, 8, 9, 10, 11, 12, 13, 14, 15, 16, 17, 18, 19, 20, 21, 22, 23, 24, 25, 26, 27, 28, 29, 30, 31, 32, 33, 34, 35, 36, 37, 38, 39, 40, 41, 42, 43, 44, 45, 46, 47, 48, 49] (by decide +kernel) (by decide +kernel)
set_option maxRecDepth 20000 in
theorem gX8_hangBy_X8_ways : GoodIn wsX8_hangBy (wsV RX8 181 RX8 yX8_ways wsX8_ways) := goodIn_app (goodIn_of _ (by decide +kernel)) ggX8_hangBy_X8_ways
theorem dX8_hangBy_0 : decode cX8_hangBy 0 = .ok (.iload_n 1, 1) := by decide +kernel
theorem dX8_hangBy_1 : decode cX8_hangBy 1 = .ok (.istore_n 2, 1) := by decide +kernel
theorem dX8_hangBy_2 : decode cX8_hangBy 2 = .ok (.aload_n 0, 1) := by decide +kernel
theorem dX8_hangBy_3 : decode cX8_hangBy 3 = .ok (.invokevirtual 181, 3) := by decide +kernel
theorem dX8_hangBy_6 : decode cX8_hangBy 6 = .ok (.istore_n 3, 1) := by decide +kernel
theorem dX8_hangBy_7 : decode cX8_hangBy 7 = .ok (.iconst 0, 1) := by decide +kernel
theorem dX8_hangBy_8 : decode cX8_hangBy 8 = .ok (.istore 4, 2) := by decide +kernel
theorem dX8_hangBy_10 : decode cX8_hangBy 10 = .ok (.iconst 0, 1) := by decide +kernel
theorem dX8_hangBy_11 : decode cX8_hangBy 11 = .ok (.istore 5, 2) := by decide +kernel
theorem dX8_hangBy_13 : decode cX8_hangBy 13 = .ok (.iload 5, 2) := by decide +kernel
theorem dX8_hangBy_15 : decode cX8_hangBy 15 = .ok (.aload_n 0, 1) := by decide +kernel
theorem dX8_hangBy_16 : decode cX8_hangBy 16 = .ok (.getfield 109, 3) := by decide +kernel
theorem dX8_hangBy_19 : decode cX8_hangBy 19 = .ok (.if_icmp .ge 94, 3) := by decide +kernel
theorem dX8_hangBy_22 : decode cX8_hangBy 22 = .ok (.iload_n 3, 1) := by decide +kernel
theorem dX8_hangBy_23 : decode cX8_hangBy 23 = .ok (.aload_n 0, 1) := by decide +kernel
theorem dX8_hangBy_24 : decode cX8_hangBy 24 = .ok (.getfield 109, 3) := by decide +kernel
theorem dX8_hangBy_27 : decode cX8_hangBy 27 = .ok (.iload 5, 2) := by decide +kernel
theorem dX8_hangBy_29 : decode cX8_hangBy 29 = .ok (.isub, 1) := by decide +kernel
theorem dX8_hangBy_30 : decode cX8_hangBy 30 = .ok (.idiv, 1) := by decide +kernel
theorem dX8_hangBy_31 : decode cX8_hangBy 31 = .ok (.istore_n 3, 1) := by decide +kernel
theorem dX8_hangBy_32 : decode cX8_hangBy 32 = .ok (.iload_n 2, 1) := by decide +kernel
theorem dX8_hangBy_33 : decode cX8_hangBy 33 = .ok (.iload_n 3, 1) := by decide +kernel
theorem dX8_hangBy_34 : decode cX8_hangBy 34 = .ok (.idiv, 1) := by decide +kernel
theorem dX8_hangBy_35 : decode cX8_hangBy 35 = .ok (.istore 6, 2) := by decide +kernel
theorem dX8_hangBy_37 : decode cX8_hangBy 37 = .ok (.iload_n 2, 1) := by decide +kernel
theorem dX8_hangBy_38 : decode cX8_hangBy 38 = .ok (.iload_n 3, 1) := by decide +kernel
theorem dX8_hangBy_39 : decode cX8_hangBy 39 = .ok (.irem, 1) := by decide +kernel
theorem dX8_hangBy_40 : decode cX8_hangBy 40 = .ok (.istore_n 2, 1) := by decide +kernel
theorem dX8_hangBy_41 : decode cX8_hangBy 41 = .ok (.iconst 0, 1) := by decide +kernel
theorem dX8_hangBy_42 : decode cX8_hangBy 42 = .ok (.istore 7, 2) := by decide +kernel
theorem dX8_hangBy_44 : decode cX8_hangBy 44 = .ok (.iload 4, 2) := by decide +kernel
theorem dX8_hangBy_46 : decode cX8_hangBy 46 = .ok (.iload 7, 2) := by decide +kernel
theorem dX8_hangBy_48 : decode cX8_hangBy 48 = .ok (.ishr, 1) := by decide +kernel
theorem dX8_hangBy_49 : decode cX8_hangBy 49 = .ok (.iconst 1, 1) := by decide +kernel
theorem dX8_hangBy_50 : decode cX8_hangBy 50 = .ok (.iand, 1) := by decide +kernel
theorem dX8_hangBy_51 : decode cX8_hangBy 51 = .ok (.iconst 1, 1) := by decide +kernel
theorem dX8_hangBy_52 : decode cX8_hangBy 52 = .ok (.if_icmp .eq 8, 3) := by decide +kernel
theorem dX8_hangBy_55 : decode cX8_hangBy 55 = .ok (.iload 6, 2) := by decide +kernel
theorem dX8_hangBy_57 : decode cX8_hangBy 57 = .ok (.ifCond .le 29, 3) := by decide +kernel
theorem dX8_hangBy_60 : decode cX8_hangBy 60 = .ok (.iload 6, 2) := by decide +kernel
theorem dX8_hangBy_62 : decode cX8_hangBy 62 = .ok (.iload 4, 2) := by decide +kernel
theorem dX8_hangBy_64 : decode cX8_hangBy 64 = .ok (.iload 7, 2) := by decide +kernel
theorem dX8_hangBy_66 : decode cX8_hangBy 66 = .ok (.ishr, 1) := by decide +kernel
theorem dX8_hangBy_67 : decode cX8_hangBy 67 = .ok (.iconst 1, 1) := by decide +kernel
theorem dX8_hangBy_68 : decode cX8_hangBy 68 = .ok (.iand, 1) := by decide +kernel
theorem dX8_hangBy_69 : decode cX8_hangBy 69 = .ok (.ifCond .ne 7, 3) := by decide +kernel
theorem dX8_hangBy_72 : decode cX8_hangBy 72 = .ok (.iconst 1, 1) := by decide +kernel
theorem dX8_hangBy_73 : decode cX8_hangBy 73 = .ok (.goto 4, 3) := by decide +kernel
theorem dX8_hangBy_76 : decode cX8_hangBy 76 = .ok (.iconst 0, 1) := by decide +kernel
theorem dX8_hangBy_77 : decode cX8_hangBy 77 = .ok (.isub, 1) := by decide +kernel
theorem dX8_hangBy_78 : decode cX8_hangBy 78 = .ok (.istore 6, 2) := by decide +kernel
theorem dX8_hangBy_80 : decode cX8_hangBy 80 = .ok (.iinc 7 1, 3) := by decide +kernel
theorem dX8_hangBy_83 : decode cX8_hangBy 83 = .ok (.goto (-39), 3) := by decide +kernel
theorem dX8_hangBy_86 : decode cX8_hangBy 86 = .ok (.iload 4, 2) := by decide +kernel
theorem dX8_hangBy_88 : decode cX8_hangBy 88 = .ok (.iconst 1, 1) := by decide +kernel
theorem dX8_hangBy_89 : decode cX8_hangBy 89 = .ok (.iload 7, 2) := by decide +kernel
theorem dX8_hangBy_91 : decode cX8_hangBy 91 = .ok (.ishl, 1) := by decide +kernel
theorem dX8_hangBy_92 : decode cX8_hangBy 92 = .ok (.ior, 1) := by decide +kernel
theorem dX8_hangBy_93 : decode cX8_hangBy 93 = .ok (.istore 4, 2) := by decide +kernel
theorem dX8_hangBy_95 : decode cX8_hangBy 95 = .ok (.aload_n 0, 1) := by decide +kernel
theorem dX8_hangBy_96 : decode cX8_hangBy 96 = .ok (.getfield 19, 3) := by decide +kernel
theorem dX8_hangBy_99 : decode cX8_hangBy 99 = .ok (.bipush 6, 2) := by decide +kernel
theorem dX8_hangBy_101 : decode cX8_hangBy 101 = .ok (.iload 5, 2) := by decide +kernel
theorem dX8_hangBy_103 : decode cX8_hangBy 103 = .ok (.iadd, 1) := by decide +kernel
theorem dX8_hangBy_104 : decode cX8_hangBy 104 = .ok (.iload 7, 2) := by decide +kernel
theorem dX8_hangBy_106 : decode cX8_hangBy 106 = .ok (.iastore, 1) := by decide +kernel
theorem dX8_hangBy_107 : decode cX8_hangBy 107 = .ok (.iinc 5 1, 3) := by decide +kernel
theorem dX8_hangBy_110 : decode cX8_hangBy 110 = .ok (.goto (-97), 3) := by decide +kernel
theorem dX8_hangBy_113 : decode cX8_hangBy 113 = .ok (.return_, 1) := by decide +kernel
set_option maxRecDepth 20000 in
theorem ggX8_takesOn_X8_tenthsIn : GoodIn wsX8_takesOn wsX8_tenthsIn := goodIn_r _ [5, 6, 7, 8, 4, 9, 22, 23, 24, 25, 26, 27, 28, 29, 30, 31, 32, 33, 34, 35, 36, 37, 38, 39, 40, 41, 42, 43, 44, 45, 46, 47, 48, 49, 50, 51, 52, 53, 54, 55, 56, 57, 58, 59, 60, 61, 62, 63] (by decide +kernel) (by decide +kernel)
set_option maxRecDepth 20000 in
theorem gX8_takesOn_X8_tenthsIn : GoodIn wsX8_takesOn (wsV RX8 148 RX8 yX8_tenthsIn wsX8_tenthsIn) := goodIn_app (goodIn_of _ (by decide +kernel)) ggX8_takesOn_X8_tenthsIn
set_option maxRecDepth 20000 in
theorem ggX8_takesOn_X8_tenthsNext : GoodIn wsX8_takesOn wsX8_tenthsNext := goodIn_r _ [13, 1, 2, 3, 4, 5, 6, 7, 8, 9, 22, 23, 24, 25, 26, 27, 28, 29, 30, 31, 32, 33, 34, 35, 36, 37, 38, 39, 40, 41, 42, 43, 44, 45, 46, 47, 48, 49, 50, 51, 52, 53, 54, 55, 56, 57, 58, 59, 60, 61, 62, 63] (by decide +kernel) (by decide +kernel)
set_option maxRecDepth 20000 in
theorem gX8_takesOn_X8_tenthsNext : GoodIn wsX8_takesOn (wsV RX8 157 RX8 yX8_tenthsNext wsX8_tenthsNext) := goodIn_app (goodIn_of _ (by decide +kernel)) ggX8_takesOn_X8_tenthsNext
set_option maxRecDepth 20000 in
theorem ggX8_takesOn_X8_costBy : GoodIn wsX8_takesOn wsX8_costBy := goodIn_r _ [17, 18, 19, 20, 4, 21, 6, 22, 23, 24, 25, 26, 27, 28, 29, 30, 31, 32, 33, 34, 35, 36, 37, 38, 39, 40, 41, 42, 43, 44, 45, 46, 47, 48, 49, 50, 51, 52, 53, 54, 55, 56, 57, 58, 59, 60, 61, 62, 63] (by decide +kernel) (by decide +kernel)
set_option maxRecDepth 20000 in
theorem gX8_takesOn_X8_costBy : GoodIn wsX8_takesOn (wsV RX8 171 RX8 yX8_costBy wsX8_costBy) := goodIn_app (goodIn_of _ (by decide +kernel)) ggX8_takesOn_X8_costBy
set_option maxRecDepth 20000 in
theorem ggX8_takesOn_X8_walk : GoodIn wsX8_takesOn wsX8_walk := goodIn_r _ [21, 6, 22, 23, 24, 25, 26, 27, 28, 29, 30, 31, 32, 33, 34, 35, 36, 37, 38, 39, 40, 41, 42, 43, 44, 45, 46, 47, 48, 49, 50, 51, 52, 53, 54, 55, 56, 57, 58, 59, 60, 61, 62, 63] (by decide +kernel) (by decide +kernel)
set_option maxRecDepth 20000 in
theorem gX8_takesOn_X8_walk : GoodIn wsX8_takesOn (wsV RX8 164 RX8 yX8_walk wsX8_walk) := goodIn_app (goodIn_of _ (by decide +kernel)) ggX8_takesOn_X8_walk
theorem dX8_takesOn_0 : decode cX8_takesOn 0 = .ok (.aload_n 0, 1) := by decide +kernel
theorem dX8_takesOn_1 : decode cX8_takesOn 1 = .ok (.iconst 0, 1) := by decide +kernel
theorem dX8_takesOn_2 : decode cX8_takesOn 2 = .ok (.iload_n 1, 1) := by decide +kernel
theorem dX8_takesOn_3 : decode cX8_takesOn 3 = .ok (.aload_n 0, 1) := by decide +kernel
theorem dX8_takesOn_4 : decode cX8_takesOn 4 = .ok (.iconst 0, 1) := by decide +kernel
theorem dX8_takesOn_5 : decode cX8_takesOn 5 = .ok (.iload_n 1, 1) := by decide +kernel
theorem dX8_takesOn_6 : decode cX8_takesOn 6 = .ok (.invokevirtual 148, 3) := by decide +kernel
theorem dX8_takesOn_9 : decode cX8_takesOn 9 = .ok (.aload_n 0, 1) := by decide +kernel
theorem dX8_takesOn_10 : decode cX8_takesOn 10 = .ok (.iconst 0, 1) := by decide +kernel
theorem dX8_takesOn_11 : decode cX8_takesOn 11 = .ok (.iload_n 1, 1) := by decide +kernel
theorem dX8_takesOn_12 : decode cX8_takesOn 12 = .ok (.invokevirtual 157, 3) := by decide +kernel
theorem dX8_takesOn_15 : decode cX8_takesOn 15 = .ok (.invokevirtual 171, 3) := by decide +kernel
theorem dX8_takesOn_18 : decode cX8_takesOn 18 = .ok (.istore_n 2, 1) := by decide +kernel
theorem dX8_takesOn_19 : decode cX8_takesOn 19 = .ok (.iload_n 2, 1) := by decide +kernel
theorem dX8_takesOn_20 : decode cX8_takesOn 20 = .ok (.bipush 10, 2) := by decide +kernel
theorem dX8_takesOn_22 : decode cX8_takesOn 22 = .ok (.aload_n 0, 1) := by decide +kernel
theorem dX8_takesOn_23 : decode cX8_takesOn 23 = .ok (.iload_n 1, 1) := by decide +kernel
theorem dX8_takesOn_24 : decode cX8_takesOn 24 = .ok (.invokevirtual 164, 3) := by decide +kernel
theorem dX8_takesOn_27 : decode cX8_takesOn 27 = .ok (.imul, 1) := by decide +kernel
theorem dX8_takesOn_28 : decode cX8_takesOn 28 = .ok (.if_icmp .ge 7, 3) := by decide +kernel
theorem dX8_takesOn_31 : decode cX8_takesOn 31 = .ok (.iload_n 2, 1) := by decide +kernel
theorem dX8_takesOn_32 : decode cX8_takesOn 32 = .ok (.goto 11, 3) := by decide +kernel
theorem dX8_takesOn_35 : decode cX8_takesOn 35 = .ok (.bipush 10, 2) := by decide +kernel
theorem dX8_takesOn_37 : decode cX8_takesOn 37 = .ok (.aload_n 0, 1) := by decide +kernel
theorem dX8_takesOn_38 : decode cX8_takesOn 38 = .ok (.iload_n 1, 1) := by decide +kernel
theorem dX8_takesOn_39 : decode cX8_takesOn 39 = .ok (.invokevirtual 164, 3) := by decide +kernel
theorem dX8_takesOn_42 : decode cX8_takesOn 42 = .ok (.imul, 1) := by decide +kernel
theorem dX8_takesOn_43 : decode cX8_takesOn 43 = .ok (.ireturn, 1) := by decide +kernel
set_option maxRecDepth 20000 in
theorem ggX8_takesBy_X8_takesOn : GoodIn wsX8_takesBy wsX8_takesOn := goodIn_r _ [8, 9, 10, 11, 7, 12, 13, 14, 15, 16, 17, 18, 19, 20, 21, 22, 23, 24, 25, 26, 27, 28, 29, 30, 31, 32, 33, 34, 35, 36, 37, 38, 39, 40, 41, 42, 43, 44, 45, 46, 47, 48, 49, 50, 51, 52, 53, 54, 55, 56, 57, 58, 59, 60, 61, 62, 63, 64, 65, 66, 67, 68, 69, 70] (by decide +kernel) (by decide +kernel)
set_option maxRecDepth 20000 in
theorem gX8_takesBy_X8_takesOn : GoodIn wsX8_takesBy (wsV RX8 185 RX8 yX8_takesOn wsX8_takesOn) := goodIn_app (goodIn_of _ (by decide +kernel)) ggX8_takesBy_X8_takesOn
theorem dX8_takesBy_0 : decode cX8_takesBy 0 = .ok (.iconst 0, 1) := by decide +kernel
theorem dX8_takesBy_1 : decode cX8_takesBy 1 = .ok (.istore_n 1, 1) := by decide +kernel
theorem dX8_takesBy_2 : decode cX8_takesBy 2 = .ok (.iconst 0, 1) := by decide +kernel
theorem dX8_takesBy_3 : decode cX8_takesBy 3 = .ok (.istore_n 2, 1) := by decide +kernel
theorem dX8_takesBy_4 : decode cX8_takesBy 4 = .ok (.iload_n 2, 1) := by decide +kernel
theorem dX8_takesBy_5 : decode cX8_takesBy 5 = .ok (.aload_n 0, 1) := by decide +kernel
theorem dX8_takesBy_6 : decode cX8_takesBy 6 = .ok (.getfield 109, 3) := by decide +kernel
theorem dX8_takesBy_9 : decode cX8_takesBy 9 = .ok (.if_icmp .ge 32, 3) := by decide +kernel
theorem dX8_takesBy_12 : decode cX8_takesBy 12 = .ok (.iload_n 1, 1) := by decide +kernel
theorem dX8_takesBy_13 : decode cX8_takesBy 13 = .ok (.aload_n 0, 1) := by decide +kernel
theorem dX8_takesBy_14 : decode cX8_takesBy 14 = .ok (.getfield 16, 3) := by decide +kernel
theorem dX8_takesBy_17 : decode cX8_takesBy 17 = .ok (.aload_n 0, 1) := by decide +kernel
theorem dX8_takesBy_18 : decode cX8_takesBy 18 = .ok (.getfield 19, 3) := by decide +kernel
theorem dX8_takesBy_21 : decode cX8_takesBy 21 = .ok (.bipush 6, 2) := by decide +kernel
theorem dX8_takesBy_23 : decode cX8_takesBy 23 = .ok (.iload_n 2, 1) := by decide +kernel
theorem dX8_takesBy_24 : decode cX8_takesBy 24 = .ok (.iadd, 1) := by decide +kernel
theorem dX8_takesBy_25 : decode cX8_takesBy 25 = .ok (.iaload, 1) := by decide +kernel
theorem dX8_takesBy_26 : decode cX8_takesBy 26 = .ok (.iaload, 1) := by decide +kernel
theorem dX8_takesBy_27 : decode cX8_takesBy 27 = .ok (.aload_n 0, 1) := by decide +kernel
theorem dX8_takesBy_28 : decode cX8_takesBy 28 = .ok (.iload_n 2, 1) := by decide +kernel
theorem dX8_takesBy_29 : decode cX8_takesBy 29 = .ok (.invokevirtual 185, 3) := by decide +kernel
theorem dX8_takesBy_32 : decode cX8_takesBy 32 = .ok (.imul, 1) := by decide +kernel
theorem dX8_takesBy_33 : decode cX8_takesBy 33 = .ok (.iadd, 1) := by decide +kernel
theorem dX8_takesBy_34 : decode cX8_takesBy 34 = .ok (.istore_n 1, 1) := by decide +kernel
theorem dX8_takesBy_35 : decode cX8_takesBy 35 = .ok (.iinc 2 1, 3) := by decide +kernel
theorem dX8_takesBy_38 : decode cX8_takesBy 38 = .ok (.goto (-34), 3) := by decide +kernel
theorem dX8_takesBy_41 : decode cX8_takesBy 41 = .ok (.iload_n 1, 1) := by decide +kernel
theorem dX8_takesBy_42 : decode cX8_takesBy 42 = .ok (.ireturn, 1) := by decide +kernel
theorem dX8_hookOf_0 : decode cX8_hookOf 0 = .ok (.iconst 0, 1) := by decide +kernel
theorem dX8_hookOf_1 : decode cX8_hookOf 1 = .ok (.istore_n 3, 1) := by decide +kernel
theorem dX8_hookOf_2 : decode cX8_hookOf 2 = .ok (.iconst 0, 1) := by decide +kernel
theorem dX8_hookOf_3 : decode cX8_hookOf 3 = .ok (.istore 4, 2) := by decide +kernel
theorem dX8_hookOf_5 : decode cX8_hookOf 5 = .ok (.iload 4, 2) := by decide +kernel
theorem dX8_hookOf_7 : decode cX8_hookOf 7 = .ok (.aload_n 0, 1) := by decide +kernel
theorem dX8_hookOf_8 : decode cX8_hookOf 8 = .ok (.getfield 109, 3) := by decide +kernel
theorem dX8_hookOf_11 : decode cX8_hookOf 11 = .ok (.if_icmp .ge 29, 3) := by decide +kernel
theorem dX8_hookOf_14 : decode cX8_hookOf 14 = .ok (.aload_n 0, 1) := by decide +kernel
theorem dX8_hookOf_15 : decode cX8_hookOf 15 = .ok (.getfield 19, 3) := by decide +kernel
theorem dX8_hookOf_18 : decode cX8_hookOf 18 = .ok (.iload_n 1, 1) := by decide +kernel
theorem dX8_hookOf_19 : decode cX8_hookOf 19 = .ok (.iload 4, 2) := by decide +kernel
theorem dX8_hookOf_21 : decode cX8_hookOf 21 = .ok (.iadd, 1) := by decide +kernel
theorem dX8_hookOf_22 : decode cX8_hookOf 22 = .ok (.iaload, 1) := by decide +kernel
theorem dX8_hookOf_23 : decode cX8_hookOf 23 = .ok (.iload_n 2, 1) := by decide +kernel
theorem dX8_hookOf_24 : decode cX8_hookOf 24 = .ok (.if_icmp .ne 8, 3) := by decide +kernel
theorem dX8_hookOf_27 : decode cX8_hookOf 27 = .ok (.iload 4, 2) := by decide +kernel
theorem dX8_hookOf_29 : decode cX8_hookOf 29 = .ok (.goto 4, 3) := by decide +kernel
theorem dX8_hookOf_32 : decode cX8_hookOf 32 = .ok (.iload_n 3, 1) := by decide +kernel
theorem dX8_hookOf_33 : decode cX8_hookOf 33 = .ok (.istore_n 3, 1) := by decide +kernel
theorem dX8_hookOf_34 : decode cX8_hookOf 34 = .ok (.iinc 4 1, 3) := by decide +kernel
theorem dX8_hookOf_37 : decode cX8_hookOf 37 = .ok (.goto (-32), 3) := by decide +kernel
theorem dX8_hookOf_40 : decode cX8_hookOf 40 = .ok (.iload_n 3, 1) := by decide +kernel
theorem dX8_hookOf_41 : decode cX8_hookOf 41 = .ok (.ireturn, 1) := by decide +kernel
set_option maxRecDepth 20000 in
theorem ggX8_exchanges_X8_hookOf : GoodIn wsX8_exchanges wsX8_hookOf := goodIn_r _ [7, 1, 2, 8, 9, 10, 11, 12, 13, 14, 15, 16, 17, 18, 19, 20, 21, 22, 23, 24, 25, 26, 27, 28, 29, 30, 31, 32, 33, 34, 35, 36, 37, 38, 39, 40, 41, 42, 43, 44, 45, 46, 47, 48, 49] (by decide +kernel) (by decide +kernel)
set_option maxRecDepth 20000 in
theorem gX8_exchanges_X8_hookOf : GoodIn wsX8_exchanges (wsV RX8 188 RX8 yX8_hookOf wsX8_hookOf) := goodIn_app (goodIn_of _ (by decide +kernel)) ggX8_exchanges_X8_hookOf
theorem dX8_exchanges_0 : decode cX8_exchanges 0 = .ok (.iconst 0, 1) := by decide +kernel
theorem dX8_exchanges_1 : decode cX8_exchanges 1 = .ok (.istore_n 1, 1) := by decide +kernel
theorem dX8_exchanges_2 : decode cX8_exchanges 2 = .ok (.iconst 0, 1) := by decide +kernel
theorem dX8_exchanges_3 : decode cX8_exchanges 3 = .ok (.istore_n 2, 1) := by decide +kernel
theorem dX8_exchanges_4 : decode cX8_exchanges 4 = .ok (.iconst 0, 1) := by decide +kernel
theorem dX8_exchanges_5 : decode cX8_exchanges 5 = .ok (.istore_n 3, 1) := by decide +kernel
theorem dX8_exchanges_6 : decode cX8_exchanges 6 = .ok (.iload_n 3, 1) := by decide +kernel
theorem dX8_exchanges_7 : decode cX8_exchanges 7 = .ok (.aload_n 0, 1) := by decide +kernel
theorem dX8_exchanges_8 : decode cX8_exchanges 8 = .ok (.getfield 109, 3) := by decide +kernel
theorem dX8_exchanges_11 : decode cX8_exchanges 11 = .ok (.if_icmp .ge 64, 3) := by decide +kernel
theorem dX8_exchanges_14 : decode cX8_exchanges 14 = .ok (.iload_n 1, 1) := by decide +kernel
theorem dX8_exchanges_15 : decode cX8_exchanges 15 = .ok (.iload_n 2, 1) := by decide +kernel
theorem dX8_exchanges_16 : decode cX8_exchanges 16 = .ok (.iload_n 3, 1) := by decide +kernel
theorem dX8_exchanges_17 : decode cX8_exchanges 17 = .ok (.ishr, 1) := by decide +kernel
theorem dX8_exchanges_18 : decode cX8_exchanges 18 = .ok (.iconst 1, 1) := by decide +kernel
theorem dX8_exchanges_19 : decode cX8_exchanges 19 = .ok (.iand, 1) := by decide +kernel
theorem dX8_exchanges_20 : decode cX8_exchanges 20 = .ok (.ifCond .ne 7, 3) := by decide +kernel
theorem dX8_exchanges_23 : decode cX8_exchanges 23 = .ok (.iconst 1, 1) := by decide +kernel
theorem dX8_exchanges_24 : decode cX8_exchanges 24 = .ok (.goto 4, 3) := by decide +kernel
theorem dX8_exchanges_27 : decode cX8_exchanges 27 = .ok (.iconst 0, 1) := by decide +kernel
theorem dX8_exchanges_28 : decode cX8_exchanges 28 = .ok (.iadd, 1) := by decide +kernel
theorem dX8_exchanges_29 : decode cX8_exchanges 29 = .ok (.istore_n 1, 1) := by decide +kernel
theorem dX8_exchanges_30 : decode cX8_exchanges 30 = .ok (.iload_n 3, 1) := by decide +kernel
theorem dX8_exchanges_31 : decode cX8_exchanges 31 = .ok (.istore 4, 2) := by decide +kernel
theorem dX8_exchanges_33 : decode cX8_exchanges 33 = .ok (.iload_n 2, 1) := by decide +kernel
theorem dX8_exchanges_34 : decode cX8_exchanges 34 = .ok (.iload 4, 2) := by decide +kernel
theorem dX8_exchanges_36 : decode cX8_exchanges 36 = .ok (.ishr, 1) := by decide +kernel
theorem dX8_exchanges_37 : decode cX8_exchanges 37 = .ok (.iconst 1, 1) := by decide +kernel
theorem dX8_exchanges_38 : decode cX8_exchanges 38 = .ok (.iand, 1) := by decide +kernel
theorem dX8_exchanges_39 : decode cX8_exchanges 39 = .ok (.ifCond .ne 30, 3) := by decide +kernel
theorem dX8_exchanges_42 : decode cX8_exchanges 42 = .ok (.iload_n 2, 1) := by decide +kernel
theorem dX8_exchanges_43 : decode cX8_exchanges 43 = .ok (.iconst 1, 1) := by decide +kernel
theorem dX8_exchanges_44 : decode cX8_exchanges 44 = .ok (.iload 4, 2) := by decide +kernel
theorem dX8_exchanges_46 : decode cX8_exchanges 46 = .ok (.ishl, 1) := by decide +kernel
theorem dX8_exchanges_47 : decode cX8_exchanges 47 = .ok (.ior, 1) := by decide +kernel
theorem dX8_exchanges_48 : decode cX8_exchanges 48 = .ok (.istore_n 2, 1) := by decide +kernel
theorem dX8_exchanges_49 : decode cX8_exchanges 49 = .ok (.aload_n 0, 1) := by decide +kernel
theorem dX8_exchanges_50 : decode cX8_exchanges 50 = .ok (.iconst 0, 1) := by decide +kernel
theorem dX8_exchanges_51 : decode cX8_exchanges 51 = .ok (.aload_n 0, 1) := by decide +kernel
theorem dX8_exchanges_52 : decode cX8_exchanges 52 = .ok (.getfield 19, 3) := by decide +kernel
theorem dX8_exchanges_55 : decode cX8_exchanges 55 = .ok (.bipush 6, 2) := by decide +kernel
theorem dX8_exchanges_57 : decode cX8_exchanges 57 = .ok (.iload 4, 2) := by decide +kernel
theorem dX8_exchanges_59 : decode cX8_exchanges 59 = .ok (.iadd, 1) := by decide +kernel
theorem dX8_exchanges_60 : decode cX8_exchanges 60 = .ok (.iaload, 1) := by decide +kernel
theorem dX8_exchanges_61 : decode cX8_exchanges 61 = .ok (.invokevirtual 188, 3) := by decide +kernel
theorem dX8_exchanges_64 : decode cX8_exchanges 64 = .ok (.istore 4, 2) := by decide +kernel
theorem dX8_exchanges_66 : decode cX8_exchanges 66 = .ok (.goto (-33), 3) := by decide +kernel
theorem dX8_exchanges_69 : decode cX8_exchanges 69 = .ok (.iinc 3 1, 3) := by decide +kernel
theorem dX8_exchanges_72 : decode cX8_exchanges 72 = .ok (.goto (-66), 3) := by decide +kernel
theorem dX8_exchanges_75 : decode cX8_exchanges 75 = .ok (.aload_n 0, 1) := by decide +kernel
theorem dX8_exchanges_76 : decode cX8_exchanges 76 = .ok (.getfield 109, 3) := by decide +kernel
theorem dX8_exchanges_79 : decode cX8_exchanges 79 = .ok (.iload_n 1, 1) := by decide +kernel
theorem dX8_exchanges_80 : decode cX8_exchanges 80 = .ok (.isub, 1) := by decide +kernel
theorem dX8_exchanges_81 : decode cX8_exchanges 81 = .ok (.ireturn, 1) := by decide +kernel
set_option maxRecDepth 20000 in
theorem ggX8_hangingNow_X8_ways : GoodIn wsX8_hangingNow wsX8_ways := goodIn_r _ [8, 2, 50, 51, 52, 53, 54, 55, 56, 57, 58, 59, 60, 61, 62, 63, 64, 65, 66, 67, 68, 69, 70, 71, 72, 73, 74, 75, 76, 77, 78, 79, 80, 81, 82, 83, 84, 85, 86, 87, 88, 89, 90, 91] (by decide +kernel) (by decide +kernel)
set_option maxRecDepth 20000 in
theorem gX8_hangingNow_X8_ways : GoodIn wsX8_hangingNow (wsV RX8 181 RX8 yX8_ways wsX8_ways) := goodIn_app (goodIn_of _ (by decide +kernel)) ggX8_hangingNow_X8_ways
set_option maxRecDepth 20000 in
theorem ggX8_hangingNow_X8_hangBy : GoodIn wsX8_hangingNow wsX8_hangBy := goodIn_r _ [12, 2, 3, 4, 5, 6, 7, 8, 50, 51, 52, 53, 54, 55, 56, 57, 58, 59, 60, 61, 62, 63, 64, 65, 66, 67, 68, 69, 70, 71, 72, 73, 74, 75, 76, 77, 78, 79, 80, 81, 82, 83, 84, 85, 86, 87, 88, 89, 90, 91] (by decide +kernel) (by decide +kernel)
set_option maxRecDepth 20000 in
theorem gX8_hangingNow_X8_hangBy : GoodIn wsX8_hangingNow (wsV RX8 192 RX8 yX8_hangBy wsX8_hangBy) := goodIn_app (goodIn_of _ (by decide +kernel)) ggX8_hangingNow_X8_hangBy
set_option maxRecDepth 20000 in
theorem ggX8_hangingNow_X8_takesBy : GoodIn wsX8_hangingNow wsX8_takesBy := goodIn_r _ [16, 2, 17, 3, 18, 19, 20, 7, 21, 22, 23, 24, 25, 26, 27, 28, 29, 30, 31, 32, 33, 34, 35, 36, 37, 38, 39, 40, 41, 50, 51, 52, 53, 54, 55, 56, 57, 58, 59, 60, 61, 62, 63, 64, 65, 66, 67, 68, 69, 70, 71, 72, 73, 74, 75, 76, 77, 78, 79, 80, 81, 82, 83, 84, 85, 86, 87, 88, 89, 90, 91] (by decide +kernel) (by decide +kernel)
set_option maxRecDepth 20000 in
theorem gX8_hangingNow_X8_takesBy : GoodIn wsX8_hangingNow (wsV RX8 195 RX8 yX8_takesBy wsX8_takesBy) := goodIn_app (goodIn_of _ (by decide +kernel)) ggX8_hangingNow_X8_takesBy
set_option maxRecDepth 20000 in
theorem ggX8_hangingNow_X8_exchanges : GoodIn wsX8_hangingNow wsX8_exchanges := goodIn_r _ [45, 2, 3, 46, 47, 48, 7, 49, 50, 51, 52, 53, 54, 55, 56, 57, 58, 59, 60, 61, 62, 63, 64, 65, 66, 67, 68, 69, 70, 71, 72, 73, 74, 75, 76, 77, 78, 79, 80, 81, 82, 83, 84, 85, 86, 87, 88, 89, 90, 91] (by decide +kernel) (by decide +kernel)
set_option maxRecDepth 20000 in
theorem gX8_hangingNow_X8_exchanges : GoodIn wsX8_hangingNow (wsV RX8 198 RX8 yX8_exchanges wsX8_exchanges) := goodIn_app (goodIn_of _ (by decide +kernel)) ggX8_hangingNow_X8_exchanges
theorem dX8_hangingNow_0 : decode cX8_hangingNow 0 = .ok (.iconst (-1), 1) := by decide +kernel
theorem dX8_hangingNow_1 : decode cX8_hangingNow 1 = .ok (.istore_n 2, 1) := by decide +kernel
theorem dX8_hangingNow_2 : decode cX8_hangingNow 2 = .ok (.ldc 191, 2) := by decide +kernel
theorem dX8_hangingNow_4 : decode cX8_hangingNow 4 = .ok (.istore_n 3, 1) := by decide +kernel
theorem dX8_hangingNow_5 : decode cX8_hangingNow 5 = .ok (.iconst 0, 1) := by decide +kernel
theorem dX8_hangingNow_6 : decode cX8_hangingNow 6 = .ok (.istore 4, 2) := by decide +kernel
theorem dX8_hangingNow_8 : decode cX8_hangingNow 8 = .ok (.iload 4, 2) := by decide +kernel
theorem dX8_hangingNow_10 : decode cX8_hangingNow 10 = .ok (.aload_n 0, 1) := by decide +kernel
theorem dX8_hangingNow_11 : decode cX8_hangingNow 11 = .ok (.invokevirtual 181, 3) := by decide +kernel
theorem dX8_hangingNow_14 : decode cX8_hangingNow 14 = .ok (.if_icmp .ge 47, 3) := by decide +kernel
theorem dX8_hangingNow_17 : decode cX8_hangingNow 17 = .ok (.aload_n 0, 1) := by decide +kernel
theorem dX8_hangingNow_18 : decode cX8_hangingNow 18 = .ok (.iload 4, 2) := by decide +kernel
theorem dX8_hangingNow_20 : decode cX8_hangingNow 20 = .ok (.invokevirtual 192, 3) := by decide +kernel
theorem dX8_hangingNow_23 : decode cX8_hangingNow 23 = .ok (.aload_n 0, 1) := by decide +kernel
theorem dX8_hangingNow_24 : decode cX8_hangingNow 24 = .ok (.invokevirtual 195, 3) := by decide +kernel
theorem dX8_hangingNow_27 : decode cX8_hangingNow 27 = .ok (.istore 5, 2) := by decide +kernel
theorem dX8_hangingNow_29 : decode cX8_hangingNow 29 = .ok (.iload 5, 2) := by decide +kernel
theorem dX8_hangingNow_31 : decode cX8_hangingNow 31 = .ok (.iload_n 3, 1) := by decide +kernel
theorem dX8_hangingNow_32 : decode cX8_hangingNow 32 = .ok (.if_icmp .ge 8, 3) := by decide +kernel
theorem dX8_hangingNow_35 : decode cX8_hangingNow 35 = .ok (.iload 4, 2) := by decide +kernel
theorem dX8_hangingNow_37 : decode cX8_hangingNow 37 = .ok (.goto 4, 3) := by decide +kernel
theorem dX8_hangingNow_40 : decode cX8_hangingNow 40 = .ok (.iload_n 2, 1) := by decide +kernel
theorem dX8_hangingNow_41 : decode cX8_hangingNow 41 = .ok (.istore_n 2, 1) := by decide +kernel
theorem dX8_hangingNow_42 : decode cX8_hangingNow 42 = .ok (.iload 5, 2) := by decide +kernel
theorem dX8_hangingNow_44 : decode cX8_hangingNow 44 = .ok (.iload_n 3, 1) := by decide +kernel
theorem dX8_hangingNow_45 : decode cX8_hangingNow 45 = .ok (.if_icmp .ge 8, 3) := by decide +kernel
theorem dX8_hangingNow_48 : decode cX8_hangingNow 48 = .ok (.iload 5, 2) := by decide +kernel
theorem dX8_hangingNow_50 : decode cX8_hangingNow 50 = .ok (.goto 4, 3) := by decide +kernel
theorem dX8_hangingNow_53 : decode cX8_hangingNow 53 = .ok (.iload_n 3, 1) := by decide +kernel
theorem dX8_hangingNow_54 : decode cX8_hangingNow 54 = .ok (.istore_n 3, 1) := by decide +kernel
theorem dX8_hangingNow_55 : decode cX8_hangingNow 55 = .ok (.iinc 4 1, 3) := by decide +kernel
theorem dX8_hangingNow_58 : decode cX8_hangingNow 58 = .ok (.goto (-50), 3) := by decide +kernel
theorem dX8_hangingNow_61 : decode cX8_hangingNow 61 = .ok (.aload_n 0, 1) := by decide +kernel
theorem dX8_hangingNow_62 : decode cX8_hangingNow 62 = .ok (.iload_n 2, 1) := by decide +kernel
theorem dX8_hangingNow_63 : decode cX8_hangingNow 63 = .ok (.invokevirtual 192, 3) := by decide +kernel
theorem dX8_hangingNow_66 : decode cX8_hangingNow 66 = .ok (.iload_n 1, 1) := by decide +kernel
theorem dX8_hangingNow_67 : decode cX8_hangingNow 67 = .ok (.iconst 2, 1) := by decide +kernel
theorem dX8_hangingNow_68 : decode cX8_hangingNow 68 = .ok (.if_icmp .ge 16, 3) := by decide +kernel
theorem dX8_hangingNow_71 : decode cX8_hangingNow 71 = .ok (.iload_n 1, 1) := by decide +kernel
theorem dX8_hangingNow_72 : decode cX8_hangingNow 72 = .ok (.ifCond .ne 7, 3) := by decide +kernel
theorem dX8_hangingNow_75 : decode cX8_hangingNow 75 = .ok (.iload_n 3, 1) := by decide +kernel
theorem dX8_hangingNow_76 : decode cX8_hangingNow 76 = .ok (.goto 7, 3) := by decide +kernel
theorem dX8_hangingNow_79 : decode cX8_hangingNow 79 = .ok (.aload_n 0, 1) := by decide +kernel
theorem dX8_hangingNow_80 : decode cX8_hangingNow 80 = .ok (.invokevirtual 198, 3) := by decide +kernel
theorem dX8_hangingNow_83 : decode cX8_hangingNow 83 = .ok (.ireturn, 1) := by decide +kernel
theorem dX8_hangingNow_84 : decode cX8_hangingNow 84 = .ok (.iload_n 1, 1) := by decide +kernel
theorem dX8_hangingNow_85 : decode cX8_hangingNow 85 = .ok (.bipush 10, 2) := by decide +kernel
theorem dX8_hangingNow_87 : decode cX8_hangingNow 87 = .ok (.isub, 1) := by decide +kernel
theorem dX8_hangingNow_88 : decode cX8_hangingNow 88 = .ok (.aload_n 0, 1) := by decide +kernel
theorem dX8_hangingNow_89 : decode cX8_hangingNow 89 = .ok (.getfield 109, 3) := by decide +kernel
theorem dX8_hangingNow_92 : decode cX8_hangingNow 92 = .ok (.if_icmp .ge 18, 3) := by decide +kernel
theorem dX8_hangingNow_95 : decode cX8_hangingNow 95 = .ok (.aload_n 0, 1) := by decide +kernel
theorem dX8_hangingNow_96 : decode cX8_hangingNow 96 = .ok (.getfield 19, 3) := by decide +kernel
theorem dX8_hangingNow_99 : decode cX8_hangingNow 99 = .ok (.bipush 6, 2) := by decide +kernel
theorem dX8_hangingNow_101 : decode cX8_hangingNow 101 = .ok (.iload_n 1, 1) := by decide +kernel
theorem dX8_hangingNow_102 : decode cX8_hangingNow 102 = .ok (.iadd, 1) := by decide +kernel
theorem dX8_hangingNow_103 : decode cX8_hangingNow 103 = .ok (.bipush 10, 2) := by decide +kernel
theorem dX8_hangingNow_105 : decode cX8_hangingNow 105 = .ok (.isub, 1) := by decide +kernel
theorem dX8_hangingNow_106 : decode cX8_hangingNow 106 = .ok (.iaload, 1) := by decide +kernel
theorem dX8_hangingNow_107 : decode cX8_hangingNow 107 = .ok (.goto 4, 3) := by decide +kernel
theorem dX8_hangingNow_110 : decode cX8_hangingNow 110 = .ok (.iconst (-1), 1) := by decide +kernel
theorem dX8_hangingNow_111 : decode cX8_hangingNow 111 = .ok (.ireturn, 1) := by decide +kernel
set_option maxRecDepth 20000 in
theorem ggX8_hanging_X8_within : GoodIn wsX8_hanging wsX8_within := goodIn_r _ [5] (by decide +kernel) (by decide +kernel)
set_option maxRecDepth 20000 in
theorem gX8_hanging_X8_within : GoodIn wsX8_hanging (va_wsS RX8 77 yX8_within wsX8_within) := goodIn_app (goodIn_of _ (by decide +kernel)) ggX8_hanging_X8_within
set_option maxRecDepth 20000 in
theorem ggX8_hanging_X8_hangingNow : GoodIn wsX8_hanging wsX8_hangingNow := goodIn_r _ [9, 10, 1, 11, 12, 13, 14, 4, 15, 16, 17, 18, 19, 20, 21, 22, 23, 24, 25, 26, 27, 28, 29, 30, 31, 32, 33, 34, 35, 36, 37, 38, 39, 40, 41, 42, 43, 44, 45, 46, 47, 48, 49, 50, 51, 52, 53, 54, 55, 56, 57, 58, 59, 60, 61, 62, 63, 64, 65, 66, 67, 68, 69, 70, 71, 72, 73, 74, 75, 76, 77, 78, 79, 80, 81, 82, 83, 84, 85, 86, 87, 88, 89, 90, 91, 92, 93, 94, 95, 96, 97, 98] (by decide +kernel) (by decide +kernel)
set_option maxRecDepth 20000 in
theorem gX8_hanging_X8_hangingNow : GoodIn wsX8_hanging (wsV RX8 201 RX8 yX8_hangingNow wsX8_hangingNow) := goodIn_app (goodIn_of _ (by decide +kernel)) ggX8_hanging_X8_hangingNow
theorem dX8_hanging_0 : decode cX8_hanging 0 = .ok (.iload_n 1, 1) := by decide +kernel
theorem dX8_hanging_1 : decode cX8_hanging 1 = .ok (.iconst 0, 1) := by decide +kernel
theorem dX8_hanging_2 : decode cX8_hanging 2 = .ok (.iconst 1, 1) := by decide +kernel
theorem dX8_hanging_3 : decode cX8_hanging 3 = .ok (.invokestatic 77, 3) := by decide +kernel
theorem dX8_hanging_6 : decode cX8_hanging 6 = .ok (.ifCond .ne 17, 3) := by decide +kernel
theorem dX8_hanging_9 : decode cX8_hanging 9 = .ok (.iload_n 1, 1) := by decide +kernel
theorem dX8_hanging_10 : decode cX8_hanging 10 = .ok (.bipush 10, 2) := by decide +kernel
theorem dX8_hanging_12 : decode cX8_hanging 12 = .ok (.bipush 15, 2) := by decide +kernel
theorem dX8_hanging_14 : decode cX8_hanging 14 = .ok (.invokestatic 77, 3) := by decide +kernel
theorem dX8_hanging_17 : decode cX8_hanging 17 = .ok (.ifCond .ne 6, 3) := by decide +kernel
theorem dX8_hanging_20 : decode cX8_hanging 20 = .ok (.bipush (-102), 2) := by decide +kernel
theorem dX8_hanging_22 : decode cX8_hanging 22 = .ok (.ireturn, 1) := by decide +kernel
theorem dX8_hanging_23 : decode cX8_hanging 23 = .ok (.aload_n 0, 1) := by decide +kernel
theorem dX8_hanging_24 : decode cX8_hanging 24 = .ok (.getfield 109, 3) := by decide +kernel
theorem dX8_hanging_27 : decode cX8_hanging 27 = .ok (.ifCond .ne 8, 3) := by decide +kernel
theorem dX8_hanging_30 : decode cX8_hanging 30 = .ok (.bipush (-103), 2) := by decide +kernel
theorem dX8_hanging_32 : decode cX8_hanging 32 = .ok (.goto 8, 3) := by decide +kernel
theorem dX8_hanging_35 : decode cX8_hanging 35 = .ok (.aload_n 0, 1) := by decide +kernel
theorem dX8_hanging_36 : decode cX8_hanging 36 = .ok (.iload_n 1, 1) := by decide +kernel
theorem dX8_hanging_37 : decode cX8_hanging 37 = .ok (.invokevirtual 201, 3) := by decide +kernel
theorem dX8_hanging_40 : decode cX8_hanging 40 = .ok (.ireturn, 1) := by decide +kernel
set_option maxRecDepth 20000 in
theorem ggX8_found_X8_isHook : GoodIn wsX8_found wsX8_isHook := goodIn_r _ [8, 9, 10, 11, 7, 12, 13, 14, 15, 16, 17, 18, 19, 20, 21, 22, 23, 24, 25, 26, 27, 28, 29, 30, 31, 32, 33, 34, 35, 36, 37, 38, 39, 40, 41, 42, 43, 44, 45, 46, 47, 48, 49, 50, 51, 52, 53, 54] (by decide +kernel) (by decide +kernel)
set_option maxRecDepth 20000 in
theorem gX8_found_X8_isHook : GoodIn wsX8_found (wsV RX8 130 RX8 yX8_isHook wsX8_isHook) := goodIn_app (goodIn_of _ (by decide +kernel)) ggX8_found_X8_isHook
theorem dX8_found_0 : decode cX8_found 0 = .ok (.aload_n 0, 1) := by decide +kernel
theorem dX8_found_1 : decode cX8_found 1 = .ok (.iload_n 1, 1) := by decide +kernel
theorem dX8_found_2 : decode cX8_found 2 = .ok (.invokevirtual 130, 3) := by decide +kernel
theorem dX8_found_5 : decode cX8_found 5 = .ok (.ifCond .eq 16, 3) := by decide +kernel
theorem dX8_found_8 : decode cX8_found 8 = .ok (.aload_n 0, 1) := by decide +kernel
theorem dX8_found_9 : decode cX8_found 9 = .ok (.iload_n 2, 1) := by decide +kernel
theorem dX8_found_10 : decode cX8_found 10 = .ok (.invokevirtual 130, 3) := by decide +kernel
theorem dX8_found_13 : decode cX8_found 13 = .ok (.ifCond .eq 8, 3) := by decide +kernel
theorem dX8_found_16 : decode cX8_found 16 = .ok (.iload_n 1, 1) := by decide +kernel
theorem dX8_found_17 : decode cX8_found 17 = .ok (.iload_n 2, 1) := by decide +kernel
theorem dX8_found_18 : decode cX8_found 18 = .ok (.if_icmp .ne 6, 3) := by decide +kernel
theorem dX8_found_21 : decode cX8_found 21 = .ok (.bipush (-101), 2) := by decide +kernel
theorem dX8_found_23 : decode cX8_found 23 = .ok (.ireturn, 1) := by decide +kernel
theorem dX8_found_24 : decode cX8_found 24 = .ok (.aload_n 0, 1) := by decide +kernel
theorem dX8_found_25 : decode cX8_found 25 = .ok (.getfield 127, 3) := by decide +kernel
theorem dX8_found_28 : decode cX8_found 28 = .ok (.bipush 8, 2) := by decide +kernel
