theorem dX8_found_30 : decode cX8_found 30 = .ok (.if_icmp .ne 6, 3) := by decide +kernel
theorem dX8_found_33 : decode cX8_found 33 = .ok (.bipush (-104), 2) := by decide +kernel
theorem dX8_found_35 : decode cX8_found 35 = .ok (.ireturn, 1) := by decide +kernel
theorem dX8_found_36 : decode cX8_found 36 = .ok (.aload_n 0, 1) := by decide +kernel
theorem dX8_found_37 : decode cX8_found 37 = .ok (.getfield 40, 3) := by decide +kernel
theorem dX8_found_40 : decode cX8_found 40 = .ok (.aload_n 0, 1) := by decide +kernel
theorem dX8_found_41 : decode cX8_found 41 = .ok (.getfield 127, 3) := by decide +kernel
theorem dX8_found_44 : decode cX8_found 44 = .ok (.iload_n 1, 1) := by decide +kernel
theorem dX8_found_45 : decode cX8_found 45 = .ok (.iastore, 1) := by decide +kernel
theorem dX8_found_46 : decode cX8_found 46 = .ok (.aload_n 0, 1) := by decide +kernel
theorem dX8_found_47 : decode cX8_found 47 = .ok (.getfield 43, 3) := by decide +kernel
theorem dX8_found_50 : decode cX8_found 50 = .ok (.aload_n 0, 1) := by decide +kernel
theorem dX8_found_51 : decode cX8_found 51 = .ok (.getfield 127, 3) := by decide +kernel
theorem dX8_found_54 : decode cX8_found 54 = .ok (.iload_n 2, 1) := by decide +kernel
theorem dX8_found_55 : decode cX8_found 55 = .ok (.iastore, 1) := by decide +kernel
theorem dX8_found_56 : decode cX8_found 56 = .ok (.aload_n 0, 1) := by decide +kernel
theorem dX8_found_57 : decode cX8_found 57 = .ok (.dup, 1) := by decide +kernel
theorem dX8_found_58 : decode cX8_found 58 = .ok (.getfield 127, 3) := by decide +kernel
theorem dX8_found_61 : decode cX8_found 61 = .ok (.iconst 1, 1) := by decide +kernel
theorem dX8_found_62 : decode cX8_found 62 = .ok (.iadd, 1) := by decide +kernel
theorem dX8_found_63 : decode cX8_found 63 = .ok (.putfield 127, 3) := by decide +kernel
theorem dX8_found_66 : decode cX8_found 66 = .ok (.aload_n 0, 1) := by decide +kernel
theorem dX8_found_67 : decode cX8_found 67 = .ok (.getfield 127, 3) := by decide +kernel
theorem dX8_found_70 : decode cX8_found 70 = .ok (.ireturn, 1) := by decide +kernel
theorem dX8_forget_0 : decode cX8_forget 0 = .ok (.aload_n 0, 1) := by decide +kernel
theorem dX8_forget_1 : decode cX8_forget 1 = .ok (.getfield 127, 3) := by decide +kernel
theorem dX8_forget_4 : decode cX8_forget 4 = .ok (.istore_n 1, 1) := by decide +kernel
theorem dX8_forget_5 : decode cX8_forget 5 = .ok (.aload_n 0, 1) := by decide +kernel
theorem dX8_forget_6 : decode cX8_forget 6 = .ok (.iconst 0, 1) := by decide +kernel
theorem dX8_forget_7 : decode cX8_forget 7 = .ok (.putfield 127, 3) := by decide +kernel
theorem dX8_forget_10 : decode cX8_forget 10 = .ok (.iload_n 1, 1) := by decide +kernel
theorem dX8_forget_11 : decode cX8_forget 11 = .ok (.ireturn, 1) := by decide +kernel
set_option maxRecDepth 20000 in
theorem ggX8_couldHang_X8_hookOf : GoodIn wsX8_couldHang wsX8_hookOf := goodIn_r _ [8, 9, 10, 15, 16, 17, 18, 19, 20, 21, 22, 23, 24, 25, 26, 27, 28, 29, 30, 31, 32, 33, 34, 35, 36, 37, 38, 39, 40, 41, 42, 43, 44, 45, 46, 47, 48, 49, 50, 51, 52, 53, 54, 55, 56] (by decide +kernel) (by decide +kernel)
set_option maxRecDepth 20000 in
theorem gX8_couldHang_X8_hookOf : GoodIn wsX8_couldHang (wsV RX8 188 RX8 yX8_hookOf wsX8_hookOf) := goodIn_app (goodIn_of _ (by decide +kernel)) ggX8_couldHang_X8_hookOf
set_option maxRecDepth 20000 in
theorem ggX8_couldHang_X8_nextOf : GoodIn wsX8_couldHang wsX8_nextOf := goodIn_r _ [14, 9, 15, 16, 17, 18, 19, 20, 21, 22, 23, 24, 25, 26, 27, 28, 29, 30, 31, 32, 33, 34, 35, 36, 37, 38, 39, 40, 41, 42, 43, 44, 45, 46, 47, 48, 49, 50, 51, 52, 53, 54, 55, 56] (by decide +kernel) (by decide +kernel)
set_option maxRecDepth 20000 in
theorem gX8_couldHang_X8_nextOf : GoodIn wsX8_couldHang (wsV RX8 151 RX8 yX8_nextOf wsX8_nextOf) := goodIn_app (goodIn_of _ (by decide +kernel)) ggX8_couldHang_X8_nextOf
theorem dX8_couldHang_0 : decode cX8_couldHang 0 = .ok (.iconst 1, 1) := by decide +kernel
theorem dX8_couldHang_1 : decode cX8_couldHang 1 = .ok (.istore_n 1, 1) := by decide +kernel
theorem dX8_couldHang_2 : decode cX8_couldHang 2 = .ok (.iconst 0, 1) := by decide +kernel
theorem dX8_couldHang_3 : decode cX8_couldHang 3 = .ok (.istore_n 2, 1) := by decide +kernel
theorem dX8_couldHang_4 : decode cX8_couldHang 4 = .ok (.iload_n 2, 1) := by decide +kernel
theorem dX8_couldHang_5 : decode cX8_couldHang 5 = .ok (.aload_n 0, 1) := by decide +kernel
theorem dX8_couldHang_6 : decode cX8_couldHang 6 = .ok (.getfield 127, 3) := by decide +kernel
theorem dX8_couldHang_9 : decode cX8_couldHang 9 = .ok (.if_icmp .ge 50, 3) := by decide +kernel
theorem dX8_couldHang_12 : decode cX8_couldHang 12 = .ok (.iload_n 1, 1) := by decide +kernel
theorem dX8_couldHang_13 : decode cX8_couldHang 13 = .ok (.ifCond .eq 38, 3) := by decide +kernel
theorem dX8_couldHang_16 : decode cX8_couldHang 16 = .ok (.aload_n 0, 1) := by decide +kernel
theorem dX8_couldHang_17 : decode cX8_couldHang 17 = .ok (.bipush 6, 2) := by decide +kernel
theorem dX8_couldHang_19 : decode cX8_couldHang 19 = .ok (.aload_n 0, 1) := by decide +kernel
theorem dX8_couldHang_20 : decode cX8_couldHang 20 = .ok (.getfield 43, 3) := by decide +kernel
theorem dX8_couldHang_23 : decode cX8_couldHang 23 = .ok (.iload_n 2, 1) := by decide +kernel
theorem dX8_couldHang_24 : decode cX8_couldHang 24 = .ok (.iaload, 1) := by decide +kernel
theorem dX8_couldHang_25 : decode cX8_couldHang 25 = .ok (.invokevirtual 188, 3) := by decide +kernel
theorem dX8_couldHang_28 : decode cX8_couldHang 28 = .ok (.aload_n 0, 1) := by decide +kernel
theorem dX8_couldHang_29 : decode cX8_couldHang 29 = .ok (.aload_n 0, 1) := by decide +kernel
theorem dX8_couldHang_30 : decode cX8_couldHang 30 = .ok (.bipush 6, 2) := by decide +kernel
theorem dX8_couldHang_32 : decode cX8_couldHang 32 = .ok (.aload_n 0, 1) := by decide +kernel
theorem dX8_couldHang_33 : decode cX8_couldHang 33 = .ok (.getfield 40, 3) := by decide +kernel
theorem dX8_couldHang_36 : decode cX8_couldHang 36 = .ok (.iload_n 2, 1) := by decide +kernel
theorem dX8_couldHang_37 : decode cX8_couldHang 37 = .ok (.iaload, 1) := by decide +kernel
theorem dX8_couldHang_38 : decode cX8_couldHang 38 = .ok (.invokevirtual 188, 3) := by decide +kernel
theorem dX8_couldHang_41 : decode cX8_couldHang 41 = .ok (.invokevirtual 151, 3) := by decide +kernel
theorem dX8_couldHang_44 : decode cX8_couldHang 44 = .ok (.if_icmp .ne 7, 3) := by decide +kernel
theorem dX8_couldHang_47 : decode cX8_couldHang 47 = .ok (.iconst 1, 1) := by decide +kernel
theorem dX8_couldHang_48 : decode cX8_couldHang 48 = .ok (.goto 4, 3) := by decide +kernel
theorem dX8_couldHang_51 : decode cX8_couldHang 51 = .ok (.iconst 0, 1) := by decide +kernel
theorem dX8_couldHang_52 : decode cX8_couldHang 52 = .ok (.istore_n 1, 1) := by decide +kernel
theorem dX8_couldHang_53 : decode cX8_couldHang 53 = .ok (.iinc 2 1, 3) := by decide +kernel
theorem dX8_couldHang_56 : decode cX8_couldHang 56 = .ok (.goto (-52), 3) := by decide +kernel
theorem dX8_couldHang_59 : decode cX8_couldHang 59 = .ok (.iload_n 1, 1) := by decide +kernel
theorem dX8_couldHang_60 : decode cX8_couldHang 60 = .ok (.ireturn, 1) := by decide +kernel
set_option maxRecDepth 20000 in
theorem ggX8_hungNow_X8_ways : GoodIn wsX8_hungNow wsX8_ways := goodIn_r _ [5, 6, 27, 28, 29, 30, 31, 32, 33, 34, 35, 36, 37, 38, 39, 40, 41, 42, 43, 44, 45, 46, 47, 48, 49, 50, 51, 52, 53, 54, 55, 56, 57, 58, 59, 60, 61, 62, 63, 64, 65, 66, 67, 68] (by decide +kernel) (by decide +kernel)
set_option maxRecDepth 20000 in
theorem gX8_hungNow_X8_ways : GoodIn wsX8_hungNow (wsV RX8 181 RX8 yX8_ways wsX8_ways) := goodIn_app (goodIn_of _ (by decide +kernel)) ggX8_hungNow_X8_ways
set_option maxRecDepth 20000 in
theorem ggX8_hungNow_X8_hangBy : GoodIn wsX8_hungNow wsX8_hangBy := goodIn_r _ [10, 6, 11, 1, 2, 3, 4, 5, 27, 28, 29, 30, 31, 32, 33, 34, 35, 36, 37, 38, 39, 40, 41, 42, 43, 44, 45, 46, 47, 48, 49, 50, 51, 52, 53, 54, 55, 56, 57, 58, 59, 60, 61, 62, 63, 64, 65, 66, 67, 68] (by decide +kernel) (by decide +kernel)
set_option maxRecDepth 20000 in
theorem gX8_hungNow_X8_hangBy : GoodIn wsX8_hungNow (wsV RX8 192 RX8 yX8_hangBy wsX8_hangBy) := goodIn_app (goodIn_of _ (by decide +kernel)) ggX8_hungNow_X8_hangBy
set_option maxRecDepth 20000 in
theorem ggX8_hungNow_X8_couldHang : GoodIn wsX8_hungNow wsX8_couldHang := goodIn_r _ [15, 16, 17, 18, 19, 20, 21, 4, 22, 6, 11, 23, 24, 25, 26, 27, 28, 29, 30, 31, 32, 33, 34, 35, 36, 37, 38, 39, 40, 41, 42, 43, 44, 45, 46, 47, 48, 49, 50, 51, 52, 53, 54, 55, 56, 57, 58, 59, 60, 61, 62, 63, 64, 65, 66, 67, 68] (by decide +kernel) (by decide +kernel)
set_option maxRecDepth 20000 in
theorem gX8_hungNow_X8_couldHang : GoodIn wsX8_hungNow (wsV RX8 204 RX8 yX8_couldHang wsX8_couldHang) := goodIn_app (goodIn_of _ (by decide +kernel)) ggX8_hungNow_X8_couldHang
theorem dX8_hungNow_0 : decode cX8_hungNow 0 = .ok (.iconst 0, 1) := by decide +kernel
theorem dX8_hungNow_1 : decode cX8_hungNow 1 = .ok (.istore_n 1, 1) := by decide +kernel
theorem dX8_hungNow_2 : decode cX8_hungNow 2 = .ok (.iconst 0, 1) := by decide +kernel
theorem dX8_hungNow_3 : decode cX8_hungNow 3 = .ok (.istore_n 2, 1) := by decide +kernel
theorem dX8_hungNow_4 : decode cX8_hungNow 4 = .ok (.iload_n 2, 1) := by decide +kernel
theorem dX8_hungNow_5 : decode cX8_hungNow 5 = .ok (.aload_n 0, 1) := by decide +kernel
theorem dX8_hungNow_6 : decode cX8_hungNow 6 = .ok (.invokevirtual 181, 3) := by decide +kernel
theorem dX8_hungNow_9 : decode cX8_hungNow 9 = .ok (.if_icmp .ge 29, 3) := by decide +kernel
theorem dX8_hungNow_12 : decode cX8_hungNow 12 = .ok (.aload_n 0, 1) := by decide +kernel
theorem dX8_hungNow_13 : decode cX8_hungNow 13 = .ok (.iload_n 2, 1) := by decide +kernel
theorem dX8_hungNow_14 : decode cX8_hungNow 14 = .ok (.invokevirtual 192, 3) := by decide +kernel
theorem dX8_hungNow_17 : decode cX8_hungNow 17 = .ok (.iload_n 1, 1) := by decide +kernel
theorem dX8_hungNow_18 : decode cX8_hungNow 18 = .ok (.aload_n 0, 1) := by decide +kernel
theorem dX8_hungNow_19 : decode cX8_hungNow 19 = .ok (.invokevirtual 204, 3) := by decide +kernel
theorem dX8_hungNow_22 : decode cX8_hungNow 22 = .ok (.ifCond .eq 7, 3) := by decide +kernel
theorem dX8_hungNow_25 : decode cX8_hungNow 25 = .ok (.iconst 1, 1) := by decide +kernel
theorem dX8_hungNow_26 : decode cX8_hungNow 26 = .ok (.goto 4, 3) := by decide +kernel
theorem dX8_hungNow_29 : decode cX8_hungNow 29 = .ok (.iconst 0, 1) := by decide +kernel
theorem dX8_hungNow_30 : decode cX8_hungNow 30 = .ok (.iadd, 1) := by decide +kernel
theorem dX8_hungNow_31 : decode cX8_hungNow 31 = .ok (.istore_n 1, 1) := by decide +kernel
theorem dX8_hungNow_32 : decode cX8_hungNow 32 = .ok (.iinc 2 1, 3) := by decide +kernel
theorem dX8_hungNow_35 : decode cX8_hungNow 35 = .ok (.goto (-31), 3) := by decide +kernel
theorem dX8_hungNow_38 : decode cX8_hungNow 38 = .ok (.iload_n 1, 1) := by decide +kernel
theorem dX8_hungNow_39 : decode cX8_hungNow 39 = .ok (.ireturn, 1) := by decide +kernel
set_option maxRecDepth 20000 in
theorem ggX8_hung_X8_hungNow : GoodIn wsX8_hung wsX8_hungNow := goodIn_r _ [6, 7, 8, 9, 5, 10, 1, 11, 12, 13, 14, 15, 16, 17, 18, 19, 20, 21, 22, 23, 24, 25, 26, 27, 28, 29, 30, 31, 32, 33, 34, 35, 36, 37, 38, 39, 40, 41, 42, 43, 44, 45, 46, 47, 48, 49, 50, 51, 52, 53, 54, 55, 56, 57, 58, 59, 60, 61, 62, 63, 64, 65, 66, 67, 68, 69, 70, 71, 72] (by decide +kernel) (by decide +kernel)
set_option maxRecDepth 20000 in
theorem gX8_hung_X8_hungNow : GoodIn wsX8_hung (wsV RX8 208 RX8 yX8_hungNow wsX8_hungNow) := goodIn_app (goodIn_of _ (by decide +kernel)) ggX8_hung_X8_hungNow
theorem dX8_hung_0 : decode cX8_hung 0 = .ok (.aload_n 0, 1) := by decide +kernel
theorem dX8_hung_1 : decode cX8_hung 1 = .ok (.getfield 109, 3) := by decide +kernel
theorem dX8_hung_4 : decode cX8_hung 4 = .ok (.ifCond .ne 8, 3) := by decide +kernel
theorem dX8_hung_7 : decode cX8_hung 7 = .ok (.bipush (-103), 2) := by decide +kernel
theorem dX8_hung_9 : decode cX8_hung 9 = .ok (.goto 7, 3) := by decide +kernel
theorem dX8_hung_12 : decode cX8_hung 12 = .ok (.aload_n 0, 1) := by decide +kernel
theorem dX8_hung_13 : decode cX8_hung 13 = .ok (.invokevirtual 208, 3) := by decide +kernel
theorem dX8_hung_16 : decode cX8_hung 16 = .ok (.ireturn, 1) := by decide +kernel
set_option maxRecDepth 20000 in
theorem ggX8_whereNow_X8_ways : GoodIn wsX8_whereNow wsX8_ways := goodIn_r _ [5, 6, 27, 28, 29, 30, 31, 32, 33, 34, 35, 36, 37, 38, 39, 40, 41, 42, 43, 44, 45, 46, 47, 48, 49, 50, 51, 52, 53, 54, 55, 56, 57, 58, 59, 60, 61, 62, 63, 64, 65, 66, 67, 68] (by decide +kernel) (by decide +kernel)
set_option maxRecDepth 20000 in
theorem gX8_whereNow_X8_ways : GoodIn wsX8_whereNow (wsV RX8 181 RX8 yX8_ways wsX8_ways) := goodIn_app (goodIn_of _ (by decide +kernel)) ggX8_whereNow_X8_ways
set_option maxRecDepth 20000 in
theorem ggX8_whereNow_X8_hangBy : GoodIn wsX8_whereNow wsX8_hangBy := goodIn_r _ [10, 6, 11, 1, 2, 3, 4, 5, 27, 28, 29, 30, 31, 32, 33, 34, 35, 36, 37, 38, 39, 40, 41, 42, 43, 44, 45, 46, 47, 48, 49, 50, 51, 52, 53, 54, 55, 56, 57, 58, 59, 60, 61, 62, 63, 64, 65, 66, 67, 68] (by decide +kernel) (by decide +kernel)
set_option maxRecDepth 20000 in
theorem gX8_whereNow_X8_hangBy : GoodIn wsX8_whereNow (wsV RX8 192 RX8 yX8_hangBy wsX8_hangBy) := goodIn_app (goodIn_of _ (by decide +kernel)) ggX8_whereNow_X8_hangBy
set_option maxRecDepth 20000 in
theorem ggX8_whereNow_X8_couldHang : GoodIn wsX8_whereNow wsX8_couldHang := goodIn_r _ [15, 16, 17, 18, 19, 20, 21, 4, 22, 6, 11, 23, 24, 25, 26, 27, 28, 29, 30, 31, 32, 33, 34, 35, 36, 37, 38, 39, 40, 41, 42, 43, 44, 45, 46, 47, 48, 49, 50, 51, 52, 53, 54, 55, 56, 57, 58, 59, 60, 61, 62, 63, 64, 65, 66, 67, 68] (by decide +kernel) (by decide +kernel)
set_option maxRecDepth 20000 in
theorem gX8_whereNow_X8_couldHang : GoodIn wsX8_whereNow (wsV RX8 204 RX8 yX8_couldHang wsX8_couldHang) := goodIn_app (goodIn_of _ (by decide +kernel)) ggX8_whereNow_X8_couldHang
set_option maxRecDepth 20000 in
theorem ggX8_whereNow_X8_hookOf : GoodIn wsX8_whereNow wsX8_hookOf := goodIn_r _ [22, 6, 11, 27, 28, 29, 30, 31, 32, 33, 34, 35, 36, 37, 38, 39, 40, 41, 42, 43, 44, 45, 46, 47, 48, 49, 50, 51, 52, 53, 54, 55, 56, 57, 58, 59, 60, 61, 62, 63, 64, 65, 66, 67, 68] (by decide +kernel) (by decide +kernel)
set_option maxRecDepth 20000 in
theorem gX8_whereNow_X8_hookOf : GoodIn wsX8_whereNow (wsV RX8 188 RX8 yX8_hookOf wsX8_hookOf) := goodIn_app (goodIn_of _ (by decide +kernel)) ggX8_whereNow_X8_hookOf
theorem dX8_whereNow_0 : decode cX8_whereNow 0 = .ok (.iconst 0, 1) := by decide +kernel
theorem dX8_whereNow_1 : decode cX8_whereNow 1 = .ok (.istore_n 2, 1) := by decide +kernel
theorem dX8_whereNow_2 : decode cX8_whereNow 2 = .ok (.iconst 0, 1) := by decide +kernel
theorem dX8_whereNow_3 : decode cX8_whereNow 3 = .ok (.istore_n 3, 1) := by decide +kernel
theorem dX8_whereNow_4 : decode cX8_whereNow 4 = .ok (.iload_n 3, 1) := by decide +kernel
theorem dX8_whereNow_5 : decode cX8_whereNow 5 = .ok (.aload_n 0, 1) := by decide +kernel
theorem dX8_whereNow_6 : decode cX8_whereNow 6 = .ok (.invokevirtual 181, 3) := by decide +kernel
theorem dX8_whereNow_9 : decode cX8_whereNow 9 = .ok (.if_icmp .ge 37, 3) := by decide +kernel
theorem dX8_whereNow_12 : decode cX8_whereNow 12 = .ok (.aload_n 0, 1) := by decide +kernel
theorem dX8_whereNow_13 : decode cX8_whereNow 13 = .ok (.iload_n 3, 1) := by decide +kernel
theorem dX8_whereNow_14 : decode cX8_whereNow 14 = .ok (.invokevirtual 192, 3) := by decide +kernel
theorem dX8_whereNow_17 : decode cX8_whereNow 17 = .ok (.iload_n 2, 1) := by decide +kernel
theorem dX8_whereNow_18 : decode cX8_whereNow 18 = .ok (.aload_n 0, 1) := by decide +kernel
theorem dX8_whereNow_19 : decode cX8_whereNow 19 = .ok (.invokevirtual 204, 3) := by decide +kernel
theorem dX8_whereNow_22 : decode cX8_whereNow 22 = .ok (.ifCond .eq 15, 3) := by decide +kernel
theorem dX8_whereNow_25 : decode cX8_whereNow 25 = .ok (.iconst 1, 1) := by decide +kernel
theorem dX8_whereNow_26 : decode cX8_whereNow 26 = .ok (.aload_n 0, 1) := by decide +kernel
theorem dX8_whereNow_27 : decode cX8_whereNow 27 = .ok (.bipush 6, 2) := by decide +kernel
theorem dX8_whereNow_29 : decode cX8_whereNow 29 = .ok (.iload_n 1, 1) := by decide +kernel
theorem dX8_whereNow_30 : decode cX8_whereNow 30 = .ok (.invokevirtual 188, 3) := by decide +kernel
theorem dX8_whereNow_33 : decode cX8_whereNow 33 = .ok (.ishl, 1) := by decide +kernel
theorem dX8_whereNow_34 : decode cX8_whereNow 34 = .ok (.goto 4, 3) := by decide +kernel
theorem dX8_whereNow_37 : decode cX8_whereNow 37 = .ok (.iconst 0, 1) := by decide +kernel
theorem dX8_whereNow_38 : decode cX8_whereNow 38 = .ok (.ior, 1) := by decide +kernel
theorem dX8_whereNow_39 : decode cX8_whereNow 39 = .ok (.istore_n 2, 1) := by decide +kernel
theorem dX8_whereNow_40 : decode cX8_whereNow 40 = .ok (.iinc 3 1, 3) := by decide +kernel
theorem dX8_whereNow_43 : decode cX8_whereNow 43 = .ok (.goto (-39), 3) := by decide +kernel
theorem dX8_whereNow_46 : decode cX8_whereNow 46 = .ok (.iload_n 2, 1) := by decide +kernel
theorem dX8_whereNow_47 : decode cX8_whereNow 47 = .ok (.ireturn, 1) := by decide +kernel
set_option maxRecDepth 20000 in
theorem ggX8_where_X8_isHook : GoodIn wsX8_where wsX8_isHook := goodIn_r _ [5, 6, 7, 8, 4, 9, 38, 39, 40, 41, 42, 43, 44, 45, 46, 47, 48, 49, 50, 51, 52, 53, 54, 55, 56, 57, 58, 59, 60, 61, 62, 63, 64, 65, 66, 67, 68, 69, 70, 71, 72, 73, 74, 75, 76, 77, 78, 79] (by decide +kernel) (by decide +kernel)
set_option maxRecDepth 20000 in
theorem gX8_where_X8_isHook : GoodIn wsX8_where (wsV RX8 130 RX8 yX8_isHook wsX8_isHook) := goodIn_app (goodIn_of _ (by decide +kernel)) ggX8_where_X8_isHook
set_option maxRecDepth 20000 in
theorem ggX8_where_X8_whereNow : GoodIn wsX8_where wsX8_whereNow := goodIn_r _ [13, 14, 15, 16, 4, 17, 6, 18, 19, 20, 21, 22, 23, 24, 25, 26, 27, 28, 29, 30, 31, 32, 33, 34, 35, 36, 37, 38, 39, 40, 41, 42, 43, 44, 45, 46, 47, 48, 49, 50, 51, 52, 53, 54, 55, 56, 57, 58, 59, 60, 61, 62, 63, 64, 65, 66, 67, 68, 69, 70, 71, 72, 73, 74, 75, 76, 77, 78, 79] (by decide +kernel) (by decide +kernel)
set_option maxRecDepth 20000 in
theorem gX8_where_X8_whereNow : GoodIn wsX8_where (wsV RX8 211 RX8 yX8_whereNow wsX8_whereNow) := goodIn_app (goodIn_of _ (by decide +kernel)) ggX8_where_X8_whereNow
theorem dX8_where_0 : decode cX8_where 0 = .ok (.aload_n 0, 1) := by decide +kernel
theorem dX8_where_1 : decode cX8_where 1 = .ok (.iload_n 1, 1) := by decide +kernel
theorem dX8_where_2 : decode cX8_where 2 = .ok (.invokevirtual 130, 3) := by decide +kernel
theorem dX8_where_5 : decode cX8_where 5 = .ok (.ifCond .eq 11, 3) := by decide +kernel
theorem dX8_where_8 : decode cX8_where 8 = .ok (.aload_n 0, 1) := by decide +kernel
theorem dX8_where_9 : decode cX8_where 9 = .ok (.iload_n 1, 1) := by decide +kernel
theorem dX8_where_10 : decode cX8_where 10 = .ok (.invokevirtual 211, 3) := by decide +kernel
theorem dX8_where_13 : decode cX8_where 13 = .ok (.goto 5, 3) := by decide +kernel
theorem dX8_where_16 : decode cX8_where 16 = .ok (.bipush (-101), 2) := by decide +kernel
theorem dX8_where_18 : decode cX8_where 18 = .ok (.ireturn, 1) := by decide +kernel
theorem dX8_draw_0 : decode cX8_draw 0 = .ok (.aload_n 0, 1) := by decide +kernel
theorem dX8_draw_1 : decode cX8_draw 1 = .ok (.ldc2_w 214, 3) := by decide +kernel
theorem dX8_draw_4 : decode cX8_draw 4 = .ok (.aload_n 0, 1) := by decide +kernel
theorem dX8_draw_5 : decode cX8_draw 5 = .ok (.getfield 216, 3) := by decide +kernel
theorem dX8_draw_8 : decode cX8_draw 8 = .ok (.lmul, 1) := by decide +kernel
theorem dX8_draw_9 : decode cX8_draw 9 = .ok (.ldc2_w 220, 3) := by decide +kernel
theorem dX8_draw_12 : decode cX8_draw 12 = .ok (.ladd, 1) := by decide +kernel
theorem dX8_draw_13 : decode cX8_draw 13 = .ok (.ldc2_w 222, 3) := by decide +kernel
theorem dX8_draw_16 : decode cX8_draw 16 = .ok (.land, 1) := by decide +kernel
theorem dX8_draw_17 : decode cX8_draw 17 = .ok (.putfield 216, 3) := by decide +kernel
theorem dX8_draw_20 : decode cX8_draw 20 = .ok (.aload_n 0, 1) := by decide +kernel
theorem dX8_draw_21 : decode cX8_draw 21 = .ok (.getfield 216, 3) := by decide +kernel
theorem dX8_draw_24 : decode cX8_draw 24 = .ok (.ldc2_w 224, 3) := by decide +kernel
theorem dX8_draw_27 : decode cX8_draw 27 = .ok (.ldiv, 1) := by decide +kernel
theorem dX8_draw_28 : decode cX8_draw 28 = .ok (.iload_n 1, 1) := by decide +kernel
theorem dX8_draw_29 : decode cX8_draw 29 = .ok (.i2l, 1) := by decide +kernel
theorem dX8_draw_30 : decode cX8_draw 30 = .ok (.lrem, 1) := by decide +kernel
theorem dX8_draw_31 : decode cX8_draw 31 = .ok (.l2i, 1) := by decide +kernel
theorem dX8_draw_32 : decode cX8_draw 32 = .ok (.ireturn, 1) := by decide +kernel
theorem dX8_wouldBeFull_0 : decode cX8_wouldBeFull 0 = .ok (.aload_n 0, 1) := by decide +kernel
theorem dX8_wouldBeFull_1 : decode cX8_wouldBeFull 1 = .ok (.getfield 22, 3) := by decide +kernel
theorem dX8_wouldBeFull_4 : decode cX8_wouldBeFull 4 = .ok (.bipush 6, 2) := by decide +kernel
theorem dX8_wouldBeFull_6 : decode cX8_wouldBeFull 6 = .ok (.aload_n 0, 1) := by decide +kernel
theorem dX8_wouldBeFull_7 : decode cX8_wouldBeFull 7 = .ok (.getfield 19, 3) := by decide +kernel
theorem dX8_wouldBeFull_10 : decode cX8_wouldBeFull 10 = .ok (.iload_n 1, 1) := by decide +kernel
theorem dX8_wouldBeFull_11 : decode cX8_wouldBeFull 11 = .ok (.iaload, 1) := by decide +kernel
theorem dX8_wouldBeFull_12 : decode cX8_wouldBeFull 12 = .ok (.iadd, 1) := by decide +kernel
theorem dX8_wouldBeFull_13 : decode cX8_wouldBeFull 13 = .ok (.iaload, 1) := by decide +kernel
theorem dX8_wouldBeFull_14 : decode cX8_wouldBeFull 14 = .ok (.aload_n 0, 1) := by decide +kernel
theorem dX8_wouldBeFull_15 : decode cX8_wouldBeFull 15 = .ok (.getfield 13, 3) := by decide +kernel
theorem dX8_wouldBeFull_18 : decode cX8_wouldBeFull 18 = .ok (.iload_n 1, 1) := by decide +kernel
theorem dX8_wouldBeFull_19 : decode cX8_wouldBeFull 19 = .ok (.iaload, 1) := by decide +kernel
theorem dX8_wouldBeFull_20 : decode cX8_wouldBeFull 20 = .ok (.if_icmp .lt 7, 3) := by decide +kernel
theorem dX8_wouldBeFull_23 : decode cX8_wouldBeFull 23 = .ok (.iconst 1, 1) := by decide +kernel
theorem dX8_wouldBeFull_24 : decode cX8_wouldBeFull 24 = .ok (.goto 4, 3) := by decide +kernel
theorem dX8_wouldBeFull_27 : decode cX8_wouldBeFull 27 = .ok (.iconst 0, 1) := by decide +kernel
theorem dX8_wouldBeFull_28 : decode cX8_wouldBeFull 28 = .ok (.ireturn, 1) := by decide +kernel
set_option maxRecDepth 20000 in
theorem ggX8_goParcel_X8_draw : GoodIn wsX8_goParcel wsX8_draw := goodIn_r _ [10, 11, 12, 13, 14, 15, 41, 42, 43, 44, 45, 46, 47, 48, 49, 50, 51, 52, 53, 54, 55, 56, 57, 58, 59, 60, 61, 62, 63, 64, 65, 66, 67, 68, 69, 70, 71, 72, 73, 74, 75, 76, 77, 78, 79, 80, 81, 82] (by decide +kernel) (by decide +kernel)
set_option maxRecDepth 20000 in
theorem gX8_goParcel_X8_draw : GoodIn wsX8_goParcel (wsV RX8 226 RX8 yX8_draw wsX8_draw) := goodIn_app (goodIn_of _ (by decide +kernel)) ggX8_goParcel_X8_draw
set_option maxRecDepth 20000 in
theorem ggX8_goParcel_X8_hookOf : GoodIn wsX8_goParcel wsX8_hookOf := goodIn_r _ [19, 1, 5, 41, 42, 43, 44, 45, 46, 47, 48, 49, 50, 51, 52, 53, 54, 55, 56, 57, 58, 59, 60, 61, 62, 63, 64, 65, 66, 67, 68, 69, 70, 71, 72, 73, 74, 75, 76, 77, 78, 79, 80, 81, 82] (by decide +kernel) (by decide +kernel)
set_option maxRecDepth 20000 in
theorem gX8_goParcel_X8_hookOf : GoodIn wsX8_goParcel (wsV RX8 188 RX8 yX8_hookOf wsX8_hookOf) := goodIn_app (goodIn_of _ (by decide +kernel)) ggX8_goParcel_X8_hookOf
set_option maxRecDepth 20000 in
theorem ggX8_goParcel_X8_wouldBeFull : GoodIn wsX8_goParcel wsX8_wouldBeFull := goodIn_r _ [23, 2, 5, 24, 41, 42, 43, 44, 45, 46, 47, 48, 49, 50, 51, 52, 53, 54, 55, 56, 57, 58, 59, 60, 61, 62, 63, 64, 65, 66, 67, 68, 69, 70, 71, 72, 73, 74, 75, 76, 77, 78, 79, 80, 81, 82] (by decide +kernel) (by decide +kernel)
set_option maxRecDepth 20000 in
theorem gX8_goParcel_X8_wouldBeFull : GoodIn wsX8_goParcel (wsV RX8 229 RX8 yX8_wouldBeFull wsX8_wouldBeFull) := goodIn_app (goodIn_of _ (by decide +kernel)) ggX8_goParcel_X8_wouldBeFull
set_option maxRecDepth 20000 in
theorem ggX8_goParcel_X8_tenthsIn : GoodIn wsX8_goParcel wsX8_tenthsIn := goodIn_r _ [28, 29, 30, 31, 9, 32, 41, 42, 43, 44, 45, 46, 47, 48, 49, 50, 51, 52, 53, 54, 55, 56, 57, 58, 59, 60, 61, 62, 63, 64, 65, 66, 67, 68, 69, 70, 71, 72, 73, 74, 75, 76, 77, 78, 79, 80, 81, 82] (by decide +kernel) (by decide +kernel)
set_option maxRecDepth 20000 in
theorem gX8_goParcel_X8_tenthsIn : GoodIn wsX8_goParcel (wsV RX8 148 RX8 yX8_tenthsIn wsX8_tenthsIn) := goodIn_app (goodIn_of _ (by decide +kernel)) ggX8_goParcel_X8_tenthsIn
set_option maxRecDepth 20000 in
theorem ggX8_goParcel_X8_tenthsNext : GoodIn wsX8_goParcel wsX8_tenthsNext := goodIn_r _ [36, 25, 26, 27, 9, 28, 29, 30, 31, 32, 41, 42, 43, 44, 45, 46, 47, 48, 49, 50, 51, 52, 53, 54, 55, 56, 57, 58, 59, 60, 61, 62, 63, 64, 65, 66, 67, 68, 69, 70, 71, 72, 73, 74, 75, 76, 77, 78, 79, 80, 81, 82] (by decide +kernel) (by decide +kernel)
set_option maxRecDepth 20000 in
theorem gX8_goParcel_X8_tenthsNext : GoodIn wsX8_goParcel (wsV RX8 157 RX8 yX8_tenthsNext wsX8_tenthsNext) := goodIn_app (goodIn_of _ (by decide +kernel)) ggX8_goParcel_X8_tenthsNext
set_option maxRecDepth 20000 in
theorem ggX8_goParcel_X8_nextOf : GoodIn wsX8_goParcel wsX8_nextOf := goodIn_r _ [40, 1, 41, 42, 43, 44, 45, 46, 47, 48, 49, 50, 51, 52, 53, 54, 55, 56, 57, 58, 59, 60, 61, 62, 63, 64, 65, 66, 67, 68, 69, 70, 71, 72, 73, 74, 75, 76, 77, 78, 79, 80, 81, 82] (by decide +kernel) (by decide +kernel)
set_option maxRecDepth 20000 in
theorem gX8_goParcel_X8_nextOf : GoodIn wsX8_goParcel (wsV RX8 151 RX8 yX8_nextOf wsX8_nextOf) := goodIn_app (goodIn_of _ (by decide +kernel)) ggX8_goParcel_X8_nextOf
theorem dX8_goParcel_0 : decode cX8_goParcel 0 = .ok (.aload_n 0, 1) := by decide +kernel
theorem dX8_goParcel_1 : decode cX8_goParcel 1 = .ok (.aload_n 0, 1) := by decide +kernel
theorem dX8_goParcel_2 : decode cX8_goParcel 2 = .ok (.getfield 109, 3) := by decide +kernel
theorem dX8_goParcel_5 : decode cX8_goParcel 5 = .ok (.invokevirtual 226, 3) := by decide +kernel
theorem dX8_goParcel_8 : decode cX8_goParcel 8 = .ok (.istore_n 1, 1) := by decide +kernel
theorem dX8_goParcel_9 : decode cX8_goParcel 9 = .ok (.aload_n 0, 1) := by decide +kernel
theorem dX8_goParcel_10 : decode cX8_goParcel 10 = .ok (.iconst 0, 1) := by decide +kernel
theorem dX8_goParcel_11 : decode cX8_goParcel 11 = .ok (.iload_n 1, 1) := by decide +kernel
theorem dX8_goParcel_12 : decode cX8_goParcel 12 = .ok (.invokevirtual 188, 3) := by decide +kernel
theorem dX8_goParcel_15 : decode cX8_goParcel 15 = .ok (.istore_n 2, 1) := by decide +kernel
theorem dX8_goParcel_16 : decode cX8_goParcel 16 = .ok (.aload_n 0, 1) := by decide +kernel
theorem dX8_goParcel_17 : decode cX8_goParcel 17 = .ok (.getfield 22, 3) := by decide +kernel
theorem dX8_goParcel_20 : decode cX8_goParcel 20 = .ok (.bipush 6, 2) := by decide +kernel
theorem dX8_goParcel_22 : decode cX8_goParcel 22 = .ok (.iload_n 1, 1) := by decide +kernel
theorem dX8_goParcel_23 : decode cX8_goParcel 23 = .ok (.iadd, 1) := by decide +kernel
theorem dX8_goParcel_24 : decode cX8_goParcel 24 = .ok (.aload_n 0, 1) := by decide +kernel
theorem dX8_goParcel_25 : decode cX8_goParcel 25 = .ok (.iload_n 2, 1) := by decide +kernel
theorem dX8_goParcel_26 : decode cX8_goParcel 26 = .ok (.invokevirtual 229, 3) := by decide +kernel
theorem dX8_goParcel_29 : decode cX8_goParcel 29 = .ok (.ifCond .eq 7, 3) := by decide +kernel
theorem dX8_goParcel_32 : decode cX8_goParcel 32 = .ok (.iconst 0, 1) := by decide +kernel
theorem dX8_goParcel_33 : decode cX8_goParcel 33 = .ok (.goto 12, 3) := by decide +kernel
theorem dX8_goParcel_36 : decode cX8_goParcel 36 = .ok (.aload_n 0, 1) := by decide +kernel
theorem dX8_goParcel_37 : decode cX8_goParcel 37 = .ok (.getfield 22, 3) := by decide +kernel
theorem dX8_goParcel_40 : decode cX8_goParcel 40 = .ok (.bipush 6, 2) := by decide +kernel
theorem dX8_goParcel_42 : decode cX8_goParcel 42 = .ok (.iload_n 1, 1) := by decide +kernel
theorem dX8_goParcel_43 : decode cX8_goParcel 43 = .ok (.iadd, 1) := by decide +kernel
theorem dX8_goParcel_44 : decode cX8_goParcel 44 = .ok (.iaload, 1) := by decide +kernel
theorem dX8_goParcel_45 : decode cX8_goParcel 45 = .ok (.iastore, 1) := by decide +kernel
theorem dX8_goParcel_46 : decode cX8_goParcel 46 = .ok (.aload_n 0, 1) := by decide +kernel
theorem dX8_goParcel_47 : decode cX8_goParcel 47 = .ok (.bipush 10, 2) := by decide +kernel
theorem dX8_goParcel_49 : decode cX8_goParcel 49 = .ok (.invokevirtual 226, 3) := by decide +kernel
theorem dX8_goParcel_52 : decode cX8_goParcel 52 = .ok (.istore_n 3, 1) := by decide +kernel
theorem dX8_goParcel_53 : decode cX8_goParcel 53 = .ok (.aload_n 0, 1) := by decide +kernel
theorem dX8_goParcel_54 : decode cX8_goParcel 54 = .ok (.iconst 0, 1) := by decide +kernel
theorem dX8_goParcel_55 : decode cX8_goParcel 55 = .ok (.iload_n 2, 1) := by decide +kernel
theorem dX8_goParcel_56 : decode cX8_goParcel 56 = .ok (.invokevirtual 148, 3) := by decide +kernel
theorem dX8_goParcel_59 : decode cX8_goParcel 59 = .ok (.istore 4, 2) := by decide +kernel
theorem dX8_goParcel_61 : decode cX8_goParcel 61 = .ok (.iload_n 3, 1) := by decide +kernel
theorem dX8_goParcel_62 : decode cX8_goParcel 62 = .ok (.iload 4, 2) := by decide +kernel
theorem dX8_goParcel_64 : decode cX8_goParcel 64 = .ok (.if_icmp .lt 32, 3) := by decide +kernel
theorem dX8_goParcel_67 : decode cX8_goParcel 67 = .ok (.iload_n 3, 1) := by decide +kernel
theorem dX8_goParcel_68 : decode cX8_goParcel 68 = .ok (.iload 4, 2) := by decide +kernel
theorem dX8_goParcel_70 : decode cX8_goParcel 70 = .ok (.aload_n 0, 1) := by decide +kernel
theorem dX8_goParcel_71 : decode cX8_goParcel 71 = .ok (.iconst 0, 1) := by decide +kernel
theorem dX8_goParcel_72 : decode cX8_goParcel 72 = .ok (.iload_n 2, 1) := by decide +kernel
theorem dX8_goParcel_73 : decode cX8_goParcel 73 = .ok (.invokevirtual 157, 3) := by decide +kernel
theorem dX8_goParcel_76 : decode cX8_goParcel 76 = .ok (.iadd, 1) := by decide +kernel
theorem dX8_goParcel_77 : decode cX8_goParcel 77 = .ok (.if_icmp .ge 19, 3) := by decide +kernel
theorem dX8_goParcel_80 : decode cX8_goParcel 80 = .ok (.aload_n 0, 1) := by decide +kernel
theorem dX8_goParcel_81 : decode cX8_goParcel 81 = .ok (.aload_n 0, 1) := by decide +kernel
theorem dX8_goParcel_82 : decode cX8_goParcel 82 = .ok (.iload_n 2, 1) := by decide +kernel
theorem dX8_goParcel_83 : decode cX8_goParcel 83 = .ok (.invokevirtual 151, 3) := by decide +kernel
theorem dX8_goParcel_86 : decode cX8_goParcel 86 = .ok (.invokevirtual 229, 3) := by decide +kernel
theorem dX8_goParcel_89 : decode cX8_goParcel 89 = .ok (.ifCond .ne 7, 3) := by decide +kernel
theorem dX8_goParcel_92 : decode cX8_goParcel 92 = .ok (.iconst 1, 1) := by decide +kernel
theorem dX8_goParcel_93 : decode cX8_goParcel 93 = .ok (.goto 4, 3) := by decide +kernel
theorem dX8_goParcel_96 : decode cX8_goParcel 96 = .ok (.iconst 0, 1) := by decide +kernel
theorem dX8_goParcel_97 : decode cX8_goParcel 97 = .ok (.istore 5, 2) := by decide +kernel
theorem dX8_goParcel_99 : decode cX8_goParcel 99 = .ok (.aload_n 0, 1) := by decide +kernel
theorem dX8_goParcel_100 : decode cX8_goParcel 100 = .ok (.dup, 1) := by decide +kernel
theorem dX8_goParcel_101 : decode cX8_goParcel 101 = .ok (.getfield 232, 3) := by decide +kernel
theorem dX8_goParcel_104 : decode cX8_goParcel 104 = .ok (.iload 5, 2) := by decide +kernel
theorem dX8_goParcel_106 : decode cX8_goParcel 106 = .ok (.ifCond .eq 7, 3) := by decide +kernel
theorem dX8_goParcel_109 : decode cX8_goParcel 109 = .ok (.iconst 1, 1) := by decide +kernel
theorem dX8_goParcel_110 : decode cX8_goParcel 110 = .ok (.goto 4, 3) := by decide +kernel
theorem dX8_goParcel_113 : decode cX8_goParcel 113 = .ok (.iconst 0, 1) := by decide +kernel
theorem dX8_goParcel_114 : decode cX8_goParcel 114 = .ok (.iadd, 1) := by decide +kernel
theorem dX8_goParcel_115 : decode cX8_goParcel 115 = .ok (.putfield 232, 3) := by decide +kernel
theorem dX8_goParcel_118 : decode cX8_goParcel 118 = .ok (.aload_n 0, 1) := by decide +kernel
theorem dX8_goParcel_119 : decode cX8_goParcel 119 = .ok (.dup, 1) := by decide +kernel
theorem dX8_goParcel_120 : decode cX8_goParcel 120 = .ok (.getfield 235, 3) := by decide +kernel
theorem dX8_goParcel_123 : decode cX8_goParcel 123 = .ok (.iload_n 3, 1) := by decide +kernel
theorem dX8_goParcel_124 : decode cX8_goParcel 124 = .ok (.iload 4, 2) := by decide +kernel
theorem dX8_goParcel_126 : decode cX8_goParcel 126 = .ok (.if_icmp .lt 12, 3) := by decide +kernel
theorem dX8_goParcel_129 : decode cX8_goParcel 129 = .ok (.iload 5, 2) := by decide +kernel
theorem dX8_goParcel_131 : decode cX8_goParcel 131 = .ok (.ifCond .ne 7, 3) := by decide +kernel
theorem dX8_goParcel_134 : decode cX8_goParcel 134 = .ok (.iconst 1, 1) := by decide +kernel
theorem dX8_goParcel_135 : decode cX8_goParcel 135 = .ok (.goto 4, 3) := by decide +kernel
theorem dX8_goParcel_138 : decode cX8_goParcel 138 = .ok (.iconst 0, 1) := by decide +kernel
theorem dX8_goParcel_139 : decode cX8_goParcel 139 = .ok (.iadd, 1) := by decide +kernel
theorem dX8_goParcel_140 : decode cX8_goParcel 140 = .ok (.putfield 235, 3) := by decide +kernel
theorem dX8_goParcel_143 : decode cX8_goParcel 143 = .ok (.iload 5, 2) := by decide +kernel
theorem dX8_goParcel_145 : decode cX8_goParcel 145 = .ok (.ifCond .eq 16, 3) := by decide +kernel
theorem dX8_goParcel_148 : decode cX8_goParcel 148 = .ok (.aload_n 0, 1) := by decide +kernel
theorem dX8_goParcel_149 : decode cX8_goParcel 149 = .ok (.getfield 19, 3) := by decide +kernel
theorem dX8_goParcel_152 : decode cX8_goParcel 152 = .ok (.aload_n 0, 1) := by decide +kernel
theorem dX8_goParcel_153 : decode cX8_goParcel 153 = .ok (.iload_n 2, 1) := by decide +kernel
theorem dX8_goParcel_154 : decode cX8_goParcel 154 = .ok (.invokevirtual 151, 3) := by decide +kernel
theorem dX8_goParcel_157 : decode cX8_goParcel 157 = .ok (.iaload, 1) := by decide +kernel
theorem dX8_goParcel_158 : decode cX8_goParcel 158 = .ok (.goto 4, 3) := by decide +kernel
theorem dX8_goParcel_161 : decode cX8_goParcel 161 = .ok (.iload_n 1, 1) := by decide +kernel
theorem dX8_goParcel_162 : decode cX8_goParcel 162 = .ok (.istore 6, 2) := by decide +kernel
theorem dX8_goParcel_164 : decode cX8_goParcel 164 = .ok (.aload_n 0, 1) := by decide +kernel
theorem dX8_goParcel_165 : decode cX8_goParcel 165 = .ok (.getfield 22, 3) := by decide +kernel
theorem dX8_goParcel_168 : decode cX8_goParcel 168 = .ok (.bipush 6, 2) := by decide +kernel
theorem dX8_goParcel_170 : decode cX8_goParcel 170 = .ok (.iload 6, 2) := by decide +kernel
theorem dX8_goParcel_172 : decode cX8_goParcel 172 = .ok (.iadd, 1) := by decide +kernel
theorem dX8_goParcel_173 : decode cX8_goParcel 173 = .ok (.dup2, 1) := by decide +kernel
theorem dX8_goParcel_174 : decode cX8_goParcel 174 = .ok (.iaload, 1) := by decide +kernel
theorem dX8_goParcel_175 : decode cX8_goParcel 175 = .ok (.iconst 1, 1) := by decide +kernel
theorem dX8_goParcel_176 : decode cX8_goParcel 176 = .ok (.iadd, 1) := by decide +kernel
theorem dX8_goParcel_177 : decode cX8_goParcel 177 = .ok (.iastore, 1) := by decide +kernel
theorem dX8_goParcel_178 : decode cX8_goParcel 178 = .ok (.return_, 1) := by decide +kernel
set_option maxRecDepth 20000 in
theorem ggX8_shiftsNow_X8_goParcel : GoodIn wsX8_shiftsNow wsX8_goParcel := goodIn_r _ [9, 10, 1, 3, 4, 11, 12, 13, 14, 8, 15, 16, 2, 17, 18, 19, 20, 21, 22, 23, 24, 25, 26, 27, 28, 29, 30, 31, 32, 33, 34, 35, 36, 37, 38, 39, 40, 41, 42, 43, 44, 45, 46, 47, 48, 49, 50, 51, 52, 53, 54, 55, 56, 57, 58, 59, 60, 61, 62, 63, 64, 65, 66, 67, 68, 69, 70, 71, 72, 73, 74, 75, 76, 77, 78, 79, 80, 81, 82, 83, 84, 85, 86] (by decide +kernel) (by decide +kernel)
set_option maxRecDepth 20000 in
theorem gX8_shiftsNow_X8_goParcel : GoodIn wsX8_shiftsNow (wsV RX8 238 RX8 yX8_goParcel wsX8_goParcel) := goodIn_app (goodIn_of _ (by decide +kernel)) ggX8_shiftsNow_X8_goParcel
theorem dX8_shiftsNow_0 : decode cX8_shiftsNow 0 = .ok (.iconst 0, 1) := by decide +kernel
theorem dX8_shiftsNow_1 : decode cX8_shiftsNow 1 = .ok (.istore 4, 2) := by decide +kernel
theorem dX8_shiftsNow_3 : decode cX8_shiftsNow 3 = .ok (.iload 4, 2) := by decide +kernel
theorem dX8_shiftsNow_5 : decode cX8_shiftsNow 5 = .ok (.bipush 6, 2) := by decide +kernel
theorem dX8_shiftsNow_7 : decode cX8_shiftsNow 7 = .ok (.if_icmp .ge 20, 3) := by decide +kernel
theorem dX8_shiftsNow_10 : decode cX8_shiftsNow 10 = .ok (.aload_n 0, 1) := by decide +kernel
theorem dX8_shiftsNow_11 : decode cX8_shiftsNow 11 = .ok (.getfield 22, 3) := by decide +kernel
theorem dX8_shiftsNow_14 : decode cX8_shiftsNow 14 = .ok (.bipush 6, 2) := by decide +kernel
theorem dX8_shiftsNow_16 : decode cX8_shiftsNow 16 = .ok (.iload 4, 2) := by decide +kernel
theorem dX8_shiftsNow_18 : decode cX8_shiftsNow 18 = .ok (.iadd, 1) := by decide +kernel
theorem dX8_shiftsNow_19 : decode cX8_shiftsNow 19 = .ok (.iconst 0, 1) := by decide +kernel
theorem dX8_shiftsNow_20 : decode cX8_shiftsNow 20 = .ok (.iastore, 1) := by decide +kernel
theorem dX8_shiftsNow_21 : decode cX8_shiftsNow 21 = .ok (.iinc 4 1, 3) := by decide +kernel
theorem dX8_shiftsNow_24 : decode cX8_shiftsNow 24 = .ok (.goto (-21), 3) := by decide +kernel
theorem dX8_shiftsNow_27 : decode cX8_shiftsNow 27 = .ok (.aload_n 0, 1) := by decide +kernel
theorem dX8_shiftsNow_28 : decode cX8_shiftsNow 28 = .ok (.iload_n 2, 1) := by decide +kernel
theorem dX8_shiftsNow_29 : decode cX8_shiftsNow 29 = .ok (.i2l, 1) := by decide +kernel
theorem dX8_shiftsNow_30 : decode cX8_shiftsNow 30 = .ok (.putfield 216, 3) := by decide +kernel
theorem dX8_shiftsNow_33 : decode cX8_shiftsNow 33 = .ok (.aload_n 0, 1) := by decide +kernel
theorem dX8_shiftsNow_34 : decode cX8_shiftsNow 34 = .ok (.iconst 0, 1) := by decide +kernel
theorem dX8_shiftsNow_35 : decode cX8_shiftsNow 35 = .ok (.putfield 232, 3) := by decide +kernel
theorem dX8_shiftsNow_38 : decode cX8_shiftsNow 38 = .ok (.aload_n 0, 1) := by decide +kernel
theorem dX8_shiftsNow_39 : decode cX8_shiftsNow 39 = .ok (.iconst 0, 1) := by decide +kernel
theorem dX8_shiftsNow_40 : decode cX8_shiftsNow 40 = .ok (.putfield 235, 3) := by decide +kernel
theorem dX8_shiftsNow_43 : decode cX8_shiftsNow 43 = .ok (.iconst 0, 1) := by decide +kernel
theorem dX8_shiftsNow_44 : decode cX8_shiftsNow 44 = .ok (.istore 4, 2) := by decide +kernel
theorem dX8_shiftsNow_46 : decode cX8_shiftsNow 46 = .ok (.iload 4, 2) := by decide +kernel
theorem dX8_shiftsNow_48 : decode cX8_shiftsNow 48 = .ok (.iload_n 1, 1) := by decide +kernel
theorem dX8_shiftsNow_49 : decode cX8_shiftsNow 49 = .ok (.if_icmp .ge 13, 3) := by decide +kernel
theorem dX8_shiftsNow_52 : decode cX8_shiftsNow 52 = .ok (.aload_n 0, 1) := by decide +kernel
theorem dX8_shiftsNow_53 : decode cX8_shiftsNow 53 = .ok (.invokevirtual 238, 3) := by decide +kernel
theorem dX8_shiftsNow_56 : decode cX8_shiftsNow 56 = .ok (.iinc 4 1, 3) := by decide +kernel
theorem dX8_shiftsNow_59 : decode cX8_shiftsNow 59 = .ok (.goto (-13), 3) := by decide +kernel
theorem dX8_shiftsNow_62 : decode cX8_shiftsNow 62 = .ok (.iload_n 3, 1) := by decide +kernel
theorem dX8_shiftsNow_63 : decode cX8_shiftsNow 63 = .ok (.ifCond .ne 10, 3) := by decide +kernel
theorem dX8_shiftsNow_66 : decode cX8_shiftsNow 66 = .ok (.aload_n 0, 1) := by decide +kernel
theorem dX8_shiftsNow_67 : decode cX8_shiftsNow 67 = .ok (.getfield 232, 3) := by decide +kernel
theorem dX8_shiftsNow_70 : decode cX8_shiftsNow 70 = .ok (.goto 20, 3) := by decide +kernel
theorem dX8_shiftsNow_73 : decode cX8_shiftsNow 73 = .ok (.iload_n 3, 1) := by decide +kernel
theorem dX8_shiftsNow_74 : decode cX8_shiftsNow 74 = .ok (.iconst 1, 1) := by decide +kernel
theorem dX8_shiftsNow_75 : decode cX8_shiftsNow 75 = .ok (.if_icmp .ne 10, 3) := by decide +kernel
theorem dX8_shiftsNow_78 : decode cX8_shiftsNow 78 = .ok (.aload_n 0, 1) := by decide +kernel
theorem dX8_shiftsNow_79 : decode cX8_shiftsNow 79 = .ok (.getfield 235, 3) := by decide +kernel
theorem dX8_shiftsNow_82 : decode cX8_shiftsNow 82 = .ok (.goto 8, 3) := by decide +kernel
theorem dX8_shiftsNow_85 : decode cX8_shiftsNow 85 = .ok (.aload_n 0, 1) := by decide +kernel
theorem dX8_shiftsNow_86 : decode cX8_shiftsNow 86 = .ok (.getfield 216, 3) := by decide +kernel
theorem dX8_shiftsNow_89 : decode cX8_shiftsNow 89 = .ok (.l2i, 1) := by decide +kernel
theorem dX8_shiftsNow_90 : decode cX8_shiftsNow 90 = .ok (.ireturn, 1) := by decide +kernel
set_option maxRecDepth 20000 in
theorem ggX8_shifts_X8_within : GoodIn wsX8_shifts wsX8_within := goodIn_r _ [5] (by decide +kernel) (by decide +kernel)
set_option maxRecDepth 20000 in
theorem gX8_shifts_X8_within : GoodIn wsX8_shifts (va_wsS RX8 77 yX8_within wsX8_within) := goodIn_app (goodIn_of _ (by decide +kernel)) ggX8_shifts_X8_within
set_option maxRecDepth 20000 in
theorem ggX8_shifts_X8_shiftsNow : GoodIn wsX8_shifts wsX8_shiftsNow := goodIn_r _ [9, 10, 11, 12, 13, 14, 15, 16, 4, 17, 1, 18, 19, 20, 21, 22, 23, 24, 25, 26, 27, 28, 29, 30, 31, 32, 33, 34, 35, 36, 37, 38, 39, 40, 41, 42, 43, 44, 45, 46, 47, 48, 49, 50, 51, 52, 53, 54, 55, 56, 57, 58, 59, 60, 61, 62, 63, 64, 65, 66, 67, 68, 69, 70, 71, 72, 73, 74, 75, 76, 77, 78, 79, 80, 81, 82, 83, 84, 85, 86, 87, 88, 89, 90, 91, 92, 93] (by decide +kernel) (by decide +kernel)
set_option maxRecDepth 20000 in
theorem gX8_shifts_X8_shiftsNow : GoodIn wsX8_shifts (wsV RX8 241 RX8 yX8_shiftsNow wsX8_shiftsNow) := goodIn_app (goodIn_of _ (by decide +kernel)) ggX8_shifts_X8_shiftsNow
theorem dX8_shifts_0 : decode cX8_shifts 0 = .ok (.iload_n 1, 1) := by decide +kernel
theorem dX8_shifts_1 : decode cX8_shifts 1 = .ok (.iconst 1, 1) := by decide +kernel
theorem dX8_shifts_2 : decode cX8_shifts 2 = .ok (.bipush 60, 2) := by decide +kernel
theorem dX8_shifts_4 : decode cX8_shifts 4 = .ok (.invokestatic 77, 3) := by decide +kernel
theorem dX8_shifts_7 : decode cX8_shifts 7 = .ok (.ifCond .eq 16, 3) := by decide +kernel
theorem dX8_shifts_10 : decode cX8_shifts 10 = .ok (.iload_n 2, 1) := by decide +kernel
theorem dX8_shifts_11 : decode cX8_shifts 11 = .ok (.ifCond .lt 12, 3) := by decide +kernel
theorem dX8_shifts_14 : decode cX8_shifts 14 = .ok (.iload_n 3, 1) := by decide +kernel
theorem dX8_shifts_15 : decode cX8_shifts 15 = .ok (.iconst 0, 1) := by decide +kernel
theorem dX8_shifts_16 : decode cX8_shifts 16 = .ok (.iconst 2, 1) := by decide +kernel
theorem dX8_shifts_17 : decode cX8_shifts 17 = .ok (.invokestatic 77, 3) := by decide +kernel
theorem dX8_shifts_20 : decode cX8_shifts 20 = .ok (.ifCond .ne 6, 3) := by decide +kernel
theorem dX8_shifts_23 : decode cX8_shifts 23 = .ok (.bipush (-102), 2) := by decide +kernel
theorem dX8_shifts_25 : decode cX8_shifts 25 = .ok (.ireturn, 1) := by decide +kernel
theorem dX8_shifts_26 : decode cX8_shifts 26 = .ok (.aload_n 0, 1) := by decide +kernel
theorem dX8_shifts_27 : decode cX8_shifts 27 = .ok (.getfield 109, 3) := by decide +kernel
theorem dX8_shifts_30 : decode cX8_shifts 30 = .ok (.ifCond .ne 8, 3) := by decide +kernel
theorem dX8_shifts_33 : decode cX8_shifts 33 = .ok (.bipush (-103), 2) := by decide +kernel
theorem dX8_shifts_35 : decode cX8_shifts 35 = .ok (.goto 10, 3) := by decide +kernel
theorem dX8_shifts_38 : decode cX8_shifts 38 = .ok (.aload_n 0, 1) := by decide +kernel
theorem dX8_shifts_39 : decode cX8_shifts 39 = .ok (.iload_n 1, 1) := by decide +kernel
theorem dX8_shifts_40 : decode cX8_shifts 40 = .ok (.iload_n 2, 1) := by decide +kernel
theorem dX8_shifts_41 : decode cX8_shifts 41 = .ok (.iload_n 3, 1) := by decide +kernel
theorem dX8_shifts_42 : decode cX8_shifts 42 = .ok (.invokevirtual 241, 3) := by decide +kernel
theorem dX8_shifts_45 : decode cX8_shifts 45 = .ok (.ireturn, 1) := by decide +kernel
theorem dX8_image_0 : decode cX8_image 0 = .ok (.aload_n 0, 1) := by decide +kernel
theorem dX8_image_1 : decode cX8_image 1 = .ok (.getfield 109, 3) := by decide +kernel
theorem dX8_image_4 : decode cX8_image 4 = .ok (.ifCond .ne 6, 3) := by decide +kernel
theorem dX8_image_7 : decode cX8_image 7 = .ok (.bipush (-103), 2) := by decide +kernel
theorem dX8_image_9 : decode cX8_image 9 = .ok (.ireturn, 1) := by decide +kernel
theorem dX8_image_10 : decode cX8_image 10 = .ok (.aload_n 0, 1) := by decide +kernel
theorem dX8_image_11 : decode cX8_image 11 = .ok (.iconst 1, 1) := by decide +kernel
theorem dX8_image_12 : decode cX8_image 12 = .ok (.putfield 244, 3) := by decide +kernel
theorem dX8_image_15 : decode cX8_image 15 = .ok (.aload_n 0, 1) := by decide +kernel
theorem dX8_image_16 : decode cX8_image 16 = .ok (.aload_n 0, 1) := by decide +kernel
theorem dX8_image_17 : decode cX8_image 17 = .ok (.getfield 115, 3) := by decide +kernel
theorem dX8_image_20 : decode cX8_image 20 = .ok (.putfield 247, 3) := by decide +kernel
theorem dX8_image_23 : decode cX8_image 23 = .ok (.aload_n 0, 1) := by decide +kernel
theorem dX8_image_24 : decode cX8_image 24 = .ok (.aload_n 0, 1) := by decide +kernel
theorem dX8_image_25 : decode cX8_image 25 = .ok (.getfield 118, 3) := by decide +kernel
theorem dX8_image_28 : decode cX8_image 28 = .ok (.putfield 250, 3) := by decide +kernel
theorem dX8_image_31 : decode cX8_image 31 = .ok (.aload_n 0, 1) := by decide +kernel
theorem dX8_image_32 : decode cX8_image 32 = .ok (.aload_n 0, 1) := by decide +kernel
theorem dX8_image_33 : decode cX8_image 33 = .ok (.getfield 121, 3) := by decide +kernel
theorem dX8_image_36 : decode cX8_image 36 = .ok (.putfield 253, 3) := by decide +kernel
theorem dX8_image_39 : decode cX8_image 39 = .ok (.aload_n 0, 1) := by decide +kernel
theorem dX8_image_40 : decode cX8_image 40 = .ok (.aload_n 0, 1) := by decide +kernel
theorem dX8_image_41 : decode cX8_image 41 = .ok (.getfield 124, 3) := by decide +kernel
theorem dX8_image_44 : decode cX8_image 44 = .ok (.putfield 256, 3) := by decide +kernel
theorem dX8_image_47 : decode cX8_image 47 = .ok (.aload_n 0, 1) := by decide +kernel
theorem dX8_image_48 : decode cX8_image 48 = .ok (.aload_n 0, 1) := by decide +kernel
theorem dX8_image_49 : decode cX8_image 49 = .ok (.getfield 127, 3) := by decide +kernel
theorem dX8_image_52 : decode cX8_image 52 = .ok (.putfield 259, 3) := by decide +kernel
theorem dX8_image_55 : decode cX8_image 55 = .ok (.iconst 0, 1) := by decide +kernel
theorem dX8_image_56 : decode cX8_image 56 = .ok (.istore_n 1, 1) := by decide +kernel
theorem dX8_image_57 : decode cX8_image 57 = .ok (.iload_n 1, 1) := by decide +kernel
theorem dX8_image_58 : decode cX8_image 58 = .ok (.bipush 6, 2) := by decide +kernel
theorem dX8_image_60 : decode cX8_image 60 = .ok (.if_icmp .ge 69, 3) := by decide +kernel
theorem dX8_image_63 : decode cX8_image 63 = .ok (.aload_n 0, 1) := by decide +kernel
theorem dX8_image_64 : decode cX8_image 64 = .ok (.getfield 50, 3) := by decide +kernel
theorem dX8_image_67 : decode cX8_image 67 = .ok (.iload_n 1, 1) := by decide +kernel
theorem dX8_image_68 : decode cX8_image 68 = .ok (.aload_n 0, 1) := by decide +kernel
theorem dX8_image_69 : decode cX8_image 69 = .ok (.getfield 19, 3) := by decide +kernel
theorem dX8_image_72 : decode cX8_image 72 = .ok (.iload_n 1, 1) := by decide +kernel
theorem dX8_image_73 : decode cX8_image 73 = .ok (.iaload, 1) := by decide +kernel
theorem dX8_image_74 : decode cX8_image 74 = .ok (.iastore, 1) := by decide +kernel
theorem dX8_image_75 : decode cX8_image 75 = .ok (.aload_n 0, 1) := by decide +kernel
theorem dX8_image_76 : decode cX8_image 76 = .ok (.getfield 53, 3) := by decide +kernel
theorem dX8_image_79 : decode cX8_image 79 = .ok (.iload_n 1, 1) := by decide +kernel
theorem dX8_image_80 : decode cX8_image 80 = .ok (.aload_n 0, 1) := by decide +kernel
theorem dX8_image_81 : decode cX8_image 81 = .ok (.getfield 22, 3) := by decide +kernel
theorem dX8_image_84 : decode cX8_image 84 = .ok (.iload_n 1, 1) := by decide +kernel
theorem dX8_image_85 : decode cX8_image 85 = .ok (.iaload, 1) := by decide +kernel
theorem dX8_image_86 : decode cX8_image 86 = .ok (.iastore, 1) := by decide +kernel
theorem dX8_image_87 : decode cX8_image 87 = .ok (.aload_n 0, 1) := by decide +kernel
theorem dX8_image_88 : decode cX8_image 88 = .ok (.getfield 56, 3) := by decide +kernel
theorem dX8_image_91 : decode cX8_image 91 = .ok (.iload_n 1, 1) := by decide +kernel
theorem dX8_image_92 : decode cX8_image 92 = .ok (.aload_n 0, 1) := by decide +kernel
theorem dX8_image_93 : decode cX8_image 93 = .ok (.getfield 25, 3) := by decide +kernel
theorem dX8_image_96 : decode cX8_image 96 = .ok (.iload_n 1, 1) := by decide +kernel
theorem dX8_image_97 : decode cX8_image 97 = .ok (.iaload, 1) := by decide +kernel
theorem dX8_image_98 : decode cX8_image 98 = .ok (.iastore, 1) := by decide +kernel
theorem dX8_image_99 : decode cX8_image 99 = .ok (.aload_n 0, 1) := by decide +kernel
theorem dX8_image_100 : decode cX8_image 100 = .ok (.getfield 59, 3) := by decide +kernel
theorem dX8_image_103 : decode cX8_image 103 = .ok (.iload_n 1, 1) := by decide +kernel
theorem dX8_image_104 : decode cX8_image 104 = .ok (.aload_n 0, 1) := by decide +kernel
theorem dX8_image_105 : decode cX8_image 105 = .ok (.getfield 28, 3) := by decide +kernel
theorem dX8_image_108 : decode cX8_image 108 = .ok (.iload_n 1, 1) := by decide +kernel
theorem dX8_image_109 : decode cX8_image 109 = .ok (.iaload, 1) := by decide +kernel
theorem dX8_image_110 : decode cX8_image 110 = .ok (.iastore, 1) := by decide +kernel
theorem dX8_image_111 : decode cX8_image 111 = .ok (.aload_n 0, 1) := by decide +kernel
theorem dX8_image_112 : decode cX8_image 112 = .ok (.getfield 62, 3) := by decide +kernel
theorem dX8_image_115 : decode cX8_image 115 = .ok (.iload_n 1, 1) := by decide +kernel
theorem dX8_image_116 : decode cX8_image 116 = .ok (.aload_n 0, 1) := by decide +kernel
theorem dX8_image_117 : decode cX8_image 117 = .ok (.getfield 31, 3) := by decide +kernel
theorem dX8_image_120 : decode cX8_image 120 = .ok (.iload_n 1, 1) := by decide +kernel
theorem dX8_image_121 : decode cX8_image 121 = .ok (.iaload, 1) := by decide +kernel
theorem dX8_image_122 : decode cX8_image 122 = .ok (.iastore, 1) := by decide +kernel
theorem dX8_image_123 : decode cX8_image 123 = .ok (.iinc 1 1, 3) := by decide +kernel
theorem dX8_image_126 : decode cX8_image 126 = .ok (.goto (-69), 3) := by decide +kernel
theorem dX8_image_129 : decode cX8_image 129 = .ok (.iconst 0, 1) := by decide +kernel
theorem dX8_image_130 : decode cX8_image 130 = .ok (.istore_n 1, 1) := by decide +kernel
theorem dX8_image_131 : decode cX8_image 131 = .ok (.iload_n 1, 1) := by decide +kernel
theorem dX8_image_132 : decode cX8_image 132 = .ok (.bipush 8, 2) := by decide +kernel
theorem dX8_image_134 : decode cX8_image 134 = .ok (.if_icmp .ge 57, 3) := by decide +kernel
theorem dX8_image_137 : decode cX8_image 137 = .ok (.aload_n 0, 1) := by decide +kernel
theorem dX8_image_138 : decode cX8_image 138 = .ok (.getfield 65, 3) := by decide +kernel
theorem dX8_image_141 : decode cX8_image 141 = .ok (.iload_n 1, 1) := by decide +kernel
theorem dX8_image_142 : decode cX8_image 142 = .ok (.aload_n 0, 1) := by decide +kernel
theorem dX8_image_143 : decode cX8_image 143 = .ok (.getfield 34, 3) := by decide +kernel
theorem dX8_image_146 : decode cX8_image 146 = .ok (.iload_n 1, 1) := by decide +kernel
theorem dX8_image_147 : decode cX8_image 147 = .ok (.iaload, 1) := by decide +kernel
theorem dX8_image_148 : decode cX8_image 148 = .ok (.iastore, 1) := by decide +kernel
theorem dX8_image_149 : decode cX8_image 149 = .ok (.aload_n 0, 1) := by decide +kernel
theorem dX8_image_150 : decode cX8_image 150 = .ok (.getfield 68, 3) := by decide +kernel
theorem dX8_image_153 : decode cX8_image 153 = .ok (.iload_n 1, 1) := by decide +kernel
theorem dX8_image_154 : decode cX8_image 154 = .ok (.aload_n 0, 1) := by decide +kernel
theorem dX8_image_155 : decode cX8_image 155 = .ok (.getfield 37, 3) := by decide +kernel
theorem dX8_image_158 : decode cX8_image 158 = .ok (.iload_n 1, 1) := by decide +kernel
theorem dX8_image_159 : decode cX8_image 159 = .ok (.iaload, 1) := by decide +kernel
theorem dX8_image_160 : decode cX8_image 160 = .ok (.iastore, 1) := by decide +kernel
theorem dX8_image_161 : decode cX8_image 161 = .ok (.aload_n 0, 1) := by decide +kernel
theorem dX8_image_162 : decode cX8_image 162 = .ok (.getfield 71, 3) := by decide +kernel
theorem dX8_image_165 : decode cX8_image 165 = .ok (.iload_n 1, 1) := by decide +kernel
theorem dX8_image_166 : decode cX8_image 166 = .ok (.aload_n 0, 1) := by decide +kernel
theorem dX8_image_167 : decode cX8_image 167 = .ok (.getfield 40, 3) := by decide +kernel
theorem dX8_image_170 : decode cX8_image 170 = .ok (.iload_n 1, 1) := by decide +kernel
theorem dX8_image_171 : decode cX8_image 171 = .ok (.iaload, 1) := by decide +kernel
theorem dX8_image_172 : decode cX8_image 172 = .ok (.iastore, 1) := by decide +kernel
theorem dX8_image_173 : decode cX8_image 173 = .ok (.aload_n 0, 1) := by decide +kernel
theorem dX8_image_174 : decode cX8_image 174 = .ok (.getfield 74, 3) := by decide +kernel
theorem dX8_image_177 : decode cX8_image 177 = .ok (.iload_n 1, 1) := by decide +kernel
theorem dX8_image_178 : decode cX8_image 178 = .ok (.aload_n 0, 1) := by decide +kernel
theorem dX8_image_179 : decode cX8_image 179 = .ok (.getfield 43, 3) := by decide +kernel
theorem dX8_image_182 : decode cX8_image 182 = .ok (.iload_n 1, 1) := by decide +kernel
theorem dX8_image_183 : decode cX8_image 183 = .ok (.iaload, 1) := by decide +kernel
theorem dX8_image_184 : decode cX8_image 184 = .ok (.iastore, 1) := by decide +kernel
theorem dX8_image_185 : decode cX8_image 185 = .ok (.iinc 1 1, 3) := by decide +kernel
theorem dX8_image_188 : decode cX8_image 188 = .ok (.goto (-57), 3) := by decide +kernel
theorem dX8_image_191 : decode cX8_image 191 = .ok (.aload_n 0, 1) := by decide +kernel
theorem dX8_image_192 : decode cX8_image 192 = .ok (.getfield 121, 3) := by decide +kernel
theorem dX8_image_195 : decode cX8_image 195 = .ok (.ireturn, 1) := by decide +kernel
theorem dX8_restore_0 : decode cX8_restore 0 = .ok (.aload_n 0, 1) := by decide +kernel
theorem dX8_restore_1 : decode cX8_restore 1 = .ok (.getfield 244, 3) := by decide +kernel
theorem dX8_restore_4 : decode cX8_restore 4 = .ok (.ifCond .eq 14, 3) := by decide +kernel
theorem dX8_restore_7 : decode cX8_restore 7 = .ok (.aload_n 0, 1) := by decide +kernel
theorem dX8_restore_8 : decode cX8_restore 8 = .ok (.getfield 247, 3) := by decide +kernel
theorem dX8_restore_11 : decode cX8_restore 11 = .ok (.aload_n 0, 1) := by decide +kernel
theorem dX8_restore_12 : decode cX8_restore 12 = .ok (.getfield 115, 3) := by decide +kernel
theorem dX8_restore_15 : decode cX8_restore 15 = .ok (.if_icmp .eq 6, 3) := by decide +kernel
theorem dX8_restore_18 : decode cX8_restore 18 = .ok (.bipush (-103), 2) := by decide +kernel
theorem dX8_restore_20 : decode cX8_restore 20 = .ok (.ireturn, 1) := by decide +kernel
theorem dX8_restore_21 : decode cX8_restore 21 = .ok (.aload_n 0, 1) := by decide +kernel
theorem dX8_restore_22 : decode cX8_restore 22 = .ok (.aload_n 0, 1) := by decide +kernel
theorem dX8_restore_23 : decode cX8_restore 23 = .ok (.getfield 250, 3) := by decide +kernel
theorem dX8_restore_26 : decode cX8_restore 26 = .ok (.putfield 118, 3) := by decide +kernel
theorem dX8_restore_29 : decode cX8_restore 29 = .ok (.aload_n 0, 1) := by decide +kernel
theorem dX8_restore_30 : decode cX8_restore 30 = .ok (.aload_n 0, 1) := by decide +kernel
theorem dX8_restore_31 : decode cX8_restore 31 = .ok (.getfield 253, 3) := by decide +kernel
theorem dX8_restore_34 : decode cX8_restore 34 = .ok (.putfield 121, 3) := by decide +kernel
theorem dX8_restore_37 : decode cX8_restore 37 = .ok (.aload_n 0, 1) := by decide +kernel
theorem dX8_restore_38 : decode cX8_restore 38 = .ok (.aload_n 0, 1) := by decide +kernel
theorem dX8_restore_39 : decode cX8_restore 39 = .ok (.getfield 256, 3) := by decide +kernel
theorem dX8_restore_42 : decode cX8_restore 42 = .ok (.putfield 124, 3) := by decide +kernel
theorem dX8_restore_45 : decode cX8_restore 45 = .ok (.aload_n 0, 1) := by decide +kernel
theorem dX8_restore_46 : decode cX8_restore 46 = .ok (.aload_n 0, 1) := by decide +kernel
theorem dX8_restore_47 : decode cX8_restore 47 = .ok (.getfield 259, 3) := by decide +kernel
theorem dX8_restore_50 : decode cX8_restore 50 = .ok (.putfield 127, 3) := by decide +kernel
theorem dX8_restore_53 : decode cX8_restore 53 = .ok (.iconst 0, 1) := by decide +kernel
theorem dX8_restore_54 : decode cX8_restore 54 = .ok (.istore_n 1, 1) := by decide +kernel
theorem dX8_restore_55 : decode cX8_restore 55 = .ok (.iload_n 1, 1) := by decide +kernel
theorem dX8_restore_56 : decode cX8_restore 56 = .ok (.bipush 6, 2) := by decide +kernel
theorem dX8_restore_58 : decode cX8_restore 58 = .ok (.if_icmp .ge 69, 3) := by decide +kernel
theorem dX8_restore_61 : decode cX8_restore 61 = .ok (.aload_n 0, 1) := by decide +kernel
theorem dX8_restore_62 : decode cX8_restore 62 = .ok (.getfield 19, 3) := by decide +kernel
theorem dX8_restore_65 : decode cX8_restore 65 = .ok (.iload_n 1, 1) := by decide +kernel
theorem dX8_restore_66 : decode cX8_restore 66 = .ok (.aload_n 0, 1) := by decide +kernel
theorem dX8_restore_67 : decode cX8_restore 67 = .ok (.getfield 50, 3) := by decide +kernel
theorem dX8_restore_70 : decode cX8_restore 70 = .ok (.iload_n 1, 1) := by decide +kernel
theorem dX8_restore_71 : decode cX8_restore 71 = .ok (.iaload, 1) := by decide +kernel
theorem dX8_restore_72 : decode cX8_restore 72 = .ok (.iastore, 1) := by decide +kernel
theorem dX8_restore_73 : decode cX8_restore 73 = .ok (.aload_n 0, 1) := by decide +kernel
theorem dX8_restore_74 : decode cX8_restore 74 = .ok (.getfield 22, 3) := by decide +kernel
theorem dX8_restore_77 : decode cX8_restore 77 = .ok (.iload_n 1, 1) := by decide +kernel
theorem dX8_restore_78 : decode cX8_restore 78 = .ok (.aload_n 0, 1) := by decide +kernel
theorem dX8_restore_79 : decode cX8_restore 79 = .ok (.getfield 53, 3) := by decide +kernel
theorem dX8_restore_82 : decode cX8_restore 82 = .ok (.iload_n 1, 1) := by decide +kernel
theorem dX8_restore_83 : decode cX8_restore 83 = .ok (.iaload, 1) := by decide +kernel
theorem dX8_restore_84 : decode cX8_restore 84 = .ok (.iastore, 1) := by decide +kernel
theorem dX8_restore_85 : decode cX8_restore 85 = .ok (.aload_n 0, 1) := by decide +kernel
theorem dX8_restore_86 : decode cX8_restore 86 = .ok (.getfield 25, 3) := by decide +kernel
theorem dX8_restore_89 : decode cX8_restore 89 = .ok (.iload_n 1, 1) := by decide +kernel
theorem dX8_restore_90 : decode cX8_restore 90 = .ok (.aload_n 0, 1) := by decide +kernel
theorem dX8_restore_91 : decode cX8_restore 91 = .ok (.getfield 56, 3) := by decide +kernel
theorem dX8_restore_94 : decode cX8_restore 94 = .ok (.iload_n 1, 1) := by decide +kernel
theorem dX8_restore_95 : decode cX8_restore 95 = .ok (.iaload, 1) := by decide +kernel
theorem dX8_restore_96 : decode cX8_restore 96 = .ok (.iastore, 1) := by decide +kernel
theorem dX8_restore_97 : decode cX8_restore 97 = .ok (.aload_n 0, 1) := by decide +kernel
theorem dX8_restore_98 : decode cX8_restore 98 = .ok (.getfield 28, 3) := by decide +kernel
theorem dX8_restore_101 : decode cX8_restore 101 = .ok (.iload_n 1, 1) := by decide +kernel
theorem dX8_restore_102 : decode cX8_restore 102 = .ok (.aload_n 0, 1) := by decide +kernel
theorem dX8_restore_103 : decode cX8_restore 103 = .ok (.getfield 59, 3) := by decide +kernel
theorem dX8_restore_106 : decode cX8_restore 106 = .ok (.iload_n 1, 1) := by decide +kernel
theorem dX8_restore_107 : decode cX8_restore 107 = .ok (.iaload, 1) := by decide +kernel
theorem dX8_restore_108 : decode cX8_restore 108 = .ok (.iastore, 1) := by decide +kernel
theorem dX8_restore_109 : decode cX8_restore 109 = .ok (.aload_n 0, 1) := by decide +kernel
theorem dX8_restore_110 : decode cX8_restore 110 = .ok (.getfield 31, 3) := by decide +kernel
theorem dX8_restore_113 : decode cX8_restore 113 = .ok (.iload_n 1, 1) := by decide +kernel
theorem dX8_restore_114 : decode cX8_restore 114 = .ok (.aload_n 0, 1) := by decide +kernel
theorem dX8_restore_115 : decode cX8_restore 115 = .ok (.getfield 62, 3) := by decide +kernel
theorem dX8_restore_118 : decode cX8_restore 118 = .ok (.iload_n 1, 1) := by decide +kernel
theorem dX8_restore_119 : decode cX8_restore 119 = .ok (.iaload, 1) := by decide +kernel
theorem dX8_restore_120 : decode cX8_restore 120 = .ok (.iastore, 1) := by decide +kernel
theorem dX8_restore_121 : decode cX8_restore 121 = .ok (.iinc 1 1, 3) := by decide +kernel
theorem dX8_restore_124 : decode cX8_restore 124 = .ok (.goto (-69), 3) := by decide +kernel
theorem dX8_restore_127 : decode cX8_restore 127 = .ok (.iconst 0, 1) := by decide +kernel
theorem dX8_restore_128 : decode cX8_restore 128 = .ok (.istore_n 1, 1) := by decide +kernel
theorem dX8_restore_129 : decode cX8_restore 129 = .ok (.iload_n 1, 1) := by decide +kernel
theorem dX8_restore_130 : decode cX8_restore 130 = .ok (.bipush 8, 2) := by decide +kernel
theorem dX8_restore_132 : decode cX8_restore 132 = .ok (.if_icmp .ge 57, 3) := by decide +kernel
theorem dX8_restore_135 : decode cX8_restore 135 = .ok (.aload_n 0, 1) := by decide +kernel
theorem dX8_restore_136 : decode cX8_restore 136 = .ok (.getfield 34, 3) := by decide +kernel
theorem dX8_restore_139 : decode cX8_restore 139 = .ok (.iload_n 1, 1) := by decide +kernel
theorem dX8_restore_140 : decode cX8_restore 140 = .ok (.aload_n 0, 1) := by decide +kernel
theorem dX8_restore_141 : decode cX8_restore 141 = .ok (.getfield 65, 3) := by decide +kernel
theorem dX8_restore_144 : decode cX8_restore 144 = .ok (.iload_n 1, 1) := by decide +kernel
theorem dX8_restore_145 : decode cX8_restore 145 = .ok (.iaload, 1) := by decide +kernel
theorem dX8_restore_146 : decode cX8_restore 146 = .ok (.iastore, 1) := by decide +kernel
theorem dX8_restore_147 : decode cX8_restore 147 = .ok (.aload_n 0, 1) := by decide +kernel
theorem dX8_restore_148 : decode cX8_restore 148 = .ok (.getfield 37, 3) := by decide +kernel
theorem dX8_restore_151 : decode cX8_restore 151 = .ok (.iload_n 1, 1) := by decide +kernel
theorem dX8_restore_152 : decode cX8_restore 152 = .ok (.aload_n 0, 1) := by decide +kernel
theorem dX8_restore_153 : decode cX8_restore 153 = .ok (.getfield 68, 3) := by decide +kernel
theorem dX8_restore_156 : decode cX8_restore 156 = .ok (.iload_n 1, 1) := by decide +kernel
theorem dX8_restore_157 : decode cX8_restore 157 = .ok (.iaload, 1) := by decide +kernel
theorem dX8_restore_158 : decode cX8_restore 158 = .ok (.iastore, 1) := by decide +kernel
theorem dX8_restore_159 : decode cX8_restore 159 = .ok (.aload_n 0, 1) := by decide +kernel
theorem dX8_restore_160 : decode cX8_restore 160 = .ok (.getfield 40, 3) := by decide +kernel
theorem dX8_restore_163 : decode cX8_restore 163 = .ok (.iload_n 1, 1) := by decide +kernel
theorem dX8_restore_164 : decode cX8_restore 164 = .ok (.aload_n 0, 1) := by decide +kernel
theorem dX8_restore_165 : decode cX8_restore 165 = .ok (.getfield 71, 3) := by decide +kernel
theorem dX8_restore_168 : decode cX8_restore 168 = .ok (.iload_n 1, 1) := by decide +kernel
theorem dX8_restore_169 : decode cX8_restore 169 = .ok (.iaload, 1) := by decide +kernel
theorem dX8_restore_170 : decode cX8_restore 170 = .ok (.iastore, 1) := by decide +kernel
theorem dX8_restore_171 : decode cX8_restore 171 = .ok (.aload_n 0, 1) := by decide +kernel
theorem dX8_restore_172 : decode cX8_restore 172 = .ok (.getfield 43, 3) := by decide +kernel
theorem dX8_restore_175 : decode cX8_restore 175 = .ok (.iload_n 1, 1) := by decide +kernel
theorem dX8_restore_176 : decode cX8_restore 176 = .ok (.aload_n 0, 1) := by decide +kernel
theorem dX8_restore_177 : decode cX8_restore 177 = .ok (.getfield 74, 3) := by decide +kernel
theorem dX8_restore_180 : decode cX8_restore 180 = .ok (.iload_n 1, 1) := by decide +kernel
theorem dX8_restore_181 : decode cX8_restore 181 = .ok (.iaload, 1) := by decide +kernel
theorem dX8_restore_182 : decode cX8_restore 182 = .ok (.iastore, 1) := by decide +kernel
theorem dX8_restore_183 : decode cX8_restore 183 = .ok (.iinc 1 1, 3) := by decide +kernel
theorem dX8_restore_186 : decode cX8_restore 186 = .ok (.goto (-57), 3) := by decide +kernel
theorem dX8_restore_189 : decode cX8_restore 189 = .ok (.aload_n 0, 1) := by decide +kernel
theorem dX8_restore_190 : decode cX8_restore 190 = .ok (.getfield 121, 3) := by decide +kernel
theorem dX8_restore_193 : decode cX8_restore 193 = .ok (.ireturn, 1) := by decide +kernel
theorem dX8_inSacks_0 : decode cX8_inSacks 0 = .ok (.iconst 0, 1) := by decide +kernel
theorem dX8_inSacks_1 : decode cX8_inSacks 1 = .ok (.istore_n 2, 1) := by decide +kernel
theorem dX8_inSacks_2 : decode cX8_inSacks 2 = .ok (.iconst 0, 1) := by decide +kernel
theorem dX8_inSacks_3 : decode cX8_inSacks 3 = .ok (.istore_n 3, 1) := by decide +kernel
theorem dX8_inSacks_4 : decode cX8_inSacks 4 = .ok (.iload_n 3, 1) := by decide +kernel
theorem dX8_inSacks_5 : decode cX8_inSacks 5 = .ok (.aload_n 0, 1) := by decide +kernel
theorem dX8_inSacks_6 : decode cX8_inSacks 6 = .ok (.getfield 109, 3) := by decide +kernel
theorem dX8_inSacks_9 : decode cX8_inSacks 9 = .ok (.if_icmp .ge 31, 3) := by decide +kernel
theorem dX8_inSacks_12 : decode cX8_inSacks 12 = .ok (.iload_n 2, 1) := by decide +kernel
theorem dX8_inSacks_13 : decode cX8_inSacks 13 = .ok (.iload_n 1, 1) := by decide +kernel
theorem dX8_inSacks_14 : decode cX8_inSacks 14 = .ok (.ifCond .eq 12, 3) := by decide +kernel
theorem dX8_inSacks_17 : decode cX8_inSacks 17 = .ok (.aload_n 0, 1) := by decide +kernel
theorem dX8_inSacks_18 : decode cX8_inSacks 18 = .ok (.getfield 25, 3) := by decide +kernel
theorem dX8_inSacks_21 : decode cX8_inSacks 21 = .ok (.iload_n 3, 1) := by decide +kernel
theorem dX8_inSacks_22 : decode cX8_inSacks 22 = .ok (.iaload, 1) := by decide +kernel
theorem dX8_inSacks_23 : decode cX8_inSacks 23 = .ok (.goto 9, 3) := by decide +kernel
theorem dX8_inSacks_26 : decode cX8_inSacks 26 = .ok (.aload_n 0, 1) := by decide +kernel
theorem dX8_inSacks_27 : decode cX8_inSacks 27 = .ok (.getfield 22, 3) := by decide +kernel
theorem dX8_inSacks_30 : decode cX8_inSacks 30 = .ok (.iload_n 3, 1) := by decide +kernel
theorem dX8_inSacks_31 : decode cX8_inSacks 31 = .ok (.iaload, 1) := by decide +kernel
theorem dX8_inSacks_32 : decode cX8_inSacks 32 = .ok (.iadd, 1) := by decide +kernel
theorem dX8_inSacks_33 : decode cX8_inSacks 33 = .ok (.istore_n 2, 1) := by decide +kernel
theorem dX8_inSacks_34 : decode cX8_inSacks 34 = .ok (.iinc 3 1, 3) := by decide +kernel
theorem dX8_inSacks_37 : decode cX8_inSacks 37 = .ok (.goto (-33), 3) := by decide +kernel
theorem dX8_inSacks_40 : decode cX8_inSacks 40 = .ok (.iload_n 2, 1) := by decide +kernel
theorem dX8_inSacks_41 : decode cX8_inSacks 41 = .ok (.ireturn, 1) := by decide +kernel
set_option maxRecDepth 20000 in
theorem ggX8_howMany_X8_inSacks : GoodIn wsX8_howMany wsX8_inSacks := goodIn_r _ [12, 1, 13, 14, 15, 16, 17, 18, 19, 20, 21, 22, 23, 24, 25, 26, 27, 28, 29, 30, 31, 32, 33, 34, 35, 36, 37, 38, 39, 40, 41, 42, 43, 44, 45, 46, 47, 48, 49, 50, 51, 52, 53, 54, 55, 56] (by decide +kernel) (by decide +kernel)
set_option maxRecDepth 20000 in
theorem gX8_howMany_X8_inSacks : GoodIn wsX8_howMany (wsV RX8 262 RX8 yX8_inSacks wsX8_inSacks) := goodIn_app (goodIn_of _ (by decide +kernel)) ggX8_howMany_X8_inSacks
theorem dX8_howMany_0 : decode cX8_howMany 0 = .ok (.iload_n 1, 1) := by decide +kernel
theorem dX8_howMany_1 : decode cX8_howMany 1 = .ok (.tableswitch 98 0 8 #[51, 56, 61, 67, 73, 78, 83, 88, 93], 51) := by decide +kernel
theorem dX8_howMany_52 : decode cX8_howMany 52 = .ok (.aload_n 0, 1) := by decide +kernel
theorem dX8_howMany_53 : decode cX8_howMany 53 = .ok (.getfield 109, 3) := by decide +kernel
theorem dX8_howMany_56 : decode cX8_howMany 56 = .ok (.ireturn, 1) := by decide +kernel
theorem dX8_howMany_57 : decode cX8_howMany 57 = .ok (.aload_n 0, 1) := by decide +kernel
theorem dX8_howMany_58 : decode cX8_howMany 58 = .ok (.getfield 118, 3) := by decide +kernel
theorem dX8_howMany_61 : decode cX8_howMany 61 = .ok (.ireturn, 1) := by decide +kernel
theorem dX8_howMany_62 : decode cX8_howMany 62 = .ok (.aload_n 0, 1) := by decide +kernel
theorem dX8_howMany_63 : decode cX8_howMany 63 = .ok (.iconst 0, 1) := by decide +kernel
theorem dX8_howMany_64 : decode cX8_howMany 64 = .ok (.invokevirtual 262, 3) := by decide +kernel
theorem dX8_howMany_67 : decode cX8_howMany 67 = .ok (.ireturn, 1) := by decide +kernel
theorem dX8_howMany_68 : decode cX8_howMany 68 = .ok (.aload_n 0, 1) := by decide +kernel
theorem dX8_howMany_69 : decode cX8_howMany 69 = .ok (.iconst 1, 1) := by decide +kernel
theorem dX8_howMany_70 : decode cX8_howMany 70 = .ok (.invokevirtual 262, 3) := by decide +kernel
theorem dX8_howMany_73 : decode cX8_howMany 73 = .ok (.ireturn, 1) := by decide +kernel
theorem dX8_howMany_74 : decode cX8_howMany 74 = .ok (.aload_n 0, 1) := by decide +kernel
theorem dX8_howMany_75 : decode cX8_howMany 75 = .ok (.getfield 121, 3) := by decide +kernel
theorem dX8_howMany_78 : decode cX8_howMany 78 = .ok (.ireturn, 1) := by decide +kernel
theorem dX8_howMany_79 : decode cX8_howMany 79 = .ok (.aload_n 0, 1) := by decide +kernel
theorem dX8_howMany_80 : decode cX8_howMany 80 = .ok (.getfield 124, 3) := by decide +kernel
theorem dX8_howMany_83 : decode cX8_howMany 83 = .ok (.ireturn, 1) := by decide +kernel
theorem dX8_howMany_84 : decode cX8_howMany 84 = .ok (.aload_n 0, 1) := by decide +kernel
theorem dX8_howMany_85 : decode cX8_howMany 85 = .ok (.getfield 127, 3) := by decide +kernel
theorem dX8_howMany_88 : decode cX8_howMany 88 = .ok (.ireturn, 1) := by decide +kernel
theorem dX8_howMany_89 : decode cX8_howMany 89 = .ok (.aload_n 0, 1) := by decide +kernel
theorem dX8_howMany_90 : decode cX8_howMany 90 = .ok (.getfield 81, 3) := by decide +kernel
theorem dX8_howMany_93 : decode cX8_howMany 93 = .ok (.ireturn, 1) := by decide +kernel
theorem dX8_howMany_94 : decode cX8_howMany 94 = .ok (.aload_n 0, 1) := by decide +kernel
theorem dX8_howMany_95 : decode cX8_howMany 95 = .ok (.getfield 115, 3) := by decide +kernel
theorem dX8_howMany_98 : decode cX8_howMany 98 = .ok (.ireturn, 1) := by decide +kernel
theorem dX8_howMany_99 : decode cX8_howMany 99 = .ok (.bipush (-102), 2) := by decide +kernel
theorem dX8_howMany_101 : decode cX8_howMany 101 = .ok (.ireturn, 1) := by decide +kernel
set_option maxRecDepth 20000 in
theorem ggX8_count_X8_howMany : GoodIn wsX8_count wsX8_howMany := goodIn_r _ [5, 6, 7, 8, 9, 10, 11, 12, 13, 14, 15, 4, 16, 17, 18, 19, 20, 21, 22, 23, 24, 25, 26, 27, 28, 29, 30, 31, 32, 33, 34, 35, 36, 37, 38, 39, 40, 41, 42, 43, 44, 45, 46, 47, 48, 49, 50, 51, 52, 53, 54, 55, 56, 57, 58, 59, 60] (by decide +kernel) (by decide +kernel)
set_option maxRecDepth 20000 in
theorem gX8_count_X8_howMany : GoodIn wsX8_count (wsV RX8 266 RX8 yX8_howMany wsX8_howMany) := goodIn_app (goodIn_of _ (by decide +kernel)) ggX8_count_X8_howMany
theorem dX8_count_0 : decode cX8_count 0 = .ok (.aload_n 0, 1) := by decide +kernel
theorem dX8_count_1 : decode cX8_count 1 = .ok (.iload_n 1, 1) := by decide +kernel
theorem dX8_count_2 : decode cX8_count 2 = .ok (.invokevirtual 266, 3) := by decide +kernel
theorem dX8_count_5 : decode cX8_count 5 = .ok (.ireturn, 1) := by decide +kernel
theorem dX8_mix_0 : decode cX8_mix 0 = .ok (.aload_n 0, 1) := by decide +kernel
theorem dX8_mix_1 : decode cX8_mix 1 = .ok (.ldc2_w 269, 3) := by decide +kernel
theorem dX8_mix_4 : decode cX8_mix 4 = .ok (.aload_n 0, 1) := by decide +kernel
theorem dX8_mix_5 : decode cX8_mix 5 = .ok (.getfield 271, 3) := by decide +kernel
theorem dX8_mix_8 : decode cX8_mix 8 = .ok (.lmul, 1) := by decide +kernel
theorem dX8_mix_9 : decode cX8_mix 9 = .ok (.lload_n 1, 1) := by decide +kernel
theorem dX8_mix_10 : decode cX8_mix 10 = .ok (.ladd, 1) := by decide +kernel
theorem dX8_mix_11 : decode cX8_mix 11 = .ok (.putfield 271, 3) := by decide +kernel
theorem dX8_mix_14 : decode cX8_mix 14 = .ok (.return_, 1) := by decide +kernel
set_option maxRecDepth 20000 in
theorem ggX8_mixHook_X8_hookNow : GoodIn wsX8_mixHook wsX8_hookNow := goodIn_r _ [5, 6, 7, 8, 9, 10, 11, 12, 59, 60, 61, 62, 63, 64, 65, 66, 67, 68, 69, 70, 71, 72, 73, 74, 75, 76, 77, 78, 79, 80, 81, 82, 83, 84, 85, 86, 87, 88, 89, 90, 91, 92, 93, 94, 95, 96, 97, 98, 99, 100] (by decide +kernel) (by decide +kernel)
set_option maxRecDepth 20000 in
theorem gX8_mixHook_X8_hookNow : GoodIn wsX8_mixHook (wsV RX8 134 RX8 yX8_hookNow wsX8_hookNow) := goodIn_app (goodIn_of _ (by decide +kernel)) ggX8_mixHook_X8_hookNow
set_option maxRecDepth 20000 in
theorem ggX8_mixHook_X8_mix : GoodIn wsX8_mixHook wsX8_mix := goodIn_r _ [16, 17, 18, 59, 60, 61, 62, 63, 64, 65, 66, 67, 68, 69, 70, 71, 72, 73, 74, 75, 76, 77, 78, 79, 80, 81, 82, 83, 84, 85, 86, 87, 88, 89, 90, 91, 92, 93, 94, 95, 96, 97, 98, 99, 100] (by decide +kernel) (by decide +kernel)
set_option maxRecDepth 20000 in
theorem gX8_mixHook_X8_mix : GoodIn wsX8_mixHook (wsV RX8 274 RX8 yX8_mix wsX8_mix) := goodIn_app (goodIn_of _ (by decide +kernel)) ggX8_mixHook_X8_mix
set_option maxRecDepth 20000 in
theorem ggX8_mixHook_X8_oddsNow : GoodIn wsX8_mixHook wsX8_oddsNow := goodIn_r _ [22, 23, 24, 25, 4, 26, 27, 28, 29, 30, 7, 31, 32, 33, 34, 35, 36, 37, 38, 39, 40, 41, 42, 9, 6, 8, 43, 44, 45, 46, 47, 48, 49, 50, 51, 52, 53, 54, 55, 56, 57, 58, 59, 60, 61, 62, 63, 64, 65, 66, 67, 68, 69, 70, 71, 72, 73, 74, 75, 76, 77, 78, 79, 80, 81, 82, 83, 84, 85, 86, 87, 88, 89, 90, 91, 92, 93, 94, 95, 96, 97, 98, 99, 100] (by decide +kernel) (by decide +kernel)
set_option maxRecDepth 20000 in
theorem gX8_mixHook_X8_oddsNow : GoodIn wsX8_mixHook (wsV RX8 178 RX8 yX8_oddsNow wsX8_oddsNow) := goodIn_app (goodIn_of _ (by decide +kernel)) ggX8_mixHook_X8_oddsNow
theorem dX8_mixHook_0 : decode cX8_mixHook 0 = .ok (.iconst 0, 1) := by decide +kernel
theorem dX8_mixHook_1 : decode cX8_mixHook 1 = .ok (.istore_n 2, 1) := by decide +kernel
theorem dX8_mixHook_2 : decode cX8_mixHook 2 = .ok (.iload_n 2, 1) := by decide +kernel
theorem dX8_mixHook_3 : decode cX8_mixHook 3 = .ok (.bipush 7, 2) := by decide +kernel
theorem dX8_mixHook_5 : decode cX8_mixHook 5 = .ok (.if_icmp .ge 20, 3) := by decide +kernel
theorem dX8_mixHook_8 : decode cX8_mixHook 8 = .ok (.aload_n 0, 1) := by decide +kernel
theorem dX8_mixHook_9 : decode cX8_mixHook 9 = .ok (.aload_n 0, 1) := by decide +kernel
theorem dX8_mixHook_10 : decode cX8_mixHook 10 = .ok (.iload_n 1, 1) := by decide +kernel
theorem dX8_mixHook_11 : decode cX8_mixHook 11 = .ok (.iload_n 2, 1) := by decide +kernel
theorem dX8_mixHook_12 : decode cX8_mixHook 12 = .ok (.invokevirtual 134, 3) := by decide +kernel
theorem dX8_mixHook_15 : decode cX8_mixHook 15 = .ok (.i2l, 1) := by decide +kernel
theorem dX8_mixHook_16 : decode cX8_mixHook 16 = .ok (.invokevirtual 274, 3) := by decide +kernel
theorem dX8_mixHook_19 : decode cX8_mixHook 19 = .ok (.iinc 2 1, 3) := by decide +kernel
theorem dX8_mixHook_22 : decode cX8_mixHook 22 = .ok (.goto (-20), 3) := by decide +kernel
theorem dX8_mixHook_25 : decode cX8_mixHook 25 = .ok (.iconst 0, 1) := by decide +kernel
theorem dX8_mixHook_26 : decode cX8_mixHook 26 = .ok (.istore_n 2, 1) := by decide +kernel
theorem dX8_mixHook_27 : decode cX8_mixHook 27 = .ok (.iload_n 2, 1) := by decide +kernel
theorem dX8_mixHook_28 : decode cX8_mixHook 28 = .ok (.bipush 6, 2) := by decide +kernel
theorem dX8_mixHook_30 : decode cX8_mixHook 30 = .ok (.if_icmp .ge 21, 3) := by decide +kernel
theorem dX8_mixHook_33 : decode cX8_mixHook 33 = .ok (.aload_n 0, 1) := by decide +kernel
theorem dX8_mixHook_34 : decode cX8_mixHook 34 = .ok (.aload_n 0, 1) := by decide +kernel
theorem dX8_mixHook_35 : decode cX8_mixHook 35 = .ok (.iconst 0, 1) := by decide +kernel
theorem dX8_mixHook_36 : decode cX8_mixHook 36 = .ok (.iload_n 1, 1) := by decide +kernel
theorem dX8_mixHook_37 : decode cX8_mixHook 37 = .ok (.iload_n 2, 1) := by decide +kernel
theorem dX8_mixHook_38 : decode cX8_mixHook 38 = .ok (.invokevirtual 178, 3) := by decide +kernel
theorem dX8_mixHook_41 : decode cX8_mixHook 41 = .ok (.i2l, 1) := by decide +kernel
theorem dX8_mixHook_42 : decode cX8_mixHook 42 = .ok (.invokevirtual 274, 3) := by decide +kernel
theorem dX8_mixHook_45 : decode cX8_mixHook 45 = .ok (.iinc 2 1, 3) := by decide +kernel
theorem dX8_mixHook_48 : decode cX8_mixHook 48 = .ok (.goto (-21), 3) := by decide +kernel
theorem dX8_mixHook_51 : decode cX8_mixHook 51 = .ok (.aload_n 0, 1) := by decide +kernel
theorem dX8_mixHook_52 : decode cX8_mixHook 52 = .ok (.aload_n 0, 1) := by decide +kernel
theorem dX8_mixHook_53 : decode cX8_mixHook 53 = .ok (.iconst 3, 1) := by decide +kernel
theorem dX8_mixHook_54 : decode cX8_mixHook 54 = .ok (.iload_n 1, 1) := by decide +kernel
theorem dX8_mixHook_55 : decode cX8_mixHook 55 = .ok (.iconst 3, 1) := by decide +kernel
theorem dX8_mixHook_56 : decode cX8_mixHook 56 = .ok (.invokevirtual 178, 3) := by decide +kernel
theorem dX8_mixHook_59 : decode cX8_mixHook 59 = .ok (.i2l, 1) := by decide +kernel
theorem dX8_mixHook_60 : decode cX8_mixHook 60 = .ok (.invokevirtual 274, 3) := by decide +kernel
theorem dX8_mixHook_63 : decode cX8_mixHook 63 = .ok (.return_, 1) := by decide +kernel
set_option maxRecDepth 20000 in
theorem ggX8_mixFloor_X8_hangingNow : GoodIn wsX8_mixFloor wsX8_hangingNow := goodIn_r _ [6, 7, 1, 8, 9, 10, 11, 5, 12, 13, 14, 15, 16, 17, 18, 19, 20, 21, 22, 23, 24, 25, 26, 27, 28, 29, 30, 31, 32, 33, 34, 35, 36, 37, 38, 39, 40, 41, 42, 43, 44, 45, 46, 47, 48, 49, 50, 51, 52, 53, 79, 80, 81, 82, 83, 84, 85, 86, 87, 88, 89, 90, 91, 92, 93, 94, 95, 96, 97, 98, 99, 100, 101, 102, 103, 104, 105, 106, 107, 108, 109, 110, 111, 112, 113, 114, 115, 116, 117, 118, 119, 120] (by decide +kernel) (by decide +kernel)
set_option maxRecDepth 20000 in
theorem gX8_mixFloor_X8_hangingNow : GoodIn wsX8_mixFloor (wsV RX8 201 RX8 yX8_hangingNow wsX8_hangingNow) := goodIn_app (goodIn_of _ (by decide +kernel)) ggX8_mixFloor_X8_hangingNow
set_option maxRecDepth 20000 in
theorem ggX8_mixFloor_X8_mix : GoodIn wsX8_mixFloor wsX8_mix := goodIn_r _ [57, 58, 59, 79, 80, 81, 82, 83, 84, 85, 86, 87, 88, 89, 90, 91, 92, 93, 94, 95, 96, 97, 98, 99, 100, 101, 102, 103, 104, 105, 106, 107, 108, 109, 110, 111, 112, 113, 114, 115, 116, 117, 118, 119, 120] (by decide +kernel) (by decide +kernel)
set_option maxRecDepth 20000 in
theorem gX8_mixFloor_X8_mix : GoodIn wsX8_mixFloor (wsV RX8 274 RX8 yX8_mix wsX8_mix) := goodIn_app (goodIn_of _ (by decide +kernel)) ggX8_mixFloor_X8_mix
set_option maxRecDepth 20000 in
theorem ggX8_mixFloor_X8_hungNow : GoodIn wsX8_mixFloor wsX8_hungNow := goodIn_r _ [63, 9, 10, 11, 5, 12, 1, 13, 14, 15, 16, 8, 64, 65, 66, 67, 68, 69, 70, 50, 51, 52, 53, 71, 72, 73, 74, 79, 80, 81, 82, 83, 84, 85, 86, 87, 88, 89, 90, 91, 92, 93, 94, 95, 96, 97, 98, 99, 100, 101, 102, 103, 104, 105, 106, 107, 108, 109, 110, 111, 112, 113, 114, 115, 116, 117, 118, 119, 120] (by decide +kernel) (by decide +kernel)
set_option maxRecDepth 20000 in
theorem gX8_mixFloor_X8_hungNow : GoodIn wsX8_mixFloor (wsV RX8 208 RX8 yX8_hungNow wsX8_hungNow) := goodIn_app (goodIn_of _ (by decide +kernel)) ggX8_mixFloor_X8_hungNow
set_option maxRecDepth 20000 in
theorem ggX8_mixFloor_X8_whereNow : GoodIn wsX8_mixFloor wsX8_whereNow := goodIn_r _ [78, 9, 10, 11, 5, 12, 1, 13, 14, 15, 16, 8, 64, 65, 66, 67, 68, 69, 70, 50, 51, 52, 53, 71, 72, 73, 74, 79, 80, 81, 82, 83, 84, 85, 86, 87, 88, 89, 90, 91, 92, 93, 94, 95, 96, 97, 98, 99, 100, 101, 102, 103, 104, 105, 106, 107, 108, 109, 110, 111, 112, 113, 114, 115, 116, 117, 118, 119, 120] (by decide +kernel) (by decide +kernel)
set_option maxRecDepth 20000 in
theorem gX8_mixFloor_X8_whereNow : GoodIn wsX8_mixFloor (wsV RX8 211 RX8 yX8_whereNow wsX8_whereNow) := goodIn_app (goodIn_of _ (by decide +kernel)) ggX8_mixFloor_X8_whereNow
