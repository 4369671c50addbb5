theorem dX7_found_2 : decode cX7_found 2 = .ok (.invokevirtual 94, 3) := by decide +kernel
theorem dX7_found_5 : decode cX7_found 5 = .ok (.ifCond .eq 16, 3) := by decide +kernel
theorem dX7_found_8 : decode cX7_found 8 = .ok (.aload_n 0, 1) := by decide +kernel
theorem dX7_found_9 : decode cX7_found 9 = .ok (.iload_n 2, 1) := by decide +kernel
theorem dX7_found_10 : decode cX7_found 10 = .ok (.invokevirtual 94, 3) := by decide +kernel
theorem dX7_found_13 : decode cX7_found 13 = .ok (.ifCond .eq 8, 3) := by decide +kernel
theorem dX7_found_16 : decode cX7_found 16 = .ok (.iload_n 1, 1) := by decide +kernel
theorem dX7_found_17 : decode cX7_found 17 = .ok (.iload_n 2, 1) := by decide +kernel
theorem dX7_found_18 : decode cX7_found 18 = .ok (.if_icmp .ne 6, 3) := by decide +kernel
theorem dX7_found_21 : decode cX7_found 21 = .ok (.bipush (-101), 2) := by decide +kernel
theorem dX7_found_23 : decode cX7_found 23 = .ok (.ireturn, 1) := by decide +kernel
theorem dX7_found_24 : decode cX7_found 24 = .ok (.aload_n 0, 1) := by decide +kernel
theorem dX7_found_25 : decode cX7_found 25 = .ok (.getfield 26, 3) := by decide +kernel
theorem dX7_found_28 : decode cX7_found 28 = .ok (.getfield 188, 3) := by decide +kernel
theorem dX7_found_31 : decode cX7_found 31 = .ok (.bipush 8, 2) := by decide +kernel
theorem dX7_found_33 : decode cX7_found 33 = .ok (.if_icmp .lt 6, 3) := by decide +kernel
theorem dX7_found_36 : decode cX7_found 36 = .ok (.bipush (-104), 2) := by decide +kernel
theorem dX7_found_38 : decode cX7_found 38 = .ok (.ireturn, 1) := by decide +kernel
theorem dX7_found_39 : decode cX7_found 39 = .ok (.aload_n 0, 1) := by decide +kernel
theorem dX7_found_40 : decode cX7_found 40 = .ok (.getfield 26, 3) := by decide +kernel
theorem dX7_found_43 : decode cX7_found 43 = .ok (.iload_n 1, 1) := by decide +kernel
theorem dX7_found_44 : decode cX7_found 44 = .ok (.iload_n 2, 1) := by decide +kernel
theorem dX7_found_45 : decode cX7_found 45 = .ok (.invokevirtual 191, 3) := by decide +kernel
theorem dX7_found_48 : decode cX7_found 48 = .ok (.aload_n 0, 1) := by decide +kernel
theorem dX7_found_49 : decode cX7_found 49 = .ok (.getfield 43, 3) := by decide +kernel
theorem dX7_found_52 : decode cX7_found 52 = .ok (.iconst 0, 1) := by decide +kernel
theorem dX7_found_53 : decode cX7_found 53 = .ok (.putfield 81, 3) := by decide +kernel
theorem dX7_found_56 : decode cX7_found 56 = .ok (.aload_n 0, 1) := by decide +kernel
theorem dX7_found_57 : decode cX7_found 57 = .ok (.getfield 26, 3) := by decide +kernel
theorem dX7_found_60 : decode cX7_found 60 = .ok (.getfield 188, 3) := by decide +kernel
theorem dX7_found_63 : decode cX7_found 63 = .ok (.ireturn, 1) := by decide +kernel
theorem dX7_forget_0 : decode cX7_forget 0 = .ok (.aload_n 0, 1) := by decide +kernel
theorem dX7_forget_1 : decode cX7_forget 1 = .ok (.getfield 26, 3) := by decide +kernel
theorem dX7_forget_4 : decode cX7_forget 4 = .ok (.getfield 188, 3) := by decide +kernel
theorem dX7_forget_7 : decode cX7_forget 7 = .ok (.istore_n 1, 1) := by decide +kernel
theorem dX7_forget_8 : decode cX7_forget 8 = .ok (.aload_n 0, 1) := by decide +kernel
theorem dX7_forget_9 : decode cX7_forget 9 = .ok (.getfield 26, 3) := by decide +kernel
theorem dX7_forget_12 : decode cX7_forget 12 = .ok (.iconst 0, 1) := by decide +kernel
theorem dX7_forget_13 : decode cX7_forget 13 = .ok (.putfield 188, 3) := by decide +kernel
theorem dX7_forget_16 : decode cX7_forget 16 = .ok (.aload_n 0, 1) := by decide +kernel
theorem dX7_forget_17 : decode cX7_forget 17 = .ok (.getfield 43, 3) := by decide +kernel
theorem dX7_forget_20 : decode cX7_forget 20 = .ok (.iconst 0, 1) := by decide +kernel
theorem dX7_forget_21 : decode cX7_forget 21 = .ok (.putfield 81, 3) := by decide +kernel
theorem dX7_forget_24 : decode cX7_forget 24 = .ok (.iload_n 1, 1) := by decide +kernel
theorem dX7_forget_25 : decode cX7_forget 25 = .ok (.ireturn, 1) := by decide +kernel
set_option maxRecDepth 20000 in
theorem ggX7_hung_X6_seek : GoodIn wsX7_hung wsX6_seek := goodIn_r _ [10, 11, 12, 13, 14, 15, 16, 17, 18, 19, 20, 21, 22, 23, 24, 9, 25, 26, 27, 28, 29, 30, 31, 32, 33, 34, 35, 36, 37, 38, 39, 40, 41, 42, 43, 44, 45, 59, 60, 61, 62, 63, 64, 65, 66, 67, 68, 69, 70, 71] (by decide +kernel) (by decide +kernel)
set_option maxRecDepth 20000 in
theorem gX7_hung_X6_seek : GoodIn wsX7_hung (wsV RX7 194 RX6 yX6_seek wsX6_seek) := goodIn_app (goodIn_of _ (by decide +kernel)) ggX7_hung_X6_seek
theorem dX7_hung_0 : decode cX7_hung 0 = .ok (.aload_n 0, 1) := by decide +kernel
theorem dX7_hung_1 : decode cX7_hung 1 = .ok (.getfield 19, 3) := by decide +kernel
theorem dX7_hung_4 : decode cX7_hung 4 = .ok (.getfield 91, 3) := by decide +kernel
theorem dX7_hung_7 : decode cX7_hung 7 = .ok (.ifCond .ne 6, 3) := by decide +kernel
theorem dX7_hung_10 : decode cX7_hung 10 = .ok (.bipush (-103), 2) := by decide +kernel
theorem dX7_hung_12 : decode cX7_hung 12 = .ok (.ireturn, 1) := by decide +kernel
theorem dX7_hung_13 : decode cX7_hung 13 = .ok (.aload_n 0, 1) := by decide +kernel
theorem dX7_hung_14 : decode cX7_hung 14 = .ok (.getfield 43, 3) := by decide +kernel
theorem dX7_hung_17 : decode cX7_hung 17 = .ok (.aload_n 0, 1) := by decide +kernel
theorem dX7_hung_18 : decode cX7_hung 18 = .ok (.getfield 26, 3) := by decide +kernel
theorem dX7_hung_21 : decode cX7_hung 21 = .ok (.aload_n 0, 1) := by decide +kernel
theorem dX7_hung_22 : decode cX7_hung 22 = .ok (.getfield 19, 3) := by decide +kernel
theorem dX7_hung_25 : decode cX7_hung 25 = .ok (.getfield 91, 3) := by decide +kernel
theorem dX7_hung_28 : decode cX7_hung 28 = .ok (.invokevirtual 194, 3) := by decide +kernel
theorem dX7_hung_31 : decode cX7_hung 31 = .ok (.aload_n 0, 1) := by decide +kernel
theorem dX7_hung_32 : decode cX7_hung 32 = .ok (.getfield 43, 3) := by decide +kernel
theorem dX7_hung_35 : decode cX7_hung 35 = .ok (.getfield 197, 3) := by decide +kernel
theorem dX7_hung_38 : decode cX7_hung 38 = .ok (.ireturn, 1) := by decide +kernel
set_option maxRecDepth 20000 in
theorem ggX7_where_X7_isKnown : GoodIn wsX7_where wsX7_isKnown := goodIn_r _ [10, 3, 11, 12, 13, 14, 15, 16, 57, 58, 59, 60, 61, 62, 63, 64, 65, 66, 67, 68, 69] (by decide +kernel) (by decide +kernel)
set_option maxRecDepth 20000 in
theorem gX7_where_X7_isKnown : GoodIn wsX7_where (wsV RX7 94 RX7 yX7_isKnown wsX7_isKnown) := goodIn_app (goodIn_of _ (by decide +kernel)) ggX7_where_X7_isKnown
set_option maxRecDepth 20000 in
theorem ggX7_where_X6_seek : GoodIn wsX7_where wsX6_seek := goodIn_r _ [21, 22, 23, 24, 25, 26, 27, 28, 29, 30, 31, 32, 33, 34, 35, 20, 36, 37, 38, 39, 40, 41, 42, 43, 44, 45, 46, 47, 48, 49, 50, 51, 52, 53, 54, 55, 56, 70, 71, 72, 73, 74, 75, 76, 77, 78, 79, 80, 81, 82] (by decide +kernel) (by decide +kernel)
set_option maxRecDepth 20000 in
theorem gX7_where_X6_seek : GoodIn wsX7_where (wsV RX7 194 RX6 yX6_seek wsX6_seek) := goodIn_app (goodIn_of _ (by decide +kernel)) ggX7_where_X6_seek
theorem dX7_where_0 : decode cX7_where 0 = .ok (.aload_n 0, 1) := by decide +kernel
theorem dX7_where_1 : decode cX7_where 1 = .ok (.iload_n 1, 1) := by decide +kernel
theorem dX7_where_2 : decode cX7_where 2 = .ok (.invokevirtual 94, 3) := by decide +kernel
theorem dX7_where_5 : decode cX7_where 5 = .ok (.ifCond .ne 6, 3) := by decide +kernel
theorem dX7_where_8 : decode cX7_where 8 = .ok (.bipush (-101), 2) := by decide +kernel
theorem dX7_where_10 : decode cX7_where 10 = .ok (.ireturn, 1) := by decide +kernel
theorem dX7_where_11 : decode cX7_where 11 = .ok (.aload_n 0, 1) := by decide +kernel
theorem dX7_where_12 : decode cX7_where 12 = .ok (.getfield 43, 3) := by decide +kernel
theorem dX7_where_15 : decode cX7_where 15 = .ok (.aload_n 0, 1) := by decide +kernel
theorem dX7_where_16 : decode cX7_where 16 = .ok (.getfield 26, 3) := by decide +kernel
theorem dX7_where_19 : decode cX7_where 19 = .ok (.aload_n 0, 1) := by decide +kernel
theorem dX7_where_20 : decode cX7_where 20 = .ok (.getfield 19, 3) := by decide +kernel
theorem dX7_where_23 : decode cX7_where 23 = .ok (.getfield 91, 3) := by decide +kernel
theorem dX7_where_26 : decode cX7_where 26 = .ok (.invokevirtual 194, 3) := by decide +kernel
theorem dX7_where_29 : decode cX7_where 29 = .ok (.aload_n 0, 1) := by decide +kernel
theorem dX7_where_30 : decode cX7_where 30 = .ok (.getfield 43, 3) := by decide +kernel
theorem dX7_where_33 : decode cX7_where 33 = .ok (.getfield 200, 3) := by decide +kernel
theorem dX7_where_36 : decode cX7_where 36 = .ok (.iload_n 1, 1) := by decide +kernel
theorem dX7_where_37 : decode cX7_where 37 = .ok (.iaload, 1) := by decide +kernel
theorem dX7_where_38 : decode cX7_where 38 = .ok (.ireturn, 1) := by decide +kernel
set_option maxRecDepth 20000 in
theorem ggX7_shifts_X5_run : GoodIn wsX7_shifts wsX5_run := goodIn_r _ [12, 13, 14, 15, 16, 17, 18, 19, 20, 21, 22, 23, 24, 11, 25, 26, 27, 28, 29, 30, 31, 32, 33, 34, 35, 36, 37, 38, 39, 40, 41, 42, 43, 44, 45, 46, 47, 48, 49, 50, 51, 52, 53, 54, 55, 56, 57, 58, 59, 60, 61, 62, 76, 77, 78, 79, 72, 73, 74, 75, 80, 81, 82, 83, 84, 85, 86, 87] (by decide +kernel) (by decide +kernel)
set_option maxRecDepth 20000 in
theorem gX7_shifts_X5_run : GoodIn wsX7_shifts (wsV RX7 203 RX5 yX5_run wsX5_run) := goodIn_app (goodIn_of _ (by decide +kernel)) ggX7_shifts_X5_run
theorem dX7_shifts_0 : decode cX7_shifts 0 = .ok (.iload_n 1, 1) := by decide +kernel
theorem dX7_shifts_1 : decode cX7_shifts 1 = .ok (.iconst 1, 1) := by decide +kernel
theorem dX7_shifts_2 : decode cX7_shifts 2 = .ok (.if_icmp .lt 22, 3) := by decide +kernel
theorem dX7_shifts_5 : decode cX7_shifts 5 = .ok (.iload_n 1, 1) := by decide +kernel
theorem dX7_shifts_6 : decode cX7_shifts 6 = .ok (.bipush 60, 2) := by decide +kernel
theorem dX7_shifts_8 : decode cX7_shifts 8 = .ok (.if_icmp .gt 16, 3) := by decide +kernel
theorem dX7_shifts_11 : decode cX7_shifts 11 = .ok (.iload_n 2, 1) := by decide +kernel
theorem dX7_shifts_12 : decode cX7_shifts 12 = .ok (.ifCond .lt 12, 3) := by decide +kernel
theorem dX7_shifts_15 : decode cX7_shifts 15 = .ok (.iload_n 3, 1) := by decide +kernel
theorem dX7_shifts_16 : decode cX7_shifts 16 = .ok (.ifCond .lt 8, 3) := by decide +kernel
theorem dX7_shifts_19 : decode cX7_shifts 19 = .ok (.iload_n 3, 1) := by decide +kernel
theorem dX7_shifts_20 : decode cX7_shifts 20 = .ok (.iconst 2, 1) := by decide +kernel
theorem dX7_shifts_21 : decode cX7_shifts 21 = .ok (.if_icmp .le 6, 3) := by decide +kernel
theorem dX7_shifts_24 : decode cX7_shifts 24 = .ok (.bipush (-102), 2) := by decide +kernel
theorem dX7_shifts_26 : decode cX7_shifts 26 = .ok (.ireturn, 1) := by decide +kernel
theorem dX7_shifts_27 : decode cX7_shifts 27 = .ok (.aload_n 0, 1) := by decide +kernel
theorem dX7_shifts_28 : decode cX7_shifts 28 = .ok (.getfield 19, 3) := by decide +kernel
theorem dX7_shifts_31 : decode cX7_shifts 31 = .ok (.getfield 91, 3) := by decide +kernel
theorem dX7_shifts_34 : decode cX7_shifts 34 = .ok (.ifCond .ne 6, 3) := by decide +kernel
theorem dX7_shifts_37 : decode cX7_shifts 37 = .ok (.bipush (-103), 2) := by decide +kernel
theorem dX7_shifts_39 : decode cX7_shifts 39 = .ok (.ireturn, 1) := by decide +kernel
theorem dX7_shifts_40 : decode cX7_shifts 40 = .ok (.aload_n 0, 1) := by decide +kernel
theorem dX7_shifts_41 : decode cX7_shifts 41 = .ok (.getfield 50, 3) := by decide +kernel
theorem dX7_shifts_44 : decode cX7_shifts 44 = .ok (.aload_n 0, 1) := by decide +kernel
theorem dX7_shifts_45 : decode cX7_shifts 45 = .ok (.getfield 19, 3) := by decide +kernel
theorem dX7_shifts_48 : decode cX7_shifts 48 = .ok (.aload_n 0, 1) := by decide +kernel
theorem dX7_shifts_49 : decode cX7_shifts 49 = .ok (.getfield 26, 3) := by decide +kernel
theorem dX7_shifts_52 : decode cX7_shifts 52 = .ok (.iload_n 1, 1) := by decide +kernel
theorem dX7_shifts_53 : decode cX7_shifts 53 = .ok (.iload_n 2, 1) := by decide +kernel
theorem dX7_shifts_54 : decode cX7_shifts 54 = .ok (.invokevirtual 203, 3) := by decide +kernel
theorem dX7_shifts_57 : decode cX7_shifts 57 = .ok (.iload_n 3, 1) := by decide +kernel
theorem dX7_shifts_58 : decode cX7_shifts 58 = .ok (.ifCond .ne 11, 3) := by decide +kernel
theorem dX7_shifts_61 : decode cX7_shifts 61 = .ok (.aload_n 0, 1) := by decide +kernel
theorem dX7_shifts_62 : decode cX7_shifts 62 = .ok (.getfield 50, 3) := by decide +kernel
theorem dX7_shifts_65 : decode cX7_shifts 65 = .ok (.getfield 207, 3) := by decide +kernel
theorem dX7_shifts_68 : decode cX7_shifts 68 = .ok (.ireturn, 1) := by decide +kernel
theorem dX7_shifts_69 : decode cX7_shifts 69 = .ok (.iload_n 3, 1) := by decide +kernel
theorem dX7_shifts_70 : decode cX7_shifts 70 = .ok (.iconst 1, 1) := by decide +kernel
theorem dX7_shifts_71 : decode cX7_shifts 71 = .ok (.if_icmp .ne 13, 3) := by decide +kernel
theorem dX7_shifts_74 : decode cX7_shifts 74 = .ok (.aload_n 0, 1) := by decide +kernel
theorem dX7_shifts_75 : decode cX7_shifts 75 = .ok (.getfield 50, 3) := by decide +kernel
theorem dX7_shifts_78 : decode cX7_shifts 78 = .ok (.getfield 210, 3) := by decide +kernel
theorem dX7_shifts_81 : decode cX7_shifts 81 = .ok (.goto 10, 3) := by decide +kernel
theorem dX7_shifts_84 : decode cX7_shifts 84 = .ok (.aload_n 0, 1) := by decide +kernel
theorem dX7_shifts_85 : decode cX7_shifts 85 = .ok (.getfield 50, 3) := by decide +kernel
theorem dX7_shifts_88 : decode cX7_shifts 88 = .ok (.getfield 213, 3) := by decide +kernel
theorem dX7_shifts_91 : decode cX7_shifts 91 = .ok (.ireturn, 1) := by decide +kernel
set_option maxRecDepth 20000 in
theorem ggX7_image_X4_copy : GoodIn wsX7_image wsX4_copy := goodIn_r _ [11, 12, 13, 14, 15, 16, 17, 18, 19, 20, 21, 22, 23, 24, 25, 26, 27, 28, 42, 43, 44, 45, 46, 47, 48, 49, 50, 51, 52, 53] (by decide +kernel) (by decide +kernel)
set_option maxRecDepth 20000 in
theorem gX7_image_X4_copy : GoodIn wsX7_image (wsV RX7 216 RX4 yX4_copy wsX4_copy) := goodIn_app (goodIn_of _ (by decide +kernel)) ggX7_image_X4_copy
theorem dX7_image_0 : decode cX7_image 0 = .ok (.aload_n 0, 1) := by decide +kernel
theorem dX7_image_1 : decode cX7_image 1 = .ok (.getfield 19, 3) := by decide +kernel
theorem dX7_image_4 : decode cX7_image 4 = .ok (.getfield 91, 3) := by decide +kernel
theorem dX7_image_7 : decode cX7_image 7 = .ok (.ifCond .ne 6, 3) := by decide +kernel
theorem dX7_image_10 : decode cX7_image 10 = .ok (.bipush (-103), 2) := by decide +kernel
theorem dX7_image_12 : decode cX7_image 12 = .ok (.ireturn, 1) := by decide +kernel
theorem dX7_image_13 : decode cX7_image 13 = .ok (.aload_n 0, 1) := by decide +kernel
theorem dX7_image_14 : decode cX7_image 14 = .ok (.getfield 30, 3) := by decide +kernel
theorem dX7_image_17 : decode cX7_image 17 = .ok (.aload_n 0, 1) := by decide +kernel
theorem dX7_image_18 : decode cX7_image 18 = .ok (.getfield 26, 3) := by decide +kernel
theorem dX7_image_21 : decode cX7_image 21 = .ok (.invokevirtual 216, 3) := by decide +kernel
theorem dX7_image_24 : decode cX7_image 24 = .ok (.aload_n 0, 1) := by decide +kernel
theorem dX7_image_25 : decode cX7_image 25 = .ok (.iconst 1, 1) := by decide +kernel
theorem dX7_image_26 : decode cX7_image 26 = .ok (.putfield 85, 3) := by decide +kernel
theorem dX7_image_29 : decode cX7_image 29 = .ok (.aload_n 0, 1) := by decide +kernel
theorem dX7_image_30 : decode cX7_image 30 = .ok (.getfield 26, 3) := by decide +kernel
theorem dX7_image_33 : decode cX7_image 33 = .ok (.getfield 159, 3) := by decide +kernel
theorem dX7_image_36 : decode cX7_image 36 = .ok (.ireturn, 1) := by decide +kernel
set_option maxRecDepth 20000 in
theorem ggX7_restore_X4_copy : GoodIn wsX7_restore wsX4_copy := goodIn_r _ [11, 12, 13, 14, 15, 16, 17, 18, 19, 20, 21, 22, 23, 24, 25, 26, 27, 28, 43, 44, 45, 46, 47, 48, 49, 50, 51, 52, 53, 54] (by decide +kernel) (by decide +kernel)
set_option maxRecDepth 20000 in
theorem gX7_restore_X4_copy : GoodIn wsX7_restore (wsV RX7 216 RX4 yX4_copy wsX4_copy) := goodIn_app (goodIn_of _ (by decide +kernel)) ggX7_restore_X4_copy
theorem dX7_restore_0 : decode cX7_restore 0 = .ok (.aload_n 0, 1) := by decide +kernel
theorem dX7_restore_1 : decode cX7_restore 1 = .ok (.getfield 85, 3) := by decide +kernel
theorem dX7_restore_4 : decode cX7_restore 4 = .ok (.ifCond .ne 6, 3) := by decide +kernel
theorem dX7_restore_7 : decode cX7_restore 7 = .ok (.bipush (-103), 2) := by decide +kernel
theorem dX7_restore_9 : decode cX7_restore 9 = .ok (.ireturn, 1) := by decide +kernel
theorem dX7_restore_10 : decode cX7_restore 10 = .ok (.aload_n 0, 1) := by decide +kernel
theorem dX7_restore_11 : decode cX7_restore 11 = .ok (.getfield 26, 3) := by decide +kernel
theorem dX7_restore_14 : decode cX7_restore 14 = .ok (.aload_n 0, 1) := by decide +kernel
theorem dX7_restore_15 : decode cX7_restore 15 = .ok (.getfield 30, 3) := by decide +kernel
theorem dX7_restore_18 : decode cX7_restore 18 = .ok (.invokevirtual 216, 3) := by decide +kernel
theorem dX7_restore_21 : decode cX7_restore 21 = .ok (.aload_n 0, 1) := by decide +kernel
theorem dX7_restore_22 : decode cX7_restore 22 = .ok (.getfield 43, 3) := by decide +kernel
theorem dX7_restore_25 : decode cX7_restore 25 = .ok (.iconst 0, 1) := by decide +kernel
theorem dX7_restore_26 : decode cX7_restore 26 = .ok (.putfield 81, 3) := by decide +kernel
theorem dX7_restore_29 : decode cX7_restore 29 = .ok (.aload_n 0, 1) := by decide +kernel
theorem dX7_restore_30 : decode cX7_restore 30 = .ok (.getfield 26, 3) := by decide +kernel
theorem dX7_restore_33 : decode cX7_restore 33 = .ok (.getfield 159, 3) := by decide +kernel
theorem dX7_restore_36 : decode cX7_restore 36 = .ok (.ireturn, 1) := by decide +kernel
set_option maxRecDepth 20000 in
theorem ggX7_count_X4_inSacks : GoodIn wsX7_count wsX4_inSacks := goodIn_r _ [16, 17, 18, 44, 45, 46, 47, 48, 49, 50, 51, 52, 53, 54, 55] (by decide +kernel) (by decide +kernel)
set_option maxRecDepth 20000 in
theorem gX7_count_X4_inSacks : GoodIn wsX7_count (wsV RX7 220 RX4 yX4_inSacks wsX4_inSacks) := goodIn_app (goodIn_of _ (by decide +kernel)) ggX7_count_X4_inSacks
set_option maxRecDepth 20000 in
theorem ggX7_count_X4_wrongInSacks : GoodIn wsX7_count wsX4_wrongInSacks := goodIn_r _ [22, 17, 23, 24, 25, 26, 27, 28, 29, 30, 44, 45, 46, 47, 48, 49, 50, 51, 52, 53, 54, 55] (by decide +kernel) (by decide +kernel)
set_option maxRecDepth 20000 in
theorem gX7_count_X4_wrongInSacks : GoodIn wsX7_count (wsV RX7 223 RX4 yX4_wrongInSacks wsX4_wrongInSacks) := goodIn_app (goodIn_of _ (by decide +kernel)) ggX7_count_X4_wrongInSacks
theorem dX7_count_0 : decode cX7_count 0 = .ok (.iload_n 1, 1) := by decide +kernel
theorem dX7_count_1 : decode cX7_count 1 = .ok (.tableswitch 137 0 8 #[51, 59, 70, 85, 100, 108, 116, 124, 132], 51) := by decide +kernel
theorem dX7_count_52 : decode cX7_count 52 = .ok (.aload_n 0, 1) := by decide +kernel
theorem dX7_count_53 : decode cX7_count 53 = .ok (.getfield 19, 3) := by decide +kernel
theorem dX7_count_56 : decode cX7_count 56 = .ok (.getfield 91, 3) := by decide +kernel
theorem dX7_count_59 : decode cX7_count 59 = .ok (.ireturn, 1) := by decide +kernel
theorem dX7_count_60 : decode cX7_count 60 = .ok (.aload_n 0, 1) := by decide +kernel
theorem dX7_count_61 : decode cX7_count 61 = .ok (.getfield 26, 3) := by decide +kernel
theorem dX7_count_64 : decode cX7_count 64 = .ok (.getfield 128, 3) := by decide +kernel
theorem dX7_count_67 : decode cX7_count 67 = .ok (.getfield 112, 3) := by decide +kernel
theorem dX7_count_70 : decode cX7_count 70 = .ok (.ireturn, 1) := by decide +kernel
theorem dX7_count_71 : decode cX7_count 71 = .ok (.aload_n 0, 1) := by decide +kernel
theorem dX7_count_72 : decode cX7_count 72 = .ok (.getfield 26, 3) := by decide +kernel
theorem dX7_count_75 : decode cX7_count 75 = .ok (.aload_n 0, 1) := by decide +kernel
theorem dX7_count_76 : decode cX7_count 76 = .ok (.getfield 19, 3) := by decide +kernel
theorem dX7_count_79 : decode cX7_count 79 = .ok (.getfield 91, 3) := by decide +kernel
theorem dX7_count_82 : decode cX7_count 82 = .ok (.invokevirtual 220, 3) := by decide +kernel
theorem dX7_count_85 : decode cX7_count 85 = .ok (.ireturn, 1) := by decide +kernel
theorem dX7_count_86 : decode cX7_count 86 = .ok (.aload_n 0, 1) := by decide +kernel
theorem dX7_count_87 : decode cX7_count 87 = .ok (.getfield 26, 3) := by decide +kernel
theorem dX7_count_90 : decode cX7_count 90 = .ok (.aload_n 0, 1) := by decide +kernel
theorem dX7_count_91 : decode cX7_count 91 = .ok (.getfield 19, 3) := by decide +kernel
theorem dX7_count_94 : decode cX7_count 94 = .ok (.getfield 91, 3) := by decide +kernel
theorem dX7_count_97 : decode cX7_count 97 = .ok (.invokevirtual 223, 3) := by decide +kernel
theorem dX7_count_100 : decode cX7_count 100 = .ok (.ireturn, 1) := by decide +kernel
theorem dX7_count_101 : decode cX7_count 101 = .ok (.aload_n 0, 1) := by decide +kernel
theorem dX7_count_102 : decode cX7_count 102 = .ok (.getfield 26, 3) := by decide +kernel
theorem dX7_count_105 : decode cX7_count 105 = .ok (.getfield 159, 3) := by decide +kernel
theorem dX7_count_108 : decode cX7_count 108 = .ok (.ireturn, 1) := by decide +kernel
theorem dX7_count_109 : decode cX7_count 109 = .ok (.aload_n 0, 1) := by decide +kernel
theorem dX7_count_110 : decode cX7_count 110 = .ok (.getfield 26, 3) := by decide +kernel
theorem dX7_count_113 : decode cX7_count 113 = .ok (.getfield 226, 3) := by decide +kernel
theorem dX7_count_116 : decode cX7_count 116 = .ok (.ireturn, 1) := by decide +kernel
theorem dX7_count_117 : decode cX7_count 117 = .ok (.aload_n 0, 1) := by decide +kernel
theorem dX7_count_118 : decode cX7_count 118 = .ok (.getfield 26, 3) := by decide +kernel
theorem dX7_count_121 : decode cX7_count 121 = .ok (.getfield 188, 3) := by decide +kernel
theorem dX7_count_124 : decode cX7_count 124 = .ok (.ireturn, 1) := by decide +kernel
theorem dX7_count_125 : decode cX7_count 125 = .ok (.aload_n 0, 1) := by decide +kernel
theorem dX7_count_126 : decode cX7_count 126 = .ok (.getfield 10, 3) := by decide +kernel
theorem dX7_count_129 : decode cX7_count 129 = .ok (.getfield 54, 3) := by decide +kernel
theorem dX7_count_132 : decode cX7_count 132 = .ok (.ireturn, 1) := by decide +kernel
theorem dX7_count_133 : decode cX7_count 133 = .ok (.aload_n 0, 1) := by decide +kernel
theorem dX7_count_134 : decode cX7_count 134 = .ok (.getfield 88, 3) := by decide +kernel
theorem dX7_count_137 : decode cX7_count 137 = .ok (.ireturn, 1) := by decide +kernel
theorem dX7_count_138 : decode cX7_count 138 = .ok (.bipush (-102), 2) := by decide +kernel
theorem dX7_count_140 : decode cX7_count 140 = .ok (.ireturn, 1) := by decide +kernel
set_option maxRecDepth 20000 in
theorem ggX7_digest_X7_withHook : GoodIn wsX7_digest wsX7_withHook := goodIn_r _ [14, 7, 15, 16, 17, 13, 18, 4, 19, 20, 2, 21, 22, 6, 23, 24, 25, 26, 27, 28, 29, 30, 31, 32, 33, 34, 35, 36, 37, 38, 39, 40, 41, 42, 43, 44, 45, 46, 47, 48, 49, 50, 51, 52, 53, 54, 3, 55, 56, 57, 58, 59, 60, 61, 62, 63, 64, 65, 66, 67, 68, 69, 70, 71, 72, 73, 74, 75, 76, 77, 78, 79, 80, 81, 82, 83, 84, 85, 86, 87, 88, 89, 90, 91, 201, 202, 203, 204, 205, 206, 207, 208, 209, 214, 215, 216, 217, 218, 219, 220, 221, 210, 211, 212, 213, 222, 223, 224, 225] (by decide +kernel) (by decide +kernel)
set_option maxRecDepth 20000 in
theorem gX7_digest_X7_withHook : GoodIn wsX7_digest (wsV RX7 231 RX7 yX7_withHook wsX7_withHook) := goodIn_app (goodIn_of _ (by decide +kernel)) ggX7_digest_X7_withHook
set_option maxRecDepth 20000 in
theorem ggX7_digest_X7_belt : GoodIn wsX7_digest wsX7_belt := goodIn_r _ [95, 4, 5, 6, 96, 97, 98, 36, 99, 38, 44, 100, 101, 102, 103, 39, 85, 86, 13, 87, 58, 201, 202, 203, 204, 205, 206, 207, 208, 209, 214, 215, 216, 217, 218, 219, 220, 221, 222, 223, 224, 225] (by decide +kernel) (by decide +kernel)
set_option maxRecDepth 20000 in
theorem gX7_digest_X7_belt : GoodIn wsX7_digest (wsV RX7 237 RX7 yX7_belt wsX7_belt) := goodIn_app (goodIn_of _ (by decide +kernel)) ggX7_digest_X7_belt
set_option maxRecDepth 20000 in
theorem ggX7_digest_X7_withHanging : GoodIn wsX7_digest wsX7_withHanging := goodIn_r _ [107, 7, 2, 3, 108, 109, 110, 13, 111, 112, 113, 4, 114, 115, 116, 117, 118, 119, 120, 121, 122, 123, 124, 125, 126, 23, 24, 25, 26, 27, 28, 29, 30, 31, 32, 127, 128, 129, 130, 131, 132, 133, 134, 135, 136, 137, 138, 139, 140, 141, 79, 80, 81, 142, 143, 144, 145, 146, 147, 148, 149, 150, 151, 152, 153, 154, 155, 156, 157, 158, 159, 160, 161, 162, 163, 164, 165, 166, 167, 168, 169, 170, 171, 172, 173, 174, 201, 202, 203, 204, 205, 206, 207, 208, 209, 210, 211, 212, 213, 228, 229, 230, 231, 214, 215, 216, 217, 218, 219, 220, 221, 232, 233, 234, 235, 236] (by decide +kernel) (by decide +kernel)
set_option maxRecDepth 20000 in
theorem gX7_digest_X7_withHanging : GoodIn wsX7_digest (wsV RX7 239 RX7 yX7_withHanging wsX7_withHanging) := goodIn_app (goodIn_of _ (by decide +kernel)) ggX7_digest_X7_withHanging
set_option maxRecDepth 20000 in
theorem ggX7_digest_X1_codeAt : GoodIn wsX7_digest wsX1_codeAt := goodIn_r _ [179, 180, 181, 226, 227] (by decide +kernel) (by decide +kernel)
set_option maxRecDepth 20000 in
theorem gX7_digest_X1_codeAt : GoodIn wsX7_digest (wsV RX7 243 RX1 yX1_codeAt wsX1_codeAt) := goodIn_app (goodIn_of _ (by decide +kernel)) ggX7_digest_X1_codeAt
set_option maxRecDepth 20000 in
theorem ggX7_digest_X7_count : GoodIn wsX7_digest wsX7_count := goodIn_r _ [185, 2, 3, 4, 5, 6, 186, 187, 188, 8, 9, 189, 190, 191, 192, 124, 193, 194, 195, 196, 197, 198, 199, 126, 200, 34, 35, 36, 37, 38, 39, 201, 202, 203, 204, 205, 206, 207, 208, 209, 210, 211, 212, 213, 214, 215, 216, 217, 218, 219, 220, 221, 222, 223, 224, 225, 226, 227] (by decide +kernel) (by decide +kernel)
set_option maxRecDepth 20000 in
theorem gX7_digest_X7_count : GoodIn wsX7_digest (wsV RX7 246 RX7 yX7_count wsX7_count) := goodIn_app (goodIn_of _ (by decide +kernel)) ggX7_digest_X7_count
theorem dX7_digest_0 : decode cX7_digest 0 = .ok (.ldc2_w 229, 3) := by decide +kernel
theorem dX7_digest_3 : decode cX7_digest 3 = .ok (.lstore_n 1, 1) := by decide +kernel
theorem dX7_digest_4 : decode cX7_digest 4 = .ok (.iconst 0, 1) := by decide +kernel
theorem dX7_digest_5 : decode cX7_digest 5 = .ok (.istore_n 3, 1) := by decide +kernel
theorem dX7_digest_6 : decode cX7_digest 6 = .ok (.iload_n 3, 1) := by decide +kernel
theorem dX7_digest_7 : decode cX7_digest 7 = .ok (.aload_n 0, 1) := by decide +kernel
theorem dX7_digest_8 : decode cX7_digest 8 = .ok (.getfield 19, 3) := by decide +kernel
theorem dX7_digest_11 : decode cX7_digest 11 = .ok (.getfield 91, 3) := by decide +kernel
theorem dX7_digest_14 : decode cX7_digest 14 = .ok (.if_icmp .ge 16, 3) := by decide +kernel
theorem dX7_digest_17 : decode cX7_digest 17 = .ok (.aload_n 0, 1) := by decide +kernel
theorem dX7_digest_18 : decode cX7_digest 18 = .ok (.lload_n 1, 1) := by decide +kernel
theorem dX7_digest_19 : decode cX7_digest 19 = .ok (.iload_n 3, 1) := by decide +kernel
theorem dX7_digest_20 : decode cX7_digest 20 = .ok (.invokevirtual 231, 3) := by decide +kernel
theorem dX7_digest_23 : decode cX7_digest 23 = .ok (.lstore_n 1, 1) := by decide +kernel
theorem dX7_digest_24 : decode cX7_digest 24 = .ok (.iinc 3 1, 3) := by decide +kernel
theorem dX7_digest_27 : decode cX7_digest 27 = .ok (.goto (-21), 3) := by decide +kernel
theorem dX7_digest_30 : decode cX7_digest 30 = .ok (.iconst 0, 1) := by decide +kernel
theorem dX7_digest_31 : decode cX7_digest 31 = .ok (.istore_n 3, 1) := by decide +kernel
theorem dX7_digest_32 : decode cX7_digest 32 = .ok (.iload_n 3, 1) := by decide +kernel
theorem dX7_digest_33 : decode cX7_digest 33 = .ok (.aload_n 0, 1) := by decide +kernel
theorem dX7_digest_34 : decode cX7_digest 34 = .ok (.getfield 26, 3) := by decide +kernel
theorem dX7_digest_37 : decode cX7_digest 37 = .ok (.getfield 128, 3) := by decide +kernel
theorem dX7_digest_40 : decode cX7_digest 40 = .ok (.getfield 112, 3) := by decide +kernel
theorem dX7_digest_43 : decode cX7_digest 43 = .ok (.if_icmp .ge 39, 3) := by decide +kernel
theorem dX7_digest_46 : decode cX7_digest 46 = .ok (.iconst 0, 1) := by decide +kernel
theorem dX7_digest_47 : decode cX7_digest 47 = .ok (.istore 4, 2) := by decide +kernel
theorem dX7_digest_49 : decode cX7_digest 49 = .ok (.iload 4, 2) := by decide +kernel
theorem dX7_digest_51 : decode cX7_digest 51 = .ok (.iconst 2, 1) := by decide +kernel
theorem dX7_digest_52 : decode cX7_digest 52 = .ok (.if_icmp .gt 24, 3) := by decide +kernel
theorem dX7_digest_55 : decode cX7_digest 55 = .ok (.ldc2_w 235, 3) := by decide +kernel
theorem dX7_digest_58 : decode cX7_digest 58 = .ok (.lload_n 1, 1) := by decide +kernel
theorem dX7_digest_59 : decode cX7_digest 59 = .ok (.lmul, 1) := by decide +kernel
theorem dX7_digest_60 : decode cX7_digest 60 = .ok (.aload_n 0, 1) := by decide +kernel
theorem dX7_digest_61 : decode cX7_digest 61 = .ok (.iload_n 3, 1) := by decide +kernel
theorem dX7_digest_62 : decode cX7_digest 62 = .ok (.iload 4, 2) := by decide +kernel
theorem dX7_digest_64 : decode cX7_digest 64 = .ok (.invokevirtual 237, 3) := by decide +kernel
theorem dX7_digest_67 : decode cX7_digest 67 = .ok (.i2l, 1) := by decide +kernel
theorem dX7_digest_68 : decode cX7_digest 68 = .ok (.ladd, 1) := by decide +kernel
theorem dX7_digest_69 : decode cX7_digest 69 = .ok (.lstore_n 1, 1) := by decide +kernel
theorem dX7_digest_70 : decode cX7_digest 70 = .ok (.iinc 4 1, 3) := by decide +kernel
theorem dX7_digest_73 : decode cX7_digest 73 = .ok (.goto (-24), 3) := by decide +kernel
theorem dX7_digest_76 : decode cX7_digest 76 = .ok (.iinc 3 1, 3) := by decide +kernel
theorem dX7_digest_79 : decode cX7_digest 79 = .ok (.goto (-47), 3) := by decide +kernel
theorem dX7_digest_82 : decode cX7_digest 82 = .ok (.aload_n 0, 1) := by decide +kernel
theorem dX7_digest_83 : decode cX7_digest 83 = .ok (.getfield 19, 3) := by decide +kernel
theorem dX7_digest_86 : decode cX7_digest 86 = .ok (.getfield 91, 3) := by decide +kernel
theorem dX7_digest_89 : decode cX7_digest 89 = .ok (.ifCond .le 9, 3) := by decide +kernel
theorem dX7_digest_92 : decode cX7_digest 92 = .ok (.aload_n 0, 1) := by decide +kernel
theorem dX7_digest_93 : decode cX7_digest 93 = .ok (.lload_n 1, 1) := by decide +kernel
theorem dX7_digest_94 : decode cX7_digest 94 = .ok (.invokevirtual 239, 3) := by decide +kernel
theorem dX7_digest_97 : decode cX7_digest 97 = .ok (.lstore_n 1, 1) := by decide +kernel
theorem dX7_digest_98 : decode cX7_digest 98 = .ok (.iconst 0, 1) := by decide +kernel
theorem dX7_digest_99 : decode cX7_digest 99 = .ok (.istore_n 3, 1) := by decide +kernel
theorem dX7_digest_100 : decode cX7_digest 100 = .ok (.iload_n 3, 1) := by decide +kernel
theorem dX7_digest_101 : decode cX7_digest 101 = .ok (.aload_n 0, 1) := by decide +kernel
theorem dX7_digest_102 : decode cX7_digest 102 = .ok (.getfield 10, 3) := by decide +kernel
theorem dX7_digest_105 : decode cX7_digest 105 = .ok (.getfield 54, 3) := by decide +kernel
theorem dX7_digest_108 : decode cX7_digest 108 = .ok (.if_icmp .ge 25, 3) := by decide +kernel
theorem dX7_digest_111 : decode cX7_digest 111 = .ok (.ldc2_w 235, 3) := by decide +kernel
theorem dX7_digest_114 : decode cX7_digest 114 = .ok (.lload_n 1, 1) := by decide +kernel
theorem dX7_digest_115 : decode cX7_digest 115 = .ok (.lmul, 1) := by decide +kernel
theorem dX7_digest_116 : decode cX7_digest 116 = .ok (.aload_n 0, 1) := by decide +kernel
theorem dX7_digest_117 : decode cX7_digest 117 = .ok (.getfield 10, 3) := by decide +kernel
theorem dX7_digest_120 : decode cX7_digest 120 = .ok (.iload_n 3, 1) := by decide +kernel
theorem dX7_digest_121 : decode cX7_digest 121 = .ok (.invokevirtual 243, 3) := by decide +kernel
theorem dX7_digest_124 : decode cX7_digest 124 = .ok (.i2l, 1) := by decide +kernel
theorem dX7_digest_125 : decode cX7_digest 125 = .ok (.ladd, 1) := by decide +kernel
theorem dX7_digest_126 : decode cX7_digest 126 = .ok (.lstore_n 1, 1) := by decide +kernel
theorem dX7_digest_127 : decode cX7_digest 127 = .ok (.iinc 3 1, 3) := by decide +kernel
theorem dX7_digest_130 : decode cX7_digest 130 = .ok (.goto (-30), 3) := by decide +kernel
theorem dX7_digest_133 : decode cX7_digest 133 = .ok (.iconst 0, 1) := by decide +kernel
theorem dX7_digest_134 : decode cX7_digest 134 = .ok (.istore_n 3, 1) := by decide +kernel
theorem dX7_digest_135 : decode cX7_digest 135 = .ok (.iload_n 3, 1) := by decide +kernel
theorem dX7_digest_136 : decode cX7_digest 136 = .ok (.bipush 8, 2) := by decide +kernel
theorem dX7_digest_138 : decode cX7_digest 138 = .ok (.if_icmp .gt 22, 3) := by decide +kernel
theorem dX7_digest_141 : decode cX7_digest 141 = .ok (.ldc2_w 235, 3) := by decide +kernel
theorem dX7_digest_144 : decode cX7_digest 144 = .ok (.lload_n 1, 1) := by decide +kernel
theorem dX7_digest_145 : decode cX7_digest 145 = .ok (.lmul, 1) := by decide +kernel
theorem dX7_digest_146 : decode cX7_digest 146 = .ok (.aload_n 0, 1) := by decide +kernel
theorem dX7_digest_147 : decode cX7_digest 147 = .ok (.iload_n 3, 1) := by decide +kernel
theorem dX7_digest_148 : decode cX7_digest 148 = .ok (.invokevirtual 246, 3) := by decide +kernel
theorem dX7_digest_151 : decode cX7_digest 151 = .ok (.i2l, 1) := by decide +kernel
theorem dX7_digest_152 : decode cX7_digest 152 = .ok (.ladd, 1) := by decide +kernel
theorem dX7_digest_153 : decode cX7_digest 153 = .ok (.lstore_n 1, 1) := by decide +kernel
theorem dX7_digest_154 : decode cX7_digest 154 = .ok (.iinc 3 1, 3) := by decide +kernel
theorem dX7_digest_157 : decode cX7_digest 157 = .ok (.goto (-22), 3) := by decide +kernel
theorem dX7_digest_160 : decode cX7_digest 160 = .ok (.lload_n 1, 1) := by decide +kernel
theorem dX7_digest_161 : decode cX7_digest 161 = .ok (.lreturn, 1) := by decide +kernel
set_option maxRecDepth 20000 in
theorem ggX7_withHook_X7_hook : GoodIn wsX7_withHook wsX7_hook := goodIn_r _ [6, 7, 8, 9, 10, 11, 12, 13, 14, 15, 16, 5, 17, 18, 19, 20, 21, 22, 23, 24, 25, 26, 27, 28, 29, 30, 31, 32, 33, 34, 35, 36, 37, 38, 39, 40, 41, 84, 85, 86, 87, 88, 89, 90, 91, 92, 93, 94, 95, 96, 97, 98, 99, 100, 101, 102, 103, 104, 105, 106, 107, 108] (by decide +kernel) (by decide +kernel)
set_option maxRecDepth 20000 in
theorem gX7_withHook_X7_hook : GoodIn wsX7_withHook (wsV RX7 249 RX7 yX7_hook wsX7_hook) := goodIn_app (goodIn_of _ (by decide +kernel)) ggX7_withHook_X7_hook
set_option maxRecDepth 20000 in
theorem ggX7_withHook_X7_odds : GoodIn wsX7_withHook wsX7_odds := goodIn_r _ [45, 10, 11, 46, 47, 48, 5, 49, 50, 14, 15, 16, 17, 18, 19, 20, 21, 22, 23, 51, 52, 53, 54, 55, 56, 57, 58, 59, 60, 61, 62, 63, 7, 8, 13, 12, 64, 65, 66, 67, 68, 69, 70, 71, 72, 73, 74, 75, 76, 77, 78, 79, 80, 81, 82, 83, 84, 85, 86, 87, 88, 89, 90, 91, 92, 101, 102, 103, 104, 93, 94, 95, 96, 97, 98, 99, 100, 105, 106, 107, 108] (by decide +kernel) (by decide +kernel)
set_option maxRecDepth 20000 in
theorem gX7_withHook_X7_odds : GoodIn wsX7_withHook (wsV RX7 252 RX7 yX7_odds wsX7_odds) := goodIn_app (goodIn_of _ (by decide +kernel)) ggX7_withHook_X7_odds
theorem dX7_withHook_0 : decode cX7_withHook 0 = .ok (.lload_n 1, 1) := by decide +kernel
theorem dX7_withHook_1 : decode cX7_withHook 1 = .ok (.lstore 4, 2) := by decide +kernel
theorem dX7_withHook_3 : decode cX7_withHook 3 = .ok (.iconst 0, 1) := by decide +kernel
theorem dX7_withHook_4 : decode cX7_withHook 4 = .ok (.istore 6, 2) := by decide +kernel
theorem dX7_withHook_6 : decode cX7_withHook 6 = .ok (.iload 6, 2) := by decide +kernel
theorem dX7_withHook_8 : decode cX7_withHook 8 = .ok (.bipush 6, 2) := by decide +kernel
theorem dX7_withHook_10 : decode cX7_withHook 10 = .ok (.if_icmp .gt 26, 3) := by decide +kernel
theorem dX7_withHook_13 : decode cX7_withHook 13 = .ok (.ldc2_w 235, 3) := by decide +kernel
theorem dX7_withHook_16 : decode cX7_withHook 16 = .ok (.lload 4, 2) := by decide +kernel
theorem dX7_withHook_18 : decode cX7_withHook 18 = .ok (.lmul, 1) := by decide +kernel
theorem dX7_withHook_19 : decode cX7_withHook 19 = .ok (.aload_n 0, 1) := by decide +kernel
theorem dX7_withHook_20 : decode cX7_withHook 20 = .ok (.iload_n 3, 1) := by decide +kernel
theorem dX7_withHook_21 : decode cX7_withHook 21 = .ok (.iload 6, 2) := by decide +kernel
theorem dX7_withHook_23 : decode cX7_withHook 23 = .ok (.invokevirtual 249, 3) := by decide +kernel
theorem dX7_withHook_26 : decode cX7_withHook 26 = .ok (.i2l, 1) := by decide +kernel
theorem dX7_withHook_27 : decode cX7_withHook 27 = .ok (.ladd, 1) := by decide +kernel
theorem dX7_withHook_28 : decode cX7_withHook 28 = .ok (.lstore 4, 2) := by decide +kernel
theorem dX7_withHook_30 : decode cX7_withHook 30 = .ok (.iinc 6 1, 3) := by decide +kernel
theorem dX7_withHook_33 : decode cX7_withHook 33 = .ok (.goto (-27), 3) := by decide +kernel
theorem dX7_withHook_36 : decode cX7_withHook 36 = .ok (.iconst 0, 1) := by decide +kernel
theorem dX7_withHook_37 : decode cX7_withHook 37 = .ok (.istore 6, 2) := by decide +kernel
theorem dX7_withHook_39 : decode cX7_withHook 39 = .ok (.iload 6, 2) := by decide +kernel
theorem dX7_withHook_41 : decode cX7_withHook 41 = .ok (.iconst 5, 1) := by decide +kernel
theorem dX7_withHook_42 : decode cX7_withHook 42 = .ok (.if_icmp .gt 27, 3) := by decide +kernel
theorem dX7_withHook_45 : decode cX7_withHook 45 = .ok (.ldc2_w 235, 3) := by decide +kernel
theorem dX7_withHook_48 : decode cX7_withHook 48 = .ok (.lload 4, 2) := by decide +kernel
theorem dX7_withHook_50 : decode cX7_withHook 50 = .ok (.lmul, 1) := by decide +kernel
theorem dX7_withHook_51 : decode cX7_withHook 51 = .ok (.aload_n 0, 1) := by decide +kernel
theorem dX7_withHook_52 : decode cX7_withHook 52 = .ok (.iconst 0, 1) := by decide +kernel
theorem dX7_withHook_53 : decode cX7_withHook 53 = .ok (.iload_n 3, 1) := by decide +kernel
theorem dX7_withHook_54 : decode cX7_withHook 54 = .ok (.iload 6, 2) := by decide +kernel
theorem dX7_withHook_56 : decode cX7_withHook 56 = .ok (.invokevirtual 252, 3) := by decide +kernel
theorem dX7_withHook_59 : decode cX7_withHook 59 = .ok (.i2l, 1) := by decide +kernel
theorem dX7_withHook_60 : decode cX7_withHook 60 = .ok (.ladd, 1) := by decide +kernel
theorem dX7_withHook_61 : decode cX7_withHook 61 = .ok (.lstore 4, 2) := by decide +kernel
theorem dX7_withHook_63 : decode cX7_withHook 63 = .ok (.iinc 6 1, 3) := by decide +kernel
theorem dX7_withHook_66 : decode cX7_withHook 66 = .ok (.goto (-27), 3) := by decide +kernel
theorem dX7_withHook_69 : decode cX7_withHook 69 = .ok (.ldc2_w 235, 3) := by decide +kernel
theorem dX7_withHook_72 : decode cX7_withHook 72 = .ok (.lload 4, 2) := by decide +kernel
theorem dX7_withHook_74 : decode cX7_withHook 74 = .ok (.lmul, 1) := by decide +kernel
theorem dX7_withHook_75 : decode cX7_withHook 75 = .ok (.aload_n 0, 1) := by decide +kernel
theorem dX7_withHook_76 : decode cX7_withHook 76 = .ok (.iconst 3, 1) := by decide +kernel
theorem dX7_withHook_77 : decode cX7_withHook 77 = .ok (.iload_n 3, 1) := by decide +kernel
theorem dX7_withHook_78 : decode cX7_withHook 78 = .ok (.iconst 3, 1) := by decide +kernel
theorem dX7_withHook_79 : decode cX7_withHook 79 = .ok (.invokevirtual 252, 3) := by decide +kernel
theorem dX7_withHook_82 : decode cX7_withHook 82 = .ok (.i2l, 1) := by decide +kernel
theorem dX7_withHook_83 : decode cX7_withHook 83 = .ok (.ladd, 1) := by decide +kernel
theorem dX7_withHook_84 : decode cX7_withHook 84 = .ok (.lreturn, 1) := by decide +kernel
set_option maxRecDepth 20000 in
theorem ggX7_withHanging_X7_hanging : GoodIn wsX7_withHanging wsX7_hanging := goodIn_r _ [8, 2, 3, 9, 10, 11, 12, 13, 14, 15, 16, 17, 18, 19, 20, 21, 22, 23, 24, 25, 26, 27, 7, 28, 29, 30, 31, 32, 33, 34, 86, 87, 88, 89, 90, 91, 92, 93, 94, 95, 96, 97, 98, 99, 100, 101, 102, 103, 104, 105, 106, 107, 108, 109, 110] (by decide +kernel) (by decide +kernel)
set_option maxRecDepth 20000 in
theorem gX7_withHanging_X7_hanging : GoodIn wsX7_withHanging (wsV RX7 255 RX7 yX7_hanging wsX7_hanging) := goodIn_app (goodIn_of _ (by decide +kernel)) ggX7_withHanging_X7_hanging
set_option maxRecDepth 20000 in
theorem ggX7_withHanging_X7_hung : GoodIn wsX7_withHanging wsX7_hung := goodIn_r _ [38, 2, 3, 39, 11, 40, 41, 42, 43, 44, 45, 46, 47, 48, 49, 50, 51, 52, 53, 54, 55, 56, 57, 58, 59, 60, 61, 62, 63, 64, 65, 66, 67, 68, 69, 70, 71, 72, 73, 74, 75, 76, 77, 78, 79, 80, 86, 87, 88, 89, 90, 91, 92, 93, 94, 95, 96, 97, 98, 111, 112, 113, 114, 115, 103, 104, 105, 106, 107, 108, 109, 110] (by decide +kernel) (by decide +kernel)
set_option maxRecDepth 20000 in
theorem gX7_withHanging_X7_hung : GoodIn wsX7_withHanging (wsV RX7 258 RX7 yX7_hung wsX7_hung) := goodIn_app (goodIn_of _ (by decide +kernel)) ggX7_withHanging_X7_hung
set_option maxRecDepth 20000 in
theorem ggX7_withHanging_X7_where : GoodIn wsX7_withHanging wsX7_where := goodIn_r _ [84, 39, 11, 2, 3, 85, 25, 26, 27, 7, 28, 29, 30, 31, 32, 33, 34, 41, 42, 43, 44, 45, 46, 47, 48, 49, 50, 51, 52, 53, 54, 55, 56, 57, 58, 59, 60, 61, 62, 63, 64, 65, 66, 67, 68, 69, 70, 71, 72, 73, 74, 75, 76, 77, 78, 79, 80, 86, 87, 88, 89, 90, 91, 92, 93, 94, 95, 96, 97, 98, 111, 112, 113, 114, 115, 103, 104, 105, 106, 107, 108, 109, 110] (by decide +kernel) (by decide +kernel)
set_option maxRecDepth 20000 in
theorem gX7_withHanging_X7_where : GoodIn wsX7_withHanging (wsV RX7 261 RX7 yX7_where wsX7_where) := goodIn_app (goodIn_of _ (by decide +kernel)) ggX7_withHanging_X7_where
theorem dX7_withHanging_0 : decode cX7_withHanging 0 = .ok (.ldc2_w 235, 3) := by decide +kernel
theorem dX7_withHanging_3 : decode cX7_withHanging 3 = .ok (.lload_n 1, 1) := by decide +kernel
theorem dX7_withHanging_4 : decode cX7_withHanging 4 = .ok (.lmul, 1) := by decide +kernel
theorem dX7_withHanging_5 : decode cX7_withHanging 5 = .ok (.aload_n 0, 1) := by decide +kernel
theorem dX7_withHanging_6 : decode cX7_withHanging 6 = .ok (.iconst 0, 1) := by decide +kernel
theorem dX7_withHanging_7 : decode cX7_withHanging 7 = .ok (.invokevirtual 255, 3) := by decide +kernel
theorem dX7_withHanging_10 : decode cX7_withHanging 10 = .ok (.i2l, 1) := by decide +kernel
theorem dX7_withHanging_11 : decode cX7_withHanging 11 = .ok (.ladd, 1) := by decide +kernel
theorem dX7_withHanging_12 : decode cX7_withHanging 12 = .ok (.lstore_n 3, 1) := by decide +kernel
theorem dX7_withHanging_13 : decode cX7_withHanging 13 = .ok (.ldc2_w 235, 3) := by decide +kernel
theorem dX7_withHanging_16 : decode cX7_withHanging 16 = .ok (.lload_n 3, 1) := by decide +kernel
theorem dX7_withHanging_17 : decode cX7_withHanging 17 = .ok (.lmul, 1) := by decide +kernel
theorem dX7_withHanging_18 : decode cX7_withHanging 18 = .ok (.aload_n 0, 1) := by decide +kernel
theorem dX7_withHanging_19 : decode cX7_withHanging 19 = .ok (.iconst 1, 1) := by decide +kernel
theorem dX7_withHanging_20 : decode cX7_withHanging 20 = .ok (.invokevirtual 255, 3) := by decide +kernel
theorem dX7_withHanging_23 : decode cX7_withHanging 23 = .ok (.i2l, 1) := by decide +kernel
theorem dX7_withHanging_24 : decode cX7_withHanging 24 = .ok (.ladd, 1) := by decide +kernel
theorem dX7_withHanging_25 : decode cX7_withHanging 25 = .ok (.lstore_n 3, 1) := by decide +kernel
theorem dX7_withHanging_26 : decode cX7_withHanging 26 = .ok (.bipush 10, 2) := by decide +kernel
theorem dX7_withHanging_28 : decode cX7_withHanging 28 = .ok (.istore 5, 2) := by decide +kernel
theorem dX7_withHanging_30 : decode cX7_withHanging 30 = .ok (.iload 5, 2) := by decide +kernel
theorem dX7_withHanging_32 : decode cX7_withHanging 32 = .ok (.bipush 16, 2) := by decide +kernel
theorem dX7_withHanging_34 : decode cX7_withHanging 34 = .ok (.if_icmp .ge 23, 3) := by decide +kernel
theorem dX7_withHanging_37 : decode cX7_withHanging 37 = .ok (.ldc2_w 235, 3) := by decide +kernel
theorem dX7_withHanging_40 : decode cX7_withHanging 40 = .ok (.lload_n 3, 1) := by decide +kernel
theorem dX7_withHanging_41 : decode cX7_withHanging 41 = .ok (.lmul, 1) := by decide +kernel
theorem dX7_withHanging_42 : decode cX7_withHanging 42 = .ok (.aload_n 0, 1) := by decide +kernel
theorem dX7_withHanging_43 : decode cX7_withHanging 43 = .ok (.iload 5, 2) := by decide +kernel
theorem dX7_withHanging_45 : decode cX7_withHanging 45 = .ok (.invokevirtual 255, 3) := by decide +kernel
theorem dX7_withHanging_48 : decode cX7_withHanging 48 = .ok (.i2l, 1) := by decide +kernel
theorem dX7_withHanging_49 : decode cX7_withHanging 49 = .ok (.ladd, 1) := by decide +kernel
theorem dX7_withHanging_50 : decode cX7_withHanging 50 = .ok (.lstore_n 3, 1) := by decide +kernel
theorem dX7_withHanging_51 : decode cX7_withHanging 51 = .ok (.iinc 5 1, 3) := by decide +kernel
theorem dX7_withHanging_54 : decode cX7_withHanging 54 = .ok (.goto (-24), 3) := by decide +kernel
theorem dX7_withHanging_57 : decode cX7_withHanging 57 = .ok (.ldc2_w 235, 3) := by decide +kernel
theorem dX7_withHanging_60 : decode cX7_withHanging 60 = .ok (.lload_n 3, 1) := by decide +kernel
theorem dX7_withHanging_61 : decode cX7_withHanging 61 = .ok (.lmul, 1) := by decide +kernel
theorem dX7_withHanging_62 : decode cX7_withHanging 62 = .ok (.aload_n 0, 1) := by decide +kernel
theorem dX7_withHanging_63 : decode cX7_withHanging 63 = .ok (.invokevirtual 258, 3) := by decide +kernel
theorem dX7_withHanging_66 : decode cX7_withHanging 66 = .ok (.i2l, 1) := by decide +kernel
theorem dX7_withHanging_67 : decode cX7_withHanging 67 = .ok (.ladd, 1) := by decide +kernel
theorem dX7_withHanging_68 : decode cX7_withHanging 68 = .ok (.lstore_n 3, 1) := by decide +kernel
theorem dX7_withHanging_69 : decode cX7_withHanging 69 = .ok (.iconst 0, 1) := by decide +kernel
theorem dX7_withHanging_70 : decode cX7_withHanging 70 = .ok (.istore 5, 2) := by decide +kernel
theorem dX7_withHanging_72 : decode cX7_withHanging 72 = .ok (.iload 5, 2) := by decide +kernel
theorem dX7_withHanging_74 : decode cX7_withHanging 74 = .ok (.aload_n 0, 1) := by decide +kernel
theorem dX7_withHanging_75 : decode cX7_withHanging 75 = .ok (.getfield 19, 3) := by decide +kernel
theorem dX7_withHanging_78 : decode cX7_withHanging 78 = .ok (.getfield 91, 3) := by decide +kernel
theorem dX7_withHanging_81 : decode cX7_withHanging 81 = .ok (.if_icmp .ge 23, 3) := by decide +kernel
theorem dX7_withHanging_84 : decode cX7_withHanging 84 = .ok (.ldc2_w 235, 3) := by decide +kernel
theorem dX7_withHanging_87 : decode cX7_withHanging 87 = .ok (.lload_n 3, 1) := by decide +kernel
theorem dX7_withHanging_88 : decode cX7_withHanging 88 = .ok (.lmul, 1) := by decide +kernel
theorem dX7_withHanging_89 : decode cX7_withHanging 89 = .ok (.aload_n 0, 1) := by decide +kernel
theorem dX7_withHanging_90 : decode cX7_withHanging 90 = .ok (.iload 5, 2) := by decide +kernel
theorem dX7_withHanging_92 : decode cX7_withHanging 92 = .ok (.invokevirtual 261, 3) := by decide +kernel
theorem dX7_withHanging_95 : decode cX7_withHanging 95 = .ok (.i2l, 1) := by decide +kernel
theorem dX7_withHanging_96 : decode cX7_withHanging 96 = .ok (.ladd, 1) := by decide +kernel
theorem dX7_withHanging_97 : decode cX7_withHanging 97 = .ok (.lstore_n 3, 1) := by decide +kernel
theorem dX7_withHanging_98 : decode cX7_withHanging 98 = .ok (.iinc 5 1, 3) := by decide +kernel
theorem dX7_withHanging_101 : decode cX7_withHanging 101 = .ok (.goto (-29), 3) := by decide +kernel
theorem dX7_withHanging_104 : decode cX7_withHanging 104 = .ok (.lload_n 3, 1) := by decide +kernel
theorem dX7_withHanging_105 : decode cX7_withHanging 105 = .ok (.lreturn, 1) := by decide +kernel
set_option maxRecDepth 20000 in
theorem ggX7_isKnown_X2_has : GoodIn wsX7_isKnown wsX2_has := goodIn_r _ [6, 7, 17, 18, 19, 20] (by decide +kernel) (by decide +kernel)
set_option maxRecDepth 20000 in
theorem gX7_isKnown_X2_has : GoodIn wsX7_isKnown (wsV RX7 264 RX2 yX2_has wsX2_has) := goodIn_app (goodIn_of _ (by decide +kernel)) ggX7_isKnown_X2_has
theorem dX7_isKnown_0 : decode cX7_isKnown 0 = .ok (.aload_n 0, 1) := by decide +kernel
theorem dX7_isKnown_1 : decode cX7_isKnown 1 = .ok (.getfield 19, 3) := by decide +kernel
theorem dX7_isKnown_4 : decode cX7_isKnown 4 = .ok (.iload_n 1, 1) := by decide +kernel
theorem dX7_isKnown_5 : decode cX7_isKnown 5 = .ok (.invokevirtual 264, 3) := by decide +kernel
theorem dX7_isKnown_8 : decode cX7_isKnown 8 = .ok (.ireturn, 1) := by decide +kernel
set_option maxRecDepth 20000 in
theorem ggX7_isFull_X7_isKnown : GoodIn wsX7_isFull wsX7_isKnown := goodIn_r _ [10, 4, 11, 12, 13, 14, 15, 16, 17, 18, 19, 20, 21, 22, 23, 24, 25, 38, 39, 40, 41] (by decide +kernel) (by decide +kernel)
set_option maxRecDepth 20000 in
theorem gX7_isFull_X7_isKnown : GoodIn wsX7_isFull (wsV RX7 94 RX7 yX7_isKnown wsX7_isKnown) := goodIn_app (goodIn_of _ (by decide +kernel)) ggX7_isFull_X7_isKnown
theorem dX7_isFull_0 : decode cX7_isFull 0 = .ok (.aload_n 0, 1) := by decide +kernel
theorem dX7_isFull_1 : decode cX7_isFull 1 = .ok (.iload_n 1, 1) := by decide +kernel
theorem dX7_isFull_2 : decode cX7_isFull 2 = .ok (.invokevirtual 94, 3) := by decide +kernel
theorem dX7_isFull_5 : decode cX7_isFull 5 = .ok (.ifCond .eq 31, 3) := by decide +kernel
theorem dX7_isFull_8 : decode cX7_isFull 8 = .ok (.aload_n 0, 1) := by decide +kernel
theorem dX7_isFull_9 : decode cX7_isFull 9 = .ok (.getfield 26, 3) := by decide +kernel
theorem dX7_isFull_12 : decode cX7_isFull 12 = .ok (.getfield 98, 3) := by decide +kernel
theorem dX7_isFull_15 : decode cX7_isFull 15 = .ok (.iload_n 1, 1) := by decide +kernel
theorem dX7_isFull_16 : decode cX7_isFull 16 = .ok (.aaload, 1) := by decide +kernel
theorem dX7_isFull_17 : decode cX7_isFull 17 = .ok (.getfield 112, 3) := by decide +kernel
theorem dX7_isFull_20 : decode cX7_isFull 20 = .ok (.aload_n 0, 1) := by decide +kernel
theorem dX7_isFull_21 : decode cX7_isFull 21 = .ok (.getfield 19, 3) := by decide +kernel
theorem dX7_isFull_24 : decode cX7_isFull 24 = .ok (.getfield 109, 3) := by decide +kernel
theorem dX7_isFull_27 : decode cX7_isFull 27 = .ok (.iload_n 1, 1) := by decide +kernel
theorem dX7_isFull_28 : decode cX7_isFull 28 = .ok (.iaload, 1) := by decide +kernel
theorem dX7_isFull_29 : decode cX7_isFull 29 = .ok (.if_icmp .lt 7, 3) := by decide +kernel
theorem dX7_isFull_32 : decode cX7_isFull 32 = .ok (.iconst 1, 1) := by decide +kernel
theorem dX7_isFull_33 : decode cX7_isFull 33 = .ok (.goto 4, 3) := by decide +kernel
theorem dX7_isFull_36 : decode cX7_isFull 36 = .ok (.iconst 0, 1) := by decide +kernel
theorem dX7_isFull_37 : decode cX7_isFull 37 = .ok (.ireturn, 1) := by decide +kernel
set_option maxRecDepth 20000 in
theorem ggX7_tenthsAt_X7_isKnown : GoodIn wsX7_tenthsAt wsX7_isKnown := goodIn_r _ [8, 1, 9, 10, 11, 12, 13, 14, 40, 41, 42, 43, 44, 45, 46, 47, 48, 49, 50, 51, 52] (by decide +kernel) (by decide +kernel)
set_option maxRecDepth 20000 in
theorem gX7_tenthsAt_X7_isKnown : GoodIn wsX7_tenthsAt (wsV RX7 94 RX7 yX7_isKnown wsX7_isKnown) := goodIn_app (goodIn_of _ (by decide +kernel)) ggX7_tenthsAt_X7_isKnown
set_option maxRecDepth 20000 in
theorem ggX7_tenthsAt_X7_nextTo : GoodIn wsX7_tenthsAt wsX7_nextTo := goodIn_r _ [17] (by decide +kernel) (by decide +kernel)
set_option maxRecDepth 20000 in
theorem gX7_tenthsAt_X7_nextTo : GoodIn wsX7_tenthsAt (va_wsS RX7 155 yX7_nextTo wsX7_nextTo) := goodIn_app (goodIn_of _ (by decide +kernel)) ggX7_tenthsAt_X7_nextTo
set_option maxRecDepth 20000 in
theorem ggX7_tenthsAt_X7_isFull : GoodIn wsX7_tenthsAt wsX7_isFull := goodIn_r _ [21, 22, 23, 24, 1, 25, 4, 5, 6, 7, 8, 9, 10, 11, 12, 13, 14, 40, 41, 42, 43, 44, 45, 46, 47, 48, 53, 54, 55, 56, 57, 58, 59, 60, 61, 62, 63, 64, 49, 50, 51, 52] (by decide +kernel) (by decide +kernel)
set_option maxRecDepth 20000 in
theorem gX7_tenthsAt_X7_isFull : GoodIn wsX7_tenthsAt (wsV RX7 148 RX7 yX7_isFull wsX7_isFull) := goodIn_app (goodIn_of _ (by decide +kernel)) ggX7_tenthsAt_X7_isFull
set_option maxRecDepth 20000 in
theorem ggX7_tenthsAt_X7_tenthsOf : GoodIn wsX7_tenthsAt wsX7_tenthsOf := goodIn_r _ [28, 29, 30, 31, 32, 33, 34, 35, 36, 37, 7, 38, 39] (by decide +kernel) (by decide +kernel)
set_option maxRecDepth 20000 in
theorem gX7_tenthsAt_X7_tenthsOf : GoodIn wsX7_tenthsAt (va_wsS RX7 267 yX7_tenthsOf wsX7_tenthsOf) := goodIn_app (goodIn_of _ (by decide +kernel)) ggX7_tenthsAt_X7_tenthsOf
theorem dX7_tenthsAt_0 : decode cX7_tenthsAt 0 = .ok (.aload_n 0, 1) := by decide +kernel
theorem dX7_tenthsAt_1 : decode cX7_tenthsAt 1 = .ok (.iload_n 2, 1) := by decide +kernel
theorem dX7_tenthsAt_2 : decode cX7_tenthsAt 2 = .ok (.invokevirtual 94, 3) := by decide +kernel
theorem dX7_tenthsAt_5 : decode cX7_tenthsAt 5 = .ok (.ifCond .ne 5, 3) := by decide +kernel
theorem dX7_tenthsAt_8 : decode cX7_tenthsAt 8 = .ok (.iconst 0, 1) := by decide +kernel
theorem dX7_tenthsAt_9 : decode cX7_tenthsAt 9 = .ok (.ireturn, 1) := by decide +kernel
theorem dX7_tenthsAt_10 : decode cX7_tenthsAt 10 = .ok (.iload_n 1, 1) := by decide +kernel
theorem dX7_tenthsAt_11 : decode cX7_tenthsAt 11 = .ok (.aload_n 0, 1) := by decide +kernel
theorem dX7_tenthsAt_12 : decode cX7_tenthsAt 12 = .ok (.getfield 19, 3) := by decide +kernel
theorem dX7_tenthsAt_15 : decode cX7_tenthsAt 15 = .ok (.getfield 106, 3) := by decide +kernel
theorem dX7_tenthsAt_18 : decode cX7_tenthsAt 18 = .ok (.iload_n 2, 1) := by decide +kernel
theorem dX7_tenthsAt_19 : decode cX7_tenthsAt 19 = .ok (.iaload, 1) := by decide +kernel
theorem dX7_tenthsAt_20 : decode cX7_tenthsAt 20 = .ok (.aload_n 0, 1) := by decide +kernel
theorem dX7_tenthsAt_21 : decode cX7_tenthsAt 21 = .ok (.iload_n 2, 1) := by decide +kernel
theorem dX7_tenthsAt_22 : decode cX7_tenthsAt 22 = .ok (.aload_n 0, 1) := by decide +kernel
theorem dX7_tenthsAt_23 : decode cX7_tenthsAt 23 = .ok (.getfield 19, 3) := by decide +kernel
theorem dX7_tenthsAt_26 : decode cX7_tenthsAt 26 = .ok (.getfield 91, 3) := by decide +kernel
theorem dX7_tenthsAt_29 : decode cX7_tenthsAt 29 = .ok (.invokestatic 155, 3) := by decide +kernel
theorem dX7_tenthsAt_32 : decode cX7_tenthsAt 32 = .ok (.invokevirtual 148, 3) := by decide +kernel
theorem dX7_tenthsAt_35 : decode cX7_tenthsAt 35 = .ok (.iload_n 3, 1) := by decide +kernel
theorem dX7_tenthsAt_36 : decode cX7_tenthsAt 36 = .ok (.invokestatic 267, 3) := by decide +kernel
theorem dX7_tenthsAt_39 : decode cX7_tenthsAt 39 = .ok (.ireturn, 1) := by decide +kernel
theorem dX7_isKind_0 : decode cX7_isKind 0 = .ok (.iload_n 0, 1) := by decide +kernel
theorem dX7_isKind_1 : decode cX7_isKind 1 = .ok (.ifCond .lt 15, 3) := by decide +kernel
theorem dX7_isKind_4 : decode cX7_isKind 4 = .ok (.iload_n 0, 1) := by decide +kernel
theorem dX7_isKind_5 : decode cX7_isKind 5 = .ok (.getstatic 271, 3) := by decide +kernel
theorem dX7_isKind_8 : decode cX7_isKind 8 = .ok (.arraylength, 1) := by decide +kernel
theorem dX7_isKind_9 : decode cX7_isKind 9 = .ok (.if_icmp .ge 7, 3) := by decide +kernel
theorem dX7_isKind_12 : decode cX7_isKind 12 = .ok (.iconst 1, 1) := by decide +kernel
theorem dX7_isKind_13 : decode cX7_isKind 13 = .ok (.goto 4, 3) := by decide +kernel
theorem dX7_isKind_16 : decode cX7_isKind 16 = .ok (.iconst 0, 1) := by decide +kernel
theorem dX7_isKind_17 : decode cX7_isKind 17 = .ok (.ireturn, 1) := by decide +kernel
theorem dX7_isA_0 : decode cX7_isA 0 = .ok (.iload_n 0, 1) := by decide +kernel
theorem dX7_isA_1 : decode cX7_isA 1 = .ok (.iload_n 1, 1) := by decide +kernel
theorem dX7_isA_2 : decode cX7_isA 2 = .ok (.if_icmp .eq 17, 3) := by decide +kernel
theorem dX7_isA_5 : decode cX7_isA 5 = .ok (.iload_n 1, 1) := by decide +kernel
theorem dX7_isA_6 : decode cX7_isA 6 = .ok (.ifCond .eq 13, 3) := by decide +kernel
theorem dX7_isA_9 : decode cX7_isA 9 = .ok (.iload_n 0, 1) := by decide +kernel
theorem dX7_isA_10 : decode cX7_isA 10 = .ok (.iconst 4, 1) := by decide +kernel
theorem dX7_isA_11 : decode cX7_isA 11 = .ok (.if_icmp .ne 12, 3) := by decide +kernel
theorem dX7_isA_14 : decode cX7_isA 14 = .ok (.iload_n 1, 1) := by decide +kernel
theorem dX7_isA_15 : decode cX7_isA 15 = .ok (.iconst 2, 1) := by decide +kernel
theorem dX7_isA_16 : decode cX7_isA 16 = .ok (.if_icmp .ne 7, 3) := by decide +kernel
theorem dX7_isA_19 : decode cX7_isA 19 = .ok (.iconst 1, 1) := by decide +kernel
theorem dX7_isA_20 : decode cX7_isA 20 = .ok (.goto 4, 3) := by decide +kernel
theorem dX7_isA_23 : decode cX7_isA 23 = .ok (.iconst 0, 1) := by decide +kernel
theorem dX7_isA_24 : decode cX7_isA 24 = .ok (.ireturn, 1) := by decide +kernel
theorem dX7_gripOf_0 : decode cX7_gripOf 0 = .ok (.iload_n 0, 1) := by decide +kernel
theorem dX7_gripOf_1 : decode cX7_gripOf 1 = .ok (.ifCond .lt 19, 3) := by decide +kernel
theorem dX7_gripOf_4 : decode cX7_gripOf 4 = .ok (.iload_n 0, 1) := by decide +kernel
theorem dX7_gripOf_5 : decode cX7_gripOf 5 = .ok (.getstatic 271, 3) := by decide +kernel
theorem dX7_gripOf_8 : decode cX7_gripOf 8 = .ok (.arraylength, 1) := by decide +kernel
theorem dX7_gripOf_9 : decode cX7_gripOf 9 = .ok (.if_icmp .ge 11, 3) := by decide +kernel
theorem dX7_gripOf_12 : decode cX7_gripOf 12 = .ok (.getstatic 271, 3) := by decide +kernel
theorem dX7_gripOf_15 : decode cX7_gripOf 15 = .ok (.iload_n 0, 1) := by decide +kernel
theorem dX7_gripOf_16 : decode cX7_gripOf 16 = .ok (.iaload, 1) := by decide +kernel
theorem dX7_gripOf_17 : decode cX7_gripOf 17 = .ok (.goto 4, 3) := by decide +kernel
theorem dX7_gripOf_20 : decode cX7_gripOf 20 = .ok (.iconst 0, 1) := by decide +kernel
theorem dX7_gripOf_21 : decode cX7_gripOf 21 = .ok (.ireturn, 1) := by decide +kernel
theorem dX7_nextTo_0 : decode cX7_nextTo 0 = .ok (.iload_n 0, 1) := by decide +kernel
theorem dX7_nextTo_1 : decode cX7_nextTo 1 = .ok (.iconst 1, 1) := by decide +kernel
theorem dX7_nextTo_2 : decode cX7_nextTo 2 = .ok (.iadd, 1) := by decide +kernel
theorem dX7_nextTo_3 : decode cX7_nextTo 3 = .ok (.iload_n 1, 1) := by decide +kernel
theorem dX7_nextTo_4 : decode cX7_nextTo 4 = .ok (.if_icmp .ge 9, 3) := by decide +kernel
theorem dX7_nextTo_7 : decode cX7_nextTo 7 = .ok (.iload_n 0, 1) := by decide +kernel
theorem dX7_nextTo_8 : decode cX7_nextTo 8 = .ok (.iconst 1, 1) := by decide +kernel
theorem dX7_nextTo_9 : decode cX7_nextTo 9 = .ok (.iadd, 1) := by decide +kernel
theorem dX7_nextTo_10 : decode cX7_nextTo 10 = .ok (.goto 6, 3) := by decide +kernel
theorem dX7_nextTo_13 : decode cX7_nextTo 13 = .ok (.iload_n 0, 1) := by decide +kernel
theorem dX7_nextTo_14 : decode cX7_nextTo 14 = .ok (.iconst 1, 1) := by decide +kernel
theorem dX7_nextTo_15 : decode cX7_nextTo 15 = .ok (.isub, 1) := by decide +kernel
theorem dX7_nextTo_16 : decode cX7_nextTo 16 = .ok (.ireturn, 1) := by decide +kernel
theorem dX7_carrySeconds_0 : decode cX7_carrySeconds 0 = .ok (.iconst 2, 1) := by decide +kernel
theorem dX7_carrySeconds_1 : decode cX7_carrySeconds 1 = .ok (.iload_n 0, 1) := by decide +kernel
theorem dX7_carrySeconds_2 : decode cX7_carrySeconds 2 = .ok (.imul, 1) := by decide +kernel
theorem dX7_carrySeconds_3 : decode cX7_carrySeconds 3 = .ok (.iconst 3, 1) := by decide +kernel
theorem dX7_carrySeconds_4 : decode cX7_carrySeconds 4 = .ok (.iadd, 1) := by decide +kernel
theorem dX7_carrySeconds_5 : decode cX7_carrySeconds 5 = .ok (.ireturn, 1) := by decide +kernel
set_option maxRecDepth 20000 in
theorem ggX7_carryTenths_X7_carrySeconds : GoodIn wsX7_carryTenths wsX7_carrySeconds := goodIn_r _ [4] (by decide +kernel) (by decide +kernel)
set_option maxRecDepth 20000 in
theorem gX7_carryTenths_X7_carrySeconds : GoodIn wsX7_carryTenths (va_wsS RX7 162 yX7_carrySeconds wsX7_carrySeconds) := goodIn_app (goodIn_of _ (by decide +kernel)) ggX7_carryTenths_X7_carrySeconds
theorem dX7_carryTenths_0 : decode cX7_carryTenths 0 = .ok (.bipush 10, 2) := by decide +kernel
theorem dX7_carryTenths_2 : decode cX7_carryTenths 2 = .ok (.iload_n 0, 1) := by decide +kernel
theorem dX7_carryTenths_3 : decode cX7_carryTenths 3 = .ok (.invokestatic 162, 3) := by decide +kernel
theorem dX7_carryTenths_6 : decode cX7_carryTenths 6 = .ok (.imul, 1) := by decide +kernel
theorem dX7_carryTenths_7 : decode cX7_carryTenths 7 = .ok (.ireturn, 1) := by decide +kernel
set_option maxRecDepth 20000 in
theorem ggX7_tenthsOf_X7_gripOf : GoodIn wsX7_tenthsOf wsX7_gripOf := goodIn_r _ [11, 12] (by decide +kernel) (by decide +kernel)
set_option maxRecDepth 20000 in
theorem gX7_tenthsOf_X7_gripOf : GoodIn wsX7_tenthsOf (va_wsS RX7 141 yX7_gripOf wsX7_gripOf) := goodIn_app (goodIn_of _ (by decide +kernel)) ggX7_tenthsOf_X7_gripOf
theorem dX7_tenthsOf_0 : decode cX7_tenthsOf 0 = .ok (.iconst 0, 1) := by decide +kernel
theorem dX7_tenthsOf_1 : decode cX7_tenthsOf 1 = .ok (.bipush 10, 2) := by decide +kernel
theorem dX7_tenthsOf_3 : decode cX7_tenthsOf 3 = .ok (.bipush 10, 2) := by decide +kernel
theorem dX7_tenthsOf_5 : decode cX7_tenthsOf 5 = .ok (.iload_n 0, 1) := by decide +kernel
theorem dX7_tenthsOf_6 : decode cX7_tenthsOf 6 = .ok (.invokestatic 141, 3) := by decide +kernel
theorem dX7_tenthsOf_9 : decode cX7_tenthsOf 9 = .ok (.iadd, 1) := by decide +kernel
theorem dX7_tenthsOf_10 : decode cX7_tenthsOf 10 = .ok (.iload_n 1, 1) := by decide +kernel
theorem dX7_tenthsOf_11 : decode cX7_tenthsOf 11 = .ok (.isub, 1) := by decide +kernel
theorem dX7_tenthsOf_12 : decode cX7_tenthsOf 12 = .ok (.invokestatic 274, 3) := by decide +kernel
theorem dX7_tenthsOf_15 : decode cX7_tenthsOf 15 = .ok (.invokestatic 279, 3) := by decide +kernel
theorem dX7_tenthsOf_18 : decode cX7_tenthsOf 18 = .ok (.istore 4, 2) := by decide +kernel
theorem dX7_tenthsOf_20 : decode cX7_tenthsOf 20 = .ok (.iload_n 2, 1) := by decide +kernel
theorem dX7_tenthsOf_21 : decode cX7_tenthsOf 21 = .ok (.ifCond .eq 7, 3) := by decide +kernel
theorem dX7_tenthsOf_24 : decode cX7_tenthsOf 24 = .ok (.iconst 0, 1) := by decide +kernel
theorem dX7_tenthsOf_25 : decode cX7_tenthsOf 25 = .ok (.goto 10, 3) := by decide +kernel
theorem dX7_tenthsOf_28 : decode cX7_tenthsOf 28 = .ok (.bipush 10, 2) := by decide +kernel
theorem dX7_tenthsOf_30 : decode cX7_tenthsOf 30 = .ok (.iload 4, 2) := by decide +kernel
theorem dX7_tenthsOf_32 : decode cX7_tenthsOf 32 = .ok (.isub, 1) := by decide +kernel
theorem dX7_tenthsOf_33 : decode cX7_tenthsOf 33 = .ok (.iconst 3, 1) := by decide +kernel
theorem dX7_tenthsOf_34 : decode cX7_tenthsOf 34 = .ok (.idiv, 1) := by decide +kernel
theorem dX7_tenthsOf_35 : decode cX7_tenthsOf 35 = .ok (.istore 5, 2) := by decide +kernel
theorem dX7_tenthsOf_37 : decode cX7_tenthsOf 37 = .ok (.iload_n 3, 1) := by decide +kernel
theorem dX7_tenthsOf_38 : decode cX7_tenthsOf 38 = .ok (.ifCond .ne 6, 3) := by decide +kernel
theorem dX7_tenthsOf_41 : decode cX7_tenthsOf 41 = .ok (.iload 4, 2) := by decide +kernel
theorem dX7_tenthsOf_43 : decode cX7_tenthsOf 43 = .ok (.ireturn, 1) := by decide +kernel
theorem dX7_tenthsOf_44 : decode cX7_tenthsOf 44 = .ok (.iload_n 3, 1) := by decide +kernel
theorem dX7_tenthsOf_45 : decode cX7_tenthsOf 45 = .ok (.iconst 1, 1) := by decide +kernel
theorem dX7_tenthsOf_46 : decode cX7_tenthsOf 46 = .ok (.if_icmp .ne 8, 3) := by decide +kernel
theorem dX7_tenthsOf_49 : decode cX7_tenthsOf 49 = .ok (.iload 5, 2) := by decide +kernel
theorem dX7_tenthsOf_51 : decode cX7_tenthsOf 51 = .ok (.goto 11, 3) := by decide +kernel
theorem dX7_tenthsOf_54 : decode cX7_tenthsOf 54 = .ok (.bipush 10, 2) := by decide +kernel
theorem dX7_tenthsOf_56 : decode cX7_tenthsOf 56 = .ok (.iload 4, 2) := by decide +kernel
theorem dX7_tenthsOf_58 : decode cX7_tenthsOf 58 = .ok (.isub, 1) := by decide +kernel
theorem dX7_tenthsOf_59 : decode cX7_tenthsOf 59 = .ok (.iload 5, 2) := by decide +kernel
theorem dX7_tenthsOf_61 : decode cX7_tenthsOf 61 = .ok (.isub, 1) := by decide +kernel
theorem dX7_tenthsOf_62 : decode cX7_tenthsOf 62 = .ok (.ireturn, 1) := by decide +kernel
set_option maxRecDepth 20000 in
theorem ggX7_costOf_X7_tenthsOf : GoodIn wsX7_costOf wsX7_tenthsOf := goodIn_r _ [4, 5, 6, 7, 8, 9, 10, 11, 12, 13, 3, 14, 15] (by decide +kernel) (by decide +kernel)
set_option maxRecDepth 20000 in
theorem gX7_costOf_X7_tenthsOf : GoodIn wsX7_costOf (va_wsS RX7 267 yX7_tenthsOf wsX7_tenthsOf) := goodIn_app (goodIn_of _ (by decide +kernel)) ggX7_costOf_X7_tenthsOf
set_option maxRecDepth 20000 in
theorem ggX7_costOf_X7_carryTenths : GoodIn wsX7_costOf wsX7_carryTenths := goodIn_r _ [18, 19, 20, 3, 21] (by decide +kernel) (by decide +kernel)
set_option maxRecDepth 20000 in
theorem gX7_costOf_X7_carryTenths : GoodIn wsX7_costOf (va_wsS RX7 173 yX7_carryTenths wsX7_carryTenths) := goodIn_app (goodIn_of _ (by decide +kernel)) ggX7_costOf_X7_carryTenths
theorem dX7_costOf_0 : decode cX7_costOf 0 = .ok (.iload_n 0, 1) := by decide +kernel
theorem dX7_costOf_1 : decode cX7_costOf 1 = .ok (.iload_n 1, 1) := by decide +kernel
theorem dX7_costOf_2 : decode cX7_costOf 2 = .ok (.iload_n 2, 1) := by decide +kernel
theorem dX7_costOf_3 : decode cX7_costOf 3 = .ok (.iconst 0, 1) := by decide +kernel
theorem dX7_costOf_4 : decode cX7_costOf 4 = .ok (.invokestatic 267, 3) := by decide +kernel
theorem dX7_costOf_7 : decode cX7_costOf 7 = .ok (.istore_n 3, 1) := by decide +kernel
theorem dX7_costOf_8 : decode cX7_costOf 8 = .ok (.iload_n 0, 1) := by decide +kernel
theorem dX7_costOf_9 : decode cX7_costOf 9 = .ok (.iload_n 1, 1) := by decide +kernel
theorem dX7_costOf_10 : decode cX7_costOf 10 = .ok (.iload_n 2, 1) := by decide +kernel
theorem dX7_costOf_11 : decode cX7_costOf 11 = .ok (.iconst 1, 1) := by decide +kernel
theorem dX7_costOf_12 : decode cX7_costOf 12 = .ok (.invokestatic 267, 3) := by decide +kernel
theorem dX7_costOf_15 : decode cX7_costOf 15 = .ok (.istore 4, 2) := by decide +kernel
theorem dX7_costOf_17 : decode cX7_costOf 17 = .ok (.iload_n 0, 1) := by decide +kernel
theorem dX7_costOf_18 : decode cX7_costOf 18 = .ok (.iload_n 1, 1) := by decide +kernel
theorem dX7_costOf_19 : decode cX7_costOf 19 = .ok (.iload_n 2, 1) := by decide +kernel
theorem dX7_costOf_20 : decode cX7_costOf 20 = .ok (.iconst 2, 1) := by decide +kernel
theorem dX7_costOf_21 : decode cX7_costOf 21 = .ok (.invokestatic 267, 3) := by decide +kernel
theorem dX7_costOf_24 : decode cX7_costOf 24 = .ok (.istore 5, 2) := by decide +kernel
theorem dX7_costOf_26 : decode cX7_costOf 26 = .ok (.sipush 600, 3) := by decide +kernel
theorem dX7_costOf_29 : decode cX7_costOf 29 = .ok (.iload 4, 2) := by decide +kernel
theorem dX7_costOf_31 : decode cX7_costOf 31 = .ok (.imul, 1) := by decide +kernel
theorem dX7_costOf_32 : decode cX7_costOf 32 = .ok (.iload_n 1, 1) := by decide +kernel
theorem dX7_costOf_33 : decode cX7_costOf 33 = .ok (.invokestatic 173, 3) := by decide +kernel
theorem dX7_costOf_36 : decode cX7_costOf 36 = .ok (.iload 5, 2) := by decide +kernel
theorem dX7_costOf_38 : decode cX7_costOf 38 = .ok (.imul, 1) := by decide +kernel
theorem dX7_costOf_39 : decode cX7_costOf 39 = .ok (.iadd, 1) := by decide +kernel
theorem dX7_costOf_40 : decode cX7_costOf 40 = .ok (.istore 6, 2) := by decide +kernel
theorem dX7_costOf_42 : decode cX7_costOf 42 = .ok (.iload_n 0, 1) := by decide +kernel
theorem dX7_costOf_43 : decode cX7_costOf 43 = .ok (.iconst 3, 1) := by decide +kernel
theorem dX7_costOf_44 : decode cX7_costOf 44 = .ok (.if_icmp .ne 15, 3) := by decide +kernel
theorem dX7_costOf_47 : decode cX7_costOf 47 = .ok (.iload 6, 2) := by decide +kernel
theorem dX7_costOf_49 : decode cX7_costOf 49 = .ok (.bipush 90, 2) := by decide +kernel
theorem dX7_costOf_51 : decode cX7_costOf 51 = .ok (.iload_n 3, 1) := by decide +kernel
theorem dX7_costOf_52 : decode cX7_costOf 52 = .ok (.iload 4, 2) := by decide +kernel
theorem dX7_costOf_54 : decode cX7_costOf 54 = .ok (.iadd, 1) := by decide +kernel
theorem dX7_costOf_55 : decode cX7_costOf 55 = .ok (.imul, 1) := by decide +kernel
theorem dX7_costOf_56 : decode cX7_costOf 56 = .ok (.iadd, 1) := by decide +kernel
theorem dX7_costOf_57 : decode cX7_costOf 57 = .ok (.istore 6, 2) := by decide +kernel
theorem dX7_costOf_59 : decode cX7_costOf 59 = .ok (.bipush 20, 2) := by decide +kernel
theorem dX7_costOf_61 : decode cX7_costOf 61 = .ok (.iload 6, 2) := by decide +kernel
theorem dX7_costOf_63 : decode cX7_costOf 63 = .ok (.bipush 10, 2) := by decide +kernel
theorem dX7_costOf_65 : decode cX7_costOf 65 = .ok (.idiv, 1) := by decide +kernel
theorem dX7_costOf_66 : decode cX7_costOf 66 = .ok (.iadd, 1) := by decide +kernel
theorem dX7_costOf_67 : decode cX7_costOf 67 = .ok (.ireturn, 1) := by decide +kernel
theorem dX8_init_0 : decode cX8_init 0 = .ok (.aload_n 0, 1) := by decide +kernel
theorem dX8_init_1 : decode cX8_init 1 = .ok (.invokespecial 1, 3) := by decide +kernel
theorem dX8_init_4 : decode cX8_init 4 = .ok (.aload_n 0, 1) := by decide +kernel
theorem dX8_init_5 : decode cX8_init 5 = .ok (.bipush 6, 2) := by decide +kernel
theorem dX8_init_7 : decode cX8_init 7 = .ok (.newarray .int, 2) := by decide +kernel
theorem dX8_init_9 : decode cX8_init 9 = .ok (.putfield 7, 3) := by decide +kernel
theorem dX8_init_12 : decode cX8_init 12 = .ok (.aload_n 0, 1) := by decide +kernel
theorem dX8_init_13 : decode cX8_init 13 = .ok (.bipush 6, 2) := by decide +kernel
theorem dX8_init_15 : decode cX8_init 15 = .ok (.newarray .int, 2) := by decide +kernel
theorem dX8_init_17 : decode cX8_init 17 = .ok (.putfield 13, 3) := by decide +kernel
theorem dX8_init_20 : decode cX8_init 20 = .ok (.aload_n 0, 1) := by decide +kernel
theorem dX8_init_21 : decode cX8_init 21 = .ok (.bipush 6, 2) := by decide +kernel
theorem dX8_init_23 : decode cX8_init 23 = .ok (.newarray .int, 2) := by decide +kernel
theorem dX8_init_25 : decode cX8_init 25 = .ok (.putfield 16, 3) := by decide +kernel
theorem dX8_init_28 : decode cX8_init 28 = .ok (.aload_n 0, 1) := by decide +kernel
theorem dX8_init_29 : decode cX8_init 29 = .ok (.bipush 12, 2) := by decide +kernel
theorem dX8_init_31 : decode cX8_init 31 = .ok (.newarray .int, 2) := by decide +kernel
theorem dX8_init_33 : decode cX8_init 33 = .ok (.putfield 19, 3) := by decide +kernel
theorem dX8_init_36 : decode cX8_init 36 = .ok (.aload_n 0, 1) := by decide +kernel
theorem dX8_init_37 : decode cX8_init 37 = .ok (.bipush 12, 2) := by decide +kernel
theorem dX8_init_39 : decode cX8_init 39 = .ok (.newarray .int, 2) := by decide +kernel
theorem dX8_init_41 : decode cX8_init 41 = .ok (.putfield 22, 3) := by decide +kernel
theorem dX8_init_44 : decode cX8_init 44 = .ok (.aload_n 0, 1) := by decide +kernel
theorem dX8_init_45 : decode cX8_init 45 = .ok (.bipush 6, 2) := by decide +kernel
theorem dX8_init_47 : decode cX8_init 47 = .ok (.newarray .int, 2) := by decide +kernel
theorem dX8_init_49 : decode cX8_init 49 = .ok (.putfield 25, 3) := by decide +kernel
theorem dX8_init_52 : decode cX8_init 52 = .ok (.aload_n 0, 1) := by decide +kernel
theorem dX8_init_53 : decode cX8_init 53 = .ok (.bipush 6, 2) := by decide +kernel
theorem dX8_init_55 : decode cX8_init 55 = .ok (.newarray .int, 2) := by decide +kernel
theorem dX8_init_57 : decode cX8_init 57 = .ok (.putfield 28, 3) := by decide +kernel
theorem dX8_init_60 : decode cX8_init 60 = .ok (.aload_n 0, 1) := by decide +kernel
theorem dX8_init_61 : decode cX8_init 61 = .ok (.bipush 6, 2) := by decide +kernel
theorem dX8_init_63 : decode cX8_init 63 = .ok (.newarray .int, 2) := by decide +kernel
theorem dX8_init_65 : decode cX8_init 65 = .ok (.putfield 31, 3) := by decide +kernel
theorem dX8_init_68 : decode cX8_init 68 = .ok (.aload_n 0, 1) := by decide +kernel
theorem dX8_init_69 : decode cX8_init 69 = .ok (.bipush 8, 2) := by decide +kernel
theorem dX8_init_71 : decode cX8_init 71 = .ok (.newarray .int, 2) := by decide +kernel
theorem dX8_init_73 : decode cX8_init 73 = .ok (.putfield 34, 3) := by decide +kernel
theorem dX8_init_76 : decode cX8_init 76 = .ok (.aload_n 0, 1) := by decide +kernel
theorem dX8_init_77 : decode cX8_init 77 = .ok (.bipush 8, 2) := by decide +kernel
theorem dX8_init_79 : decode cX8_init 79 = .ok (.newarray .int, 2) := by decide +kernel
theorem dX8_init_81 : decode cX8_init 81 = .ok (.putfield 37, 3) := by decide +kernel
theorem dX8_init_84 : decode cX8_init 84 = .ok (.aload_n 0, 1) := by decide +kernel
theorem dX8_init_85 : decode cX8_init 85 = .ok (.bipush 8, 2) := by decide +kernel
theorem dX8_init_87 : decode cX8_init 87 = .ok (.newarray .int, 2) := by decide +kernel
theorem dX8_init_89 : decode cX8_init 89 = .ok (.putfield 40, 3) := by decide +kernel
theorem dX8_init_92 : decode cX8_init 92 = .ok (.aload_n 0, 1) := by decide +kernel
theorem dX8_init_93 : decode cX8_init 93 = .ok (.bipush 8, 2) := by decide +kernel
theorem dX8_init_95 : decode cX8_init 95 = .ok (.newarray .int, 2) := by decide +kernel
theorem dX8_init_97 : decode cX8_init 97 = .ok (.putfield 43, 3) := by decide +kernel
theorem dX8_init_100 : decode cX8_init 100 = .ok (.aload_n 0, 1) := by decide +kernel
theorem dX8_init_101 : decode cX8_init 101 = .ok (.bipush 24, 2) := by decide +kernel
theorem dX8_init_103 : decode cX8_init 103 = .ok (.newarray .byte, 2) := by decide +kernel
theorem dX8_init_105 : decode cX8_init 105 = .ok (.putfield 46, 3) := by decide +kernel
theorem dX8_init_108 : decode cX8_init 108 = .ok (.aload_n 0, 1) := by decide +kernel
theorem dX8_init_109 : decode cX8_init 109 = .ok (.bipush 6, 2) := by decide +kernel
theorem dX8_init_111 : decode cX8_init 111 = .ok (.newarray .int, 2) := by decide +kernel
theorem dX8_init_113 : decode cX8_init 113 = .ok (.putfield 50, 3) := by decide +kernel
theorem dX8_init_116 : decode cX8_init 116 = .ok (.aload_n 0, 1) := by decide +kernel
theorem dX8_init_117 : decode cX8_init 117 = .ok (.bipush 6, 2) := by decide +kernel
theorem dX8_init_119 : decode cX8_init 119 = .ok (.newarray .int, 2) := by decide +kernel
theorem dX8_init_121 : decode cX8_init 121 = .ok (.putfield 53, 3) := by decide +kernel
theorem dX8_init_124 : decode cX8_init 124 = .ok (.aload_n 0, 1) := by decide +kernel
theorem dX8_init_125 : decode cX8_init 125 = .ok (.bipush 6, 2) := by decide +kernel
theorem dX8_init_127 : decode cX8_init 127 = .ok (.newarray .int, 2) := by decide +kernel
theorem dX8_init_129 : decode cX8_init 129 = .ok (.putfield 56, 3) := by decide +kernel
theorem dX8_init_132 : decode cX8_init 132 = .ok (.aload_n 0, 1) := by decide +kernel
theorem dX8_init_133 : decode cX8_init 133 = .ok (.bipush 6, 2) := by decide +kernel
theorem dX8_init_135 : decode cX8_init 135 = .ok (.newarray .int, 2) := by decide +kernel
theorem dX8_init_137 : decode cX8_init 137 = .ok (.putfield 59, 3) := by decide +kernel
theorem dX8_init_140 : decode cX8_init 140 = .ok (.aload_n 0, 1) := by decide +kernel
theorem dX8_init_141 : decode cX8_init 141 = .ok (.bipush 6, 2) := by decide +kernel
theorem dX8_init_143 : decode cX8_init 143 = .ok (.newarray .int, 2) := by decide +kernel
theorem dX8_init_145 : decode cX8_init 145 = .ok (.putfield 62, 3) := by decide +kernel
theorem dX8_init_148 : decode cX8_init 148 = .ok (.aload_n 0, 1) := by decide +kernel
theorem dX8_init_149 : decode cX8_init 149 = .ok (.bipush 8, 2) := by decide +kernel
theorem dX8_init_151 : decode cX8_init 151 = .ok (.newarray .int, 2) := by decide +kernel
theorem dX8_init_153 : decode cX8_init 153 = .ok (.putfield 65, 3) := by decide +kernel
theorem dX8_init_156 : decode cX8_init 156 = .ok (.aload_n 0, 1) := by decide +kernel
theorem dX8_init_157 : decode cX8_init 157 = .ok (.bipush 8, 2) := by decide +kernel
theorem dX8_init_159 : decode cX8_init 159 = .ok (.newarray .int, 2) := by decide +kernel
theorem dX8_init_161 : decode cX8_init 161 = .ok (.putfield 68, 3) := by decide +kernel
theorem dX8_init_164 : decode cX8_init 164 = .ok (.aload_n 0, 1) := by decide +kernel
theorem dX8_init_165 : decode cX8_init 165 = .ok (.bipush 8, 2) := by decide +kernel
theorem dX8_init_167 : decode cX8_init 167 = .ok (.newarray .int, 2) := by decide +kernel
theorem dX8_init_169 : decode cX8_init 169 = .ok (.putfield 71, 3) := by decide +kernel
theorem dX8_init_172 : decode cX8_init 172 = .ok (.aload_n 0, 1) := by decide +kernel
theorem dX8_init_173 : decode cX8_init 173 = .ok (.bipush 8, 2) := by decide +kernel
theorem dX8_init_175 : decode cX8_init 175 = .ok (.newarray .int, 2) := by decide +kernel
theorem dX8_init_177 : decode cX8_init 177 = .ok (.putfield 74, 3) := by decide +kernel
