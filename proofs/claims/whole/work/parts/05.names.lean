set_option maxRecDepth 20000 in
theorem ggX5_offIn_X5_seeks : GoodIn wsX5_offIn wsX5_seeks := goodIn_r _ [9, 1, 2, 3, 4, 10, 11, 12, 13, 14, 15, 16, 17, 8, 18, 33, 34, 35, 36, 37, 38, 39, 40, 41, 42, 43, 44, 45, 46, 47, 48, 49, 50, 51, 52, 53, 54, 55, 56, 57, 58, 59, 60, 61, 62, 63] (by decide +kernel) (by decide +kernel)
set_option maxRecDepth 20000 in
theorem gX5_offIn_X5_seeks : GoodIn wsX5_offIn (wsV RX5 172 RX5 yX5_seeks wsX5_seeks) := goodIn_app (goodIn_of _ (by decide +kernel)) ggX5_offIn_X5_seeks
set_option maxRecDepth 20000 in
theorem ggX5_offIn_X5_farOf : GoodIn wsX5_offIn wsX5_farOf := goodIn_r _ [22, 23, 24, 33, 34, 35, 36, 37, 38, 39, 40, 41, 42, 43, 44, 45, 46, 47, 48, 49, 50, 51, 52, 53, 54, 55, 56, 57, 58, 59, 60, 61, 62, 63] (by decide +kernel) (by decide +kernel)
set_option maxRecDepth 20000 in
theorem gX5_offIn_X5_farOf : GoodIn wsX5_offIn (wsV RX5 151 RX5 yX5_farOf wsX5_farOf) := goodIn_app (goodIn_of _ (by decide +kernel)) ggX5_offIn_X5_farOf
set_option maxRecDepth 20000 in
theorem ggX5_offIn_X5_farOn : GoodIn wsX5_offIn wsX5_farOn := goodIn_r _ [28, 29, 19, 20, 21, 8, 22, 23, 24, 30, 31, 32, 33, 34, 35, 36, 37, 38, 39, 40, 41, 42, 43, 44, 45, 46, 47, 48, 49, 50, 51, 52, 53, 54, 55, 56, 57, 58, 59, 60, 61, 62, 63] (by decide +kernel) (by decide +kernel)
set_option maxRecDepth 20000 in
theorem gX5_offIn_X5_farOn : GoodIn wsX5_offIn (wsV RX5 175 RX5 yX5_farOn wsX5_farOn) := goodIn_app (goodIn_of _ (by decide +kernel)) ggX5_offIn_X5_farOn
theorem dX5_offIn_0 : decode cX5_offIn 0 = .ok (.aload_n 0, 1) := by decide +kernel
theorem dX5_offIn_1 : decode cX5_offIn 1 = .ok (.iload_n 2, 1) := by decide +kernel
theorem dX5_offIn_2 : decode cX5_offIn 2 = .ok (.invokevirtual 172, 3) := by decide +kernel
theorem dX5_offIn_5 : decode cX5_offIn 5 = .ok (.aload_n 0, 1) := by decide +kernel
theorem dX5_offIn_6 : decode cX5_offIn 6 = .ok (.getfield 154, 3) := by decide +kernel
theorem dX5_offIn_9 : decode cX5_offIn 9 = .ok (.bipush (-9), 2) := by decide +kernel
theorem dX5_offIn_11 : decode cX5_offIn 11 = .ok (.if_icmp .eq 15, 3) := by decide +kernel
theorem dX5_offIn_14 : decode cX5_offIn 14 = .ok (.aload_n 0, 1) := by decide +kernel
theorem dX5_offIn_15 : decode cX5_offIn 15 = .ok (.iload_n 1, 1) := by decide +kernel
theorem dX5_offIn_16 : decode cX5_offIn 16 = .ok (.aload_n 0, 1) := by decide +kernel
theorem dX5_offIn_17 : decode cX5_offIn 17 = .ok (.getfield 154, 3) := by decide +kernel
theorem dX5_offIn_20 : decode cX5_offIn 20 = .ok (.invokevirtual 151, 3) := by decide +kernel
theorem dX5_offIn_23 : decode cX5_offIn 23 = .ok (.goto 34, 3) := by decide +kernel
theorem dX5_offIn_26 : decode cX5_offIn 26 = .ok (.aload_n 0, 1) := by decide +kernel
theorem dX5_offIn_27 : decode cX5_offIn 27 = .ok (.getfield 157, 3) := by decide +kernel
theorem dX5_offIn_30 : decode cX5_offIn 30 = .ok (.bipush (-9), 2) := by decide +kernel
theorem dX5_offIn_32 : decode cX5_offIn 32 = .ok (.if_icmp .eq 23, 3) := by decide +kernel
theorem dX5_offIn_35 : decode cX5_offIn 35 = .ok (.aload_n 0, 1) := by decide +kernel
theorem dX5_offIn_36 : decode cX5_offIn 36 = .ok (.iload_n 1, 1) := by decide +kernel
theorem dX5_offIn_37 : decode cX5_offIn 37 = .ok (.aload_n 0, 1) := by decide +kernel
theorem dX5_offIn_38 : decode cX5_offIn 38 = .ok (.getfield 157, 3) := by decide +kernel
theorem dX5_offIn_41 : decode cX5_offIn 41 = .ok (.aload_n 0, 1) := by decide +kernel
theorem dX5_offIn_42 : decode cX5_offIn 42 = .ok (.getfield 160, 3) := by decide +kernel
theorem dX5_offIn_45 : decode cX5_offIn 45 = .ok (.aload_n 0, 1) := by decide +kernel
theorem dX5_offIn_46 : decode cX5_offIn 46 = .ok (.getfield 163, 3) := by decide +kernel
theorem dX5_offIn_49 : decode cX5_offIn 49 = .ok (.invokevirtual 175, 3) := by decide +kernel
theorem dX5_offIn_52 : decode cX5_offIn 52 = .ok (.goto 5, 3) := by decide +kernel
theorem dX5_offIn_55 : decode cX5_offIn 55 = .ok (.bipush (-9), 2) := by decide +kernel
theorem dX5_offIn_57 : decode cX5_offIn 57 = .ok (.ireturn, 1) := by decide +kernel
set_option maxRecDepth 20000 in
theorem ggX5_clockIn_X5_offIn : GoodIn wsX5_clockIn wsX5_offIn := goodIn_r _ [5, 6, 7, 8, 9, 10, 11, 12, 4, 13, 14, 15, 16, 17, 18, 19, 20, 21, 22, 23, 24, 25, 26, 27, 28, 29, 30, 31, 32, 33, 34, 35, 36, 37, 38, 39, 40, 41, 42, 43, 44, 45, 46, 47, 48, 49, 50, 51, 52, 53, 54, 55, 56, 57, 58, 59, 60, 61, 62, 63, 64, 65, 66, 67] (by decide +kernel) (by decide +kernel)
set_option maxRecDepth 20000 in
theorem gX5_clockIn_X5_offIn : GoodIn wsX5_clockIn (wsV RX5 178 RX5 yX5_offIn wsX5_offIn) := goodIn_app (goodIn_of _ (by decide +kernel)) ggX5_clockIn_X5_offIn
theorem dX5_clockIn_0 : decode cX5_clockIn 0 = .ok (.aload_n 0, 1) := by decide +kernel
theorem dX5_clockIn_1 : decode cX5_clockIn 1 = .ok (.iload_n 1, 1) := by decide +kernel
theorem dX5_clockIn_2 : decode cX5_clockIn 2 = .ok (.iload_n 2, 1) := by decide +kernel
theorem dX5_clockIn_3 : decode cX5_clockIn 3 = .ok (.invokevirtual 178, 3) := by decide +kernel
theorem dX5_clockIn_6 : decode cX5_clockIn 6 = .ok (.istore_n 3, 1) := by decide +kernel
theorem dX5_clockIn_7 : decode cX5_clockIn 7 = .ok (.iload_n 3, 1) := by decide +kernel
theorem dX5_clockIn_8 : decode cX5_clockIn 8 = .ok (.bipush (-9), 2) := by decide +kernel
theorem dX5_clockIn_10 : decode cX5_clockIn 10 = .ok (.if_icmp .ne 8, 3) := by decide +kernel
theorem dX5_clockIn_13 : decode cX5_clockIn 13 = .ok (.bipush (-9), 2) := by decide +kernel
theorem dX5_clockIn_15 : decode cX5_clockIn 15 = .ok (.goto 10, 3) := by decide +kernel
theorem dX5_clockIn_18 : decode cX5_clockIn 18 = .ok (.bipush 12, 2) := by decide +kernel
theorem dX5_clockIn_20 : decode cX5_clockIn 20 = .ok (.iload_n 3, 1) := by decide +kernel
theorem dX5_clockIn_21 : decode cX5_clockIn 21 = .ok (.iadd, 1) := by decide +kernel
theorem dX5_clockIn_22 : decode cX5_clockIn 22 = .ok (.bipush 24, 2) := by decide +kernel
theorem dX5_clockIn_24 : decode cX5_clockIn 24 = .ok (.irem, 1) := by decide +kernel
theorem dX5_clockIn_25 : decode cX5_clockIn 25 = .ok (.ireturn, 1) := by decide +kernel
set_option maxRecDepth 20000 in
theorem ggX5_off_X5_isTown : GoodIn wsX5_off wsX5_isTown := goodIn_r _ [6, 7, 8, 9, 5, 10, 49, 50, 51, 52, 53, 54, 55, 56, 57, 58, 59, 60, 61, 62, 63, 64, 65, 66, 67, 68, 69, 70, 71, 72, 73, 74, 75, 76, 77, 78, 79] (by decide +kernel) (by decide +kernel)
set_option maxRecDepth 20000 in
theorem gX5_off_X5_isTown : GoodIn wsX5_off (wsV RX5 144 RX5 yX5_isTown wsX5_isTown) := goodIn_app (goodIn_of _ (by decide +kernel)) ggX5_off_X5_isTown
set_option maxRecDepth 20000 in
theorem ggX5_off_X5_isHour : GoodIn wsX5_off wsX5_isHour := goodIn_r _ [13, 8, 9, 5, 10] (by decide +kernel) (by decide +kernel)
set_option maxRecDepth 20000 in
theorem gX5_off_X5_isHour : GoodIn wsX5_off (va_wsS RX5 169 yX5_isHour wsX5_isHour) := goodIn_app (goodIn_of _ (by decide +kernel)) ggX5_off_X5_isHour
set_option maxRecDepth 20000 in
theorem ggX5_off_X5_offIn : GoodIn wsX5_off wsX5_offIn := goodIn_r _ [17, 18, 19, 20, 21, 22, 23, 24, 5, 25, 26, 27, 28, 29, 30, 31, 32, 33, 34, 35, 36, 37, 38, 39, 40, 41, 42, 43, 44, 45, 46, 47, 48, 49, 50, 51, 52, 53, 54, 55, 56, 57, 58, 59, 60, 61, 62, 63, 64, 65, 66, 67, 68, 69, 70, 71, 72, 73, 74, 75, 76, 77, 78, 79] (by decide +kernel) (by decide +kernel)
set_option maxRecDepth 20000 in
theorem gX5_off_X5_offIn : GoodIn wsX5_off (wsV RX5 178 RX5 yX5_offIn wsX5_offIn) := goodIn_app (goodIn_of _ (by decide +kernel)) ggX5_off_X5_offIn
theorem dX5_off_0 : decode cX5_off 0 = .ok (.aload_n 0, 1) := by decide +kernel
theorem dX5_off_1 : decode cX5_off 1 = .ok (.iconst 0, 1) := by decide +kernel
theorem dX5_off_2 : decode cX5_off 2 = .ok (.putfield 53, 3) := by decide +kernel
theorem dX5_off_5 : decode cX5_off 5 = .ok (.aload_n 0, 1) := by decide +kernel
theorem dX5_off_6 : decode cX5_off 6 = .ok (.iload_n 1, 1) := by decide +kernel
theorem dX5_off_7 : decode cX5_off 7 = .ok (.invokevirtual 144, 3) := by decide +kernel
theorem dX5_off_10 : decode cX5_off 10 = .ok (.ifCond .eq 19, 3) := by decide +kernel
theorem dX5_off_13 : decode cX5_off 13 = .ok (.iload_n 2, 1) := by decide +kernel
theorem dX5_off_14 : decode cX5_off 14 = .ok (.invokestatic 169, 3) := by decide +kernel
theorem dX5_off_17 : decode cX5_off 17 = .ok (.ifCond .eq 12, 3) := by decide +kernel
theorem dX5_off_20 : decode cX5_off 20 = .ok (.aload_n 0, 1) := by decide +kernel
theorem dX5_off_21 : decode cX5_off 21 = .ok (.iload_n 1, 1) := by decide +kernel
theorem dX5_off_22 : decode cX5_off 22 = .ok (.iload_n 2, 1) := by decide +kernel
theorem dX5_off_23 : decode cX5_off 23 = .ok (.invokevirtual 178, 3) := by decide +kernel
theorem dX5_off_26 : decode cX5_off 26 = .ok (.goto 4, 3) := by decide +kernel
theorem dX5_off_29 : decode cX5_off 29 = .ok (.iconst (-1), 1) := by decide +kernel
theorem dX5_off_30 : decode cX5_off 30 = .ok (.ireturn, 1) := by decide +kernel
set_option maxRecDepth 20000 in
theorem ggX5_clock_X5_isTown : GoodIn wsX5_clock wsX5_isTown := goodIn_r _ [6, 7, 8, 9, 5, 10, 53, 54, 55, 56, 57, 58, 59, 60, 61, 62, 63, 64, 65, 66, 67, 68, 69, 70, 71, 72, 73, 74, 75, 76, 77, 78, 79, 80, 81, 82, 83] (by decide +kernel) (by decide +kernel)
set_option maxRecDepth 20000 in
theorem gX5_clock_X5_isTown : GoodIn wsX5_clock (wsV RX5 144 RX5 yX5_isTown wsX5_isTown) := goodIn_app (goodIn_of _ (by decide +kernel)) ggX5_clock_X5_isTown
set_option maxRecDepth 20000 in
theorem ggX5_clock_X5_isHour : GoodIn wsX5_clock wsX5_isHour := goodIn_r _ [13, 8, 9, 5, 10] (by decide +kernel) (by decide +kernel)
set_option maxRecDepth 20000 in
theorem gX5_clock_X5_isHour : GoodIn wsX5_clock (va_wsS RX5 169 yX5_isHour wsX5_isHour) := goodIn_app (goodIn_of _ (by decide +kernel)) ggX5_clock_X5_isHour
set_option maxRecDepth 20000 in
theorem ggX5_clock_X5_clockIn : GoodIn wsX5_clock wsX5_clockIn := goodIn_r _ [17, 18, 19, 20, 5, 21, 22, 23, 24, 25, 26, 27, 28, 29, 30, 31, 32, 33, 34, 35, 36, 37, 38, 39, 40, 41, 42, 43, 44, 45, 46, 47, 48, 49, 50, 51, 52, 53, 54, 55, 56, 57, 58, 59, 60, 61, 62, 63, 64, 65, 66, 67, 68, 69, 70, 71, 72, 73, 74, 75, 76, 77, 78, 79, 80, 81, 82, 83] (by decide +kernel) (by decide +kernel)
set_option maxRecDepth 20000 in
theorem gX5_clock_X5_clockIn : GoodIn wsX5_clock (wsV RX5 181 RX5 yX5_clockIn wsX5_clockIn) := goodIn_app (goodIn_of _ (by decide +kernel)) ggX5_clock_X5_clockIn
theorem dX5_clock_0 : decode cX5_clock 0 = .ok (.aload_n 0, 1) := by decide +kernel
theorem dX5_clock_1 : decode cX5_clock 1 = .ok (.iconst 0, 1) := by decide +kernel
theorem dX5_clock_2 : decode cX5_clock 2 = .ok (.putfield 53, 3) := by decide +kernel
theorem dX5_clock_5 : decode cX5_clock 5 = .ok (.aload_n 0, 1) := by decide +kernel
theorem dX5_clock_6 : decode cX5_clock 6 = .ok (.iload_n 1, 1) := by decide +kernel
theorem dX5_clock_7 : decode cX5_clock 7 = .ok (.invokevirtual 144, 3) := by decide +kernel
theorem dX5_clock_10 : decode cX5_clock 10 = .ok (.ifCond .eq 19, 3) := by decide +kernel
theorem dX5_clock_13 : decode cX5_clock 13 = .ok (.iload_n 2, 1) := by decide +kernel
theorem dX5_clock_14 : decode cX5_clock 14 = .ok (.invokestatic 169, 3) := by decide +kernel
theorem dX5_clock_17 : decode cX5_clock 17 = .ok (.ifCond .eq 12, 3) := by decide +kernel
theorem dX5_clock_20 : decode cX5_clock 20 = .ok (.aload_n 0, 1) := by decide +kernel
theorem dX5_clock_21 : decode cX5_clock 21 = .ok (.iload_n 1, 1) := by decide +kernel
theorem dX5_clock_22 : decode cX5_clock 22 = .ok (.iload_n 2, 1) := by decide +kernel
theorem dX5_clock_23 : decode cX5_clock 23 = .ok (.invokevirtual 181, 3) := by decide +kernel
theorem dX5_clock_26 : decode cX5_clock 26 = .ok (.goto 4, 3) := by decide +kernel
theorem dX5_clock_29 : decode cX5_clock 29 = .ok (.iconst (-1), 1) := by decide +kernel
theorem dX5_clock_30 : decode cX5_clock 30 = .ok (.ireturn, 1) := by decide +kernel
set_option maxRecDepth 20000 in
theorem ggX5_light_X5_isTown : GoodIn wsX5_light wsX5_isTown := goodIn_r _ [6, 7, 8, 9, 5, 10, 53, 54, 55, 56, 57, 58, 59, 60, 61, 62, 63, 64, 65, 66, 67, 68, 69, 70, 71, 72, 73, 74, 75, 76, 77, 78, 79, 80, 81, 82, 83] (by decide +kernel) (by decide +kernel)
set_option maxRecDepth 20000 in
theorem gX5_light_X5_isTown : GoodIn wsX5_light (wsV RX5 144 RX5 yX5_isTown wsX5_isTown) := goodIn_app (goodIn_of _ (by decide +kernel)) ggX5_light_X5_isTown
set_option maxRecDepth 20000 in
theorem ggX5_light_X5_isHour : GoodIn wsX5_light wsX5_isHour := goodIn_r _ [13, 8, 9, 5, 10] (by decide +kernel) (by decide +kernel)
set_option maxRecDepth 20000 in
theorem gX5_light_X5_isHour : GoodIn wsX5_light (va_wsS RX5 169 yX5_isHour wsX5_isHour) := goodIn_app (goodIn_of _ (by decide +kernel)) ggX5_light_X5_isHour
set_option maxRecDepth 20000 in
theorem ggX5_light_X5_clockIn : GoodIn wsX5_light wsX5_clockIn := goodIn_r _ [17, 18, 19, 20, 5, 21, 22, 23, 24, 25, 26, 27, 28, 29, 30, 31, 32, 33, 34, 35, 36, 37, 38, 39, 40, 41, 42, 43, 44, 45, 46, 47, 48, 49, 50, 51, 52, 53, 54, 55, 56, 57, 58, 59, 60, 61, 62, 63, 64, 65, 66, 67, 68, 69, 70, 71, 72, 73, 74, 75, 76, 77, 78, 79, 80, 81, 82, 83] (by decide +kernel) (by decide +kernel)
set_option maxRecDepth 20000 in
theorem gX5_light_X5_clockIn : GoodIn wsX5_light (wsV RX5 181 RX5 yX5_clockIn wsX5_clockIn) := goodIn_app (goodIn_of _ (by decide +kernel)) ggX5_light_X5_clockIn
set_option maxRecDepth 20000 in
theorem ggX5_light_X5_in : GoodIn wsX5_light wsX5_in := goodIn_r _ [10] (by decide +kernel) (by decide +kernel)
set_option maxRecDepth 20000 in
theorem gX5_light_X5_in : GoodIn wsX5_light (va_wsS RX5 57 yX5_in wsX5_in) := goodIn_app (goodIn_of _ (by decide +kernel)) ggX5_light_X5_in
theorem dX5_light_0 : decode cX5_light 0 = .ok (.aload_n 0, 1) := by decide +kernel
theorem dX5_light_1 : decode cX5_light 1 = .ok (.iconst 0, 1) := by decide +kernel
theorem dX5_light_2 : decode cX5_light 2 = .ok (.putfield 53, 3) := by decide +kernel
theorem dX5_light_5 : decode cX5_light 5 = .ok (.aload_n 0, 1) := by decide +kernel
theorem dX5_light_6 : decode cX5_light 6 = .ok (.iload_n 1, 1) := by decide +kernel
theorem dX5_light_7 : decode cX5_light 7 = .ok (.invokevirtual 144, 3) := by decide +kernel
theorem dX5_light_10 : decode cX5_light 10 = .ok (.ifCond .eq 10, 3) := by decide +kernel
theorem dX5_light_13 : decode cX5_light 13 = .ok (.iload_n 2, 1) := by decide +kernel
theorem dX5_light_14 : decode cX5_light 14 = .ok (.invokestatic 169, 3) := by decide +kernel
theorem dX5_light_17 : decode cX5_light 17 = .ok (.ifCond .ne 5, 3) := by decide +kernel
theorem dX5_light_20 : decode cX5_light 20 = .ok (.iconst (-1), 1) := by decide +kernel
theorem dX5_light_21 : decode cX5_light 21 = .ok (.ireturn, 1) := by decide +kernel
theorem dX5_light_22 : decode cX5_light 22 = .ok (.iconst 0, 1) := by decide +kernel
theorem dX5_light_23 : decode cX5_light 23 = .ok (.istore_n 3, 1) := by decide +kernel
theorem dX5_light_24 : decode cX5_light 24 = .ok (.iconst 0, 1) := by decide +kernel
theorem dX5_light_25 : decode cX5_light 25 = .ok (.istore 4, 2) := by decide +kernel
theorem dX5_light_27 : decode cX5_light 27 = .ok (.iload 4, 2) := by decide +kernel
theorem dX5_light_29 : decode cX5_light 29 = .ok (.bipush 24, 2) := by decide +kernel
theorem dX5_light_31 : decode cX5_light 31 = .ok (.if_icmp .ge 49, 3) := by decide +kernel
theorem dX5_light_34 : decode cX5_light 34 = .ok (.iload_n 2, 1) := by decide +kernel
theorem dX5_light_35 : decode cX5_light 35 = .ok (.iload 4, 2) := by decide +kernel
theorem dX5_light_37 : decode cX5_light 37 = .ok (.iadd, 1) := by decide +kernel
theorem dX5_light_38 : decode cX5_light 38 = .ok (.sipush 1000, 3) := by decide +kernel
theorem dX5_light_41 : decode cX5_light 41 = .ok (.if_icmp .ge 39, 3) := by decide +kernel
theorem dX5_light_44 : decode cX5_light 44 = .ok (.iload_n 3, 1) := by decide +kernel
theorem dX5_light_45 : decode cX5_light 45 = .ok (.aload_n 0, 1) := by decide +kernel
theorem dX5_light_46 : decode cX5_light 46 = .ok (.iload_n 1, 1) := by decide +kernel
theorem dX5_light_47 : decode cX5_light 47 = .ok (.iload_n 2, 1) := by decide +kernel
theorem dX5_light_48 : decode cX5_light 48 = .ok (.iload 4, 2) := by decide +kernel
theorem dX5_light_50 : decode cX5_light 50 = .ok (.iadd, 1) := by decide +kernel
theorem dX5_light_51 : decode cX5_light 51 = .ok (.invokevirtual 181, 3) := by decide +kernel
theorem dX5_light_54 : decode cX5_light 54 = .ok (.bipush 6, 2) := by decide +kernel
theorem dX5_light_56 : decode cX5_light 56 = .ok (.bipush 17, 2) := by decide +kernel
theorem dX5_light_58 : decode cX5_light 58 = .ok (.invokestatic 57, 3) := by decide +kernel
theorem dX5_light_61 : decode cX5_light 61 = .ok (.ifCond .eq 10, 3) := by decide +kernel
theorem dX5_light_64 : decode cX5_light 64 = .ok (.iconst 1, 1) := by decide +kernel
theorem dX5_light_65 : decode cX5_light 65 = .ok (.iload 4, 2) := by decide +kernel
theorem dX5_light_67 : decode cX5_light 67 = .ok (.ishl, 1) := by decide +kernel
theorem dX5_light_68 : decode cX5_light 68 = .ok (.goto 4, 3) := by decide +kernel
theorem dX5_light_71 : decode cX5_light 71 = .ok (.iconst 0, 1) := by decide +kernel
theorem dX5_light_72 : decode cX5_light 72 = .ok (.ior, 1) := by decide +kernel
theorem dX5_light_73 : decode cX5_light 73 = .ok (.istore_n 3, 1) := by decide +kernel
theorem dX5_light_74 : decode cX5_light 74 = .ok (.iinc 4 1, 3) := by decide +kernel
theorem dX5_light_77 : decode cX5_light 77 = .ok (.goto (-50), 3) := by decide +kernel
theorem dX5_light_80 : decode cX5_light 80 = .ok (.iload_n 3, 1) := by decide +kernel
theorem dX5_light_81 : decode cX5_light 81 = .ok (.ireturn, 1) := by decide +kernel
set_option maxRecDepth 20000 in
theorem ggX5_pace_X5_isTown : GoodIn wsX5_pace wsX5_isTown := goodIn_r _ [7, 8, 9, 10, 6, 11, 50, 51, 52, 53, 54, 55, 56, 57, 58, 59, 60, 61, 62, 63, 64, 65, 66, 67, 68, 69, 70, 71, 72, 73, 74, 75, 76, 77, 78, 79, 80] (by decide +kernel) (by decide +kernel)
set_option maxRecDepth 20000 in
theorem gX5_pace_X5_isTown : GoodIn wsX5_pace (wsV RX5 144 RX5 yX5_isTown wsX5_isTown) := goodIn_app (goodIn_of _ (by decide +kernel)) ggX5_pace_X5_isTown
set_option maxRecDepth 20000 in
theorem ggX5_pace_X5_in : GoodIn wsX5_pace wsX5_in := goodIn_r _ [11] (by decide +kernel) (by decide +kernel)
set_option maxRecDepth 20000 in
theorem gX5_pace_X5_in : GoodIn wsX5_pace (va_wsS RX5 57 yX5_in wsX5_in) := goodIn_app (goodIn_of _ (by decide +kernel)) ggX5_pace_X5_in
set_option maxRecDepth 20000 in
theorem ggX5_pace_X5_clockIn : GoodIn wsX5_pace wsX5_clockIn := goodIn_r _ [15, 16, 17, 18, 6, 19, 20, 21, 22, 23, 24, 25, 26, 27, 28, 29, 30, 31, 32, 33, 34, 35, 36, 37, 38, 39, 40, 41, 2, 42, 43, 44, 45, 46, 47, 48, 49, 50, 51, 52, 53, 54, 55, 56, 57, 58, 59, 60, 61, 62, 63, 64, 65, 66, 67, 68, 69, 70, 71, 72, 73, 74, 75, 76, 77, 78, 79, 80] (by decide +kernel) (by decide +kernel)
set_option maxRecDepth 20000 in
theorem gX5_pace_X5_clockIn : GoodIn wsX5_pace (wsV RX5 181 RX5 yX5_clockIn wsX5_clockIn) := goodIn_app (goodIn_of _ (by decide +kernel)) ggX5_pace_X5_clockIn
theorem dX5_pace_0 : decode cX5_pace 0 = .ok (.aload_n 0, 1) := by decide +kernel
theorem dX5_pace_1 : decode cX5_pace 1 = .ok (.iconst 0, 1) := by decide +kernel
theorem dX5_pace_2 : decode cX5_pace 2 = .ok (.putfield 53, 3) := by decide +kernel
theorem dX5_pace_5 : decode cX5_pace 5 = .ok (.aload_n 0, 1) := by decide +kernel
theorem dX5_pace_6 : decode cX5_pace 6 = .ok (.iload_n 1, 1) := by decide +kernel
theorem dX5_pace_7 : decode cX5_pace 7 = .ok (.invokevirtual 144, 3) := by decide +kernel
theorem dX5_pace_10 : decode cX5_pace 10 = .ok (.ifCond .eq 14, 3) := by decide +kernel
theorem dX5_pace_13 : decode cX5_pace 13 = .ok (.iload_n 2, 1) := by decide +kernel
theorem dX5_pace_14 : decode cX5_pace 14 = .ok (.iconst 0, 1) := by decide +kernel
theorem dX5_pace_15 : decode cX5_pace 15 = .ok (.sipush 998, 3) := by decide +kernel
theorem dX5_pace_18 : decode cX5_pace 18 = .ok (.invokestatic 57, 3) := by decide +kernel
theorem dX5_pace_21 : decode cX5_pace 21 = .ok (.ifCond .ne 6, 3) := by decide +kernel
theorem dX5_pace_24 : decode cX5_pace 24 = .ok (.ldc 140, 2) := by decide +kernel
theorem dX5_pace_26 : decode cX5_pace 26 = .ok (.ireturn, 1) := by decide +kernel
theorem dX5_pace_27 : decode cX5_pace 27 = .ok (.aload_n 0, 1) := by decide +kernel
theorem dX5_pace_28 : decode cX5_pace 28 = .ok (.iload_n 1, 1) := by decide +kernel
theorem dX5_pace_29 : decode cX5_pace 29 = .ok (.iload_n 2, 1) := by decide +kernel
theorem dX5_pace_30 : decode cX5_pace 30 = .ok (.invokevirtual 181, 3) := by decide +kernel
theorem dX5_pace_33 : decode cX5_pace 33 = .ok (.istore_n 3, 1) := by decide +kernel
theorem dX5_pace_34 : decode cX5_pace 34 = .ok (.aload_n 0, 1) := by decide +kernel
theorem dX5_pace_35 : decode cX5_pace 35 = .ok (.iload_n 1, 1) := by decide +kernel
theorem dX5_pace_36 : decode cX5_pace 36 = .ok (.iload_n 2, 1) := by decide +kernel
theorem dX5_pace_37 : decode cX5_pace 37 = .ok (.iconst 1, 1) := by decide +kernel
theorem dX5_pace_38 : decode cX5_pace 38 = .ok (.iadd, 1) := by decide +kernel
theorem dX5_pace_39 : decode cX5_pace 39 = .ok (.invokevirtual 181, 3) := by decide +kernel
theorem dX5_pace_42 : decode cX5_pace 42 = .ok (.istore 4, 2) := by decide +kernel
theorem dX5_pace_44 : decode cX5_pace 44 = .ok (.iload_n 3, 1) := by decide +kernel
theorem dX5_pace_45 : decode cX5_pace 45 = .ok (.bipush (-9), 2) := by decide +kernel
theorem dX5_pace_47 : decode cX5_pace 47 = .ok (.if_icmp .eq 10, 3) := by decide +kernel
theorem dX5_pace_50 : decode cX5_pace 50 = .ok (.iload 4, 2) := by decide +kernel
theorem dX5_pace_52 : decode cX5_pace 52 = .ok (.bipush (-9), 2) := by decide +kernel
theorem dX5_pace_54 : decode cX5_pace 54 = .ok (.if_icmp .ne 8, 3) := by decide +kernel
theorem dX5_pace_57 : decode cX5_pace 57 = .ok (.bipush (-9), 2) := by decide +kernel
theorem dX5_pace_59 : decode cX5_pace 59 = .ok (.goto 16, 3) := by decide +kernel
theorem dX5_pace_62 : decode cX5_pace 62 = .ok (.iload 4, 2) := by decide +kernel
theorem dX5_pace_64 : decode cX5_pace 64 = .ok (.iload_n 3, 1) := by decide +kernel
theorem dX5_pace_65 : decode cX5_pace 65 = .ok (.isub, 1) := by decide +kernel
theorem dX5_pace_66 : decode cX5_pace 66 = .ok (.bipush 36, 2) := by decide +kernel
theorem dX5_pace_68 : decode cX5_pace 68 = .ok (.iadd, 1) := by decide +kernel
theorem dX5_pace_69 : decode cX5_pace 69 = .ok (.bipush 24, 2) := by decide +kernel
theorem dX5_pace_71 : decode cX5_pace 71 = .ok (.irem, 1) := by decide +kernel
theorem dX5_pace_72 : decode cX5_pace 72 = .ok (.bipush 12, 2) := by decide +kernel
theorem dX5_pace_74 : decode cX5_pace 74 = .ok (.isub, 1) := by decide +kernel
theorem dX5_pace_75 : decode cX5_pace 75 = .ok (.ireturn, 1) := by decide +kernel
set_option maxRecDepth 20000 in
theorem ggX5_early_X5_isTown : GoodIn wsX5_early wsX5_isTown := goodIn_r _ [6, 7, 8, 9, 5, 10, 53, 54, 55, 56, 57, 58, 59, 60, 61, 62, 63, 64, 65, 66, 67, 68, 69, 70, 71, 72, 73, 74, 75, 76, 77, 78, 79, 80, 81, 82, 83] (by decide +kernel) (by decide +kernel)
set_option maxRecDepth 20000 in
theorem gX5_early_X5_isTown : GoodIn wsX5_early (wsV RX5 144 RX5 yX5_isTown wsX5_isTown) := goodIn_app (goodIn_of _ (by decide +kernel)) ggX5_early_X5_isTown
set_option maxRecDepth 20000 in
theorem ggX5_early_X5_isHour : GoodIn wsX5_early wsX5_isHour := goodIn_r _ [13, 8, 9, 5, 10] (by decide +kernel) (by decide +kernel)
set_option maxRecDepth 20000 in
theorem gX5_early_X5_isHour : GoodIn wsX5_early (va_wsS RX5 169 yX5_isHour wsX5_isHour) := goodIn_app (goodIn_of _ (by decide +kernel)) ggX5_early_X5_isHour
set_option maxRecDepth 20000 in
theorem ggX5_early_X5_farOf : GoodIn wsX5_early wsX5_farOf := goodIn_r _ [17, 18, 19, 53, 54, 55, 56, 57, 58, 59, 60, 61, 62, 63, 64, 65, 66, 67, 68, 69, 70, 71, 72, 73, 74, 75, 76, 77, 78, 79, 80, 81, 82, 83] (by decide +kernel) (by decide +kernel)
set_option maxRecDepth 20000 in
theorem gX5_early_X5_farOf : GoodIn wsX5_early (wsV RX5 151 RX5 yX5_farOf wsX5_farOf) := goodIn_app (goodIn_of _ (by decide +kernel)) ggX5_early_X5_farOf
set_option maxRecDepth 20000 in
theorem ggX5_early_X5_clockIn : GoodIn wsX5_early wsX5_clockIn := goodIn_r _ [23, 24, 25, 26, 5, 27, 28, 29, 30, 31, 32, 33, 34, 35, 36, 37, 38, 39, 40, 41, 42, 43, 44, 14, 15, 16, 17, 18, 19, 45, 46, 47, 48, 49, 50, 51, 52, 53, 54, 55, 56, 57, 58, 59, 60, 61, 62, 63, 64, 65, 66, 67, 68, 69, 70, 71, 72, 73, 74, 75, 76, 77, 78, 79, 80, 81, 82, 83] (by decide +kernel) (by decide +kernel)
set_option maxRecDepth 20000 in
theorem gX5_early_X5_clockIn : GoodIn wsX5_early (wsV RX5 181 RX5 yX5_clockIn wsX5_clockIn) := goodIn_app (goodIn_of _ (by decide +kernel)) ggX5_early_X5_clockIn
theorem dX5_early_0 : decode cX5_early 0 = .ok (.aload_n 0, 1) := by decide +kernel
theorem dX5_early_1 : decode cX5_early 1 = .ok (.iconst 0, 1) := by decide +kernel
theorem dX5_early_2 : decode cX5_early 2 = .ok (.putfield 53, 3) := by decide +kernel
theorem dX5_early_5 : decode cX5_early 5 = .ok (.aload_n 0, 1) := by decide +kernel
theorem dX5_early_6 : decode cX5_early 6 = .ok (.iload_n 1, 1) := by decide +kernel
theorem dX5_early_7 : decode cX5_early 7 = .ok (.invokevirtual 144, 3) := by decide +kernel
theorem dX5_early_10 : decode cX5_early 10 = .ok (.ifCond .eq 23, 3) := by decide +kernel
theorem dX5_early_13 : decode cX5_early 13 = .ok (.aload_n 0, 1) := by decide +kernel
theorem dX5_early_14 : decode cX5_early 14 = .ok (.iload_n 2, 1) := by decide +kernel
theorem dX5_early_15 : decode cX5_early 15 = .ok (.invokevirtual 144, 3) := by decide +kernel
theorem dX5_early_18 : decode cX5_early 18 = .ok (.ifCond .eq 15, 3) := by decide +kernel
theorem dX5_early_21 : decode cX5_early 21 = .ok (.iload_n 1, 1) := by decide +kernel
theorem dX5_early_22 : decode cX5_early 22 = .ok (.iload_n 2, 1) := by decide +kernel
theorem dX5_early_23 : decode cX5_early 23 = .ok (.if_icmp .eq 10, 3) := by decide +kernel
theorem dX5_early_26 : decode cX5_early 26 = .ok (.iload_n 3, 1) := by decide +kernel
theorem dX5_early_27 : decode cX5_early 27 = .ok (.invokestatic 169, 3) := by decide +kernel
theorem dX5_early_30 : decode cX5_early 30 = .ok (.ifCond .ne 5, 3) := by decide +kernel
theorem dX5_early_33 : decode cX5_early 33 = .ok (.iconst (-1), 1) := by decide +kernel
theorem dX5_early_34 : decode cX5_early 34 = .ok (.ireturn, 1) := by decide +kernel
theorem dX5_early_35 : decode cX5_early 35 = .ok (.aload_n 0, 1) := by decide +kernel
theorem dX5_early_36 : decode cX5_early 36 = .ok (.iload_n 1, 1) := by decide +kernel
theorem dX5_early_37 : decode cX5_early 37 = .ok (.iload_n 2, 1) := by decide +kernel
theorem dX5_early_38 : decode cX5_early 38 = .ok (.invokevirtual 151, 3) := by decide +kernel
theorem dX5_early_41 : decode cX5_early 41 = .ok (.istore 4, 2) := by decide +kernel
theorem dX5_early_43 : decode cX5_early 43 = .ok (.iconst 0, 1) := by decide +kernel
theorem dX5_early_44 : decode cX5_early 44 = .ok (.istore 5, 2) := by decide +kernel
theorem dX5_early_46 : decode cX5_early 46 = .ok (.iconst 0, 1) := by decide +kernel
theorem dX5_early_47 : decode cX5_early 47 = .ok (.istore 6, 2) := by decide +kernel
theorem dX5_early_49 : decode cX5_early 49 = .ok (.iload 6, 2) := by decide +kernel
theorem dX5_early_51 : decode cX5_early 51 = .ok (.bipush 24, 2) := by decide +kernel
theorem dX5_early_53 : decode cX5_early 53 = .ok (.if_icmp .ge 85, 3) := by decide +kernel
theorem dX5_early_56 : decode cX5_early 56 = .ok (.iload_n 3, 1) := by decide +kernel
theorem dX5_early_57 : decode cX5_early 57 = .ok (.iload 6, 2) := by decide +kernel
theorem dX5_early_59 : decode cX5_early 59 = .ok (.iadd, 1) := by decide +kernel
theorem dX5_early_60 : decode cX5_early 60 = .ok (.sipush 1000, 3) := by decide +kernel
theorem dX5_early_63 : decode cX5_early 63 = .ok (.if_icmp .ge 75, 3) := by decide +kernel
theorem dX5_early_66 : decode cX5_early 66 = .ok (.iload 4, 2) := by decide +kernel
theorem dX5_early_68 : decode cX5_early 68 = .ok (.bipush (-9), 2) := by decide +kernel
theorem dX5_early_70 : decode cX5_early 70 = .ok (.if_icmp .eq 68, 3) := by decide +kernel
theorem dX5_early_73 : decode cX5_early 73 = .ok (.aload_n 0, 1) := by decide +kernel
theorem dX5_early_74 : decode cX5_early 74 = .ok (.iload_n 1, 1) := by decide +kernel
theorem dX5_early_75 : decode cX5_early 75 = .ok (.iload_n 3, 1) := by decide +kernel
theorem dX5_early_76 : decode cX5_early 76 = .ok (.iload 6, 2) := by decide +kernel
theorem dX5_early_78 : decode cX5_early 78 = .ok (.iadd, 1) := by decide +kernel
theorem dX5_early_79 : decode cX5_early 79 = .ok (.invokevirtual 181, 3) := by decide +kernel
theorem dX5_early_82 : decode cX5_early 82 = .ok (.istore 7, 2) := by decide +kernel
theorem dX5_early_84 : decode cX5_early 84 = .ok (.aload_n 0, 1) := by decide +kernel
theorem dX5_early_85 : decode cX5_early 85 = .ok (.iload_n 2, 1) := by decide +kernel
theorem dX5_early_86 : decode cX5_early 86 = .ok (.iload_n 3, 1) := by decide +kernel
theorem dX5_early_87 : decode cX5_early 87 = .ok (.iload 6, 2) := by decide +kernel
theorem dX5_early_89 : decode cX5_early 89 = .ok (.iadd, 1) := by decide +kernel
theorem dX5_early_90 : decode cX5_early 90 = .ok (.iload 4, 2) := by decide +kernel
theorem dX5_early_92 : decode cX5_early 92 = .ok (.iadd, 1) := by decide +kernel
theorem dX5_early_93 : decode cX5_early 93 = .ok (.invokevirtual 181, 3) := by decide +kernel
theorem dX5_early_96 : decode cX5_early 96 = .ok (.istore 8, 2) := by decide +kernel
theorem dX5_early_98 : decode cX5_early 98 = .ok (.iload 5, 2) := by decide +kernel
theorem dX5_early_100 : decode cX5_early 100 = .ok (.iload 7, 2) := by decide +kernel
theorem dX5_early_102 : decode cX5_early 102 = .ok (.bipush (-9), 2) := by decide +kernel
theorem dX5_early_104 : decode cX5_early 104 = .ok (.if_icmp .eq 24, 3) := by decide +kernel
theorem dX5_early_107 : decode cX5_early 107 = .ok (.iload 8, 2) := by decide +kernel
theorem dX5_early_109 : decode cX5_early 109 = .ok (.bipush (-9), 2) := by decide +kernel
theorem dX5_early_111 : decode cX5_early 111 = .ok (.if_icmp .eq 17, 3) := by decide +kernel
theorem dX5_early_114 : decode cX5_early 114 = .ok (.iload 8, 2) := by decide +kernel
theorem dX5_early_116 : decode cX5_early 116 = .ok (.iload 7, 2) := by decide +kernel
theorem dX5_early_118 : decode cX5_early 118 = .ok (.if_icmp .ge 10, 3) := by decide +kernel
theorem dX5_early_121 : decode cX5_early 121 = .ok (.iconst 1, 1) := by decide +kernel
theorem dX5_early_122 : decode cX5_early 122 = .ok (.iload 6, 2) := by decide +kernel
theorem dX5_early_124 : decode cX5_early 124 = .ok (.ishl, 1) := by decide +kernel
theorem dX5_early_125 : decode cX5_early 125 = .ok (.goto 4, 3) := by decide +kernel
theorem dX5_early_128 : decode cX5_early 128 = .ok (.iconst 0, 1) := by decide +kernel
theorem dX5_early_129 : decode cX5_early 129 = .ok (.ior, 1) := by decide +kernel
theorem dX5_early_130 : decode cX5_early 130 = .ok (.istore 5, 2) := by decide +kernel
theorem dX5_early_132 : decode cX5_early 132 = .ok (.iinc 6 1, 3) := by decide +kernel
theorem dX5_early_135 : decode cX5_early 135 = .ok (.goto (-86), 3) := by decide +kernel
theorem dX5_early_138 : decode cX5_early 138 = .ok (.iload 5, 2) := by decide +kernel
theorem dX5_early_140 : decode cX5_early 140 = .ok (.ireturn, 1) := by decide +kernel
set_option maxRecDepth 20000 in
theorem ggX5_meets_X5_isTown : GoodIn wsX5_meets wsX5_isTown := goodIn_r _ [6, 7, 8, 9, 5, 10, 50, 51, 52, 53, 54, 55, 56, 57, 58, 59, 60, 61, 62, 63, 64, 65, 66, 67, 68, 69, 70, 71, 72, 73, 74, 75, 76, 77, 78, 79, 80] (by decide +kernel) (by decide +kernel)
set_option maxRecDepth 20000 in
theorem gX5_meets_X5_isTown : GoodIn wsX5_meets (wsV RX5 144 RX5 yX5_isTown wsX5_isTown) := goodIn_app (goodIn_of _ (by decide +kernel)) ggX5_meets_X5_isTown
set_option maxRecDepth 20000 in
theorem ggX5_meets_X5_in : GoodIn wsX5_meets wsX5_in := goodIn_r _ [10] (by decide +kernel) (by decide +kernel)
set_option maxRecDepth 20000 in
theorem gX5_meets_X5_in : GoodIn wsX5_meets (va_wsS RX5 57 yX5_in wsX5_in) := goodIn_app (goodIn_of _ (by decide +kernel)) ggX5_meets_X5_in
set_option maxRecDepth 20000 in
theorem ggX5_meets_X5_farOf : GoodIn wsX5_meets wsX5_farOf := goodIn_r _ [14, 15, 16, 50, 51, 52, 53, 54, 55, 56, 57, 58, 59, 60, 61, 62, 63, 64, 65, 66, 67, 68, 69, 70, 71, 72, 73, 74, 75, 76, 77, 78, 79, 80] (by decide +kernel) (by decide +kernel)
set_option maxRecDepth 20000 in
theorem gX5_meets_X5_farOf : GoodIn wsX5_meets (wsV RX5 151 RX5 yX5_farOf wsX5_farOf) := goodIn_app (goodIn_of _ (by decide +kernel)) ggX5_meets_X5_farOf
set_option maxRecDepth 20000 in
theorem ggX5_meets_X5_clockIn : GoodIn wsX5_meets wsX5_clockIn := goodIn_r _ [20, 21, 22, 23, 5, 24, 25, 26, 27, 28, 29, 30, 31, 32, 33, 34, 35, 36, 37, 38, 39, 40, 41, 11, 12, 13, 14, 15, 16, 42, 43, 44, 45, 46, 47, 48, 49, 50, 51, 52, 53, 54, 55, 56, 57, 58, 59, 60, 61, 62, 63, 64, 65, 66, 67, 68, 69, 70, 71, 72, 73, 74, 75, 76, 77, 78, 79, 80] (by decide +kernel) (by decide +kernel)
set_option maxRecDepth 20000 in
theorem gX5_meets_X5_clockIn : GoodIn wsX5_meets (wsV RX5 181 RX5 yX5_clockIn wsX5_clockIn) := goodIn_app (goodIn_of _ (by decide +kernel)) ggX5_meets_X5_clockIn
theorem dX5_meets_0 : decode cX5_meets 0 = .ok (.aload_n 0, 1) := by decide +kernel
theorem dX5_meets_1 : decode cX5_meets 1 = .ok (.iconst 0, 1) := by decide +kernel
theorem dX5_meets_2 : decode cX5_meets 2 = .ok (.putfield 53, 3) := by decide +kernel
theorem dX5_meets_5 : decode cX5_meets 5 = .ok (.aload_n 0, 1) := by decide +kernel
theorem dX5_meets_6 : decode cX5_meets 6 = .ok (.iload_n 1, 1) := by decide +kernel
theorem dX5_meets_7 : decode cX5_meets 7 = .ok (.invokevirtual 144, 3) := by decide +kernel
theorem dX5_meets_10 : decode cX5_meets 10 = .ok (.ifCond .eq 53, 3) := by decide +kernel
theorem dX5_meets_13 : decode cX5_meets 13 = .ok (.iload_n 2, 1) := by decide +kernel
theorem dX5_meets_14 : decode cX5_meets 14 = .ok (.iconst 0, 1) := by decide +kernel
theorem dX5_meets_15 : decode cX5_meets 15 = .ok (.sipush 900, 3) := by decide +kernel
theorem dX5_meets_18 : decode cX5_meets 18 = .ok (.invokestatic 57, 3) := by decide +kernel
theorem dX5_meets_21 : decode cX5_meets 21 = .ok (.ifCond .eq 42, 3) := by decide +kernel
theorem dX5_meets_24 : decode cX5_meets 24 = .ok (.aload_n 0, 1) := by decide +kernel
theorem dX5_meets_25 : decode cX5_meets 25 = .ok (.iload_n 3, 1) := by decide +kernel
theorem dX5_meets_26 : decode cX5_meets 26 = .ok (.invokevirtual 144, 3) := by decide +kernel
theorem dX5_meets_29 : decode cX5_meets 29 = .ok (.ifCond .eq 34, 3) := by decide +kernel
theorem dX5_meets_32 : decode cX5_meets 32 = .ok (.iload 4, 2) := by decide +kernel
theorem dX5_meets_34 : decode cX5_meets 34 = .ok (.iconst 0, 1) := by decide +kernel
theorem dX5_meets_35 : decode cX5_meets 35 = .ok (.sipush 900, 3) := by decide +kernel
theorem dX5_meets_38 : decode cX5_meets 38 = .ok (.invokestatic 57, 3) := by decide +kernel
theorem dX5_meets_41 : decode cX5_meets 41 = .ok (.ifCond .eq 22, 3) := by decide +kernel
theorem dX5_meets_44 : decode cX5_meets 44 = .ok (.aload_n 0, 1) := by decide +kernel
theorem dX5_meets_45 : decode cX5_meets 45 = .ok (.iload 5, 2) := by decide +kernel
theorem dX5_meets_47 : decode cX5_meets 47 = .ok (.invokevirtual 144, 3) := by decide +kernel
theorem dX5_meets_50 : decode cX5_meets 50 = .ok (.ifCond .eq 13, 3) := by decide +kernel
theorem dX5_meets_53 : decode cX5_meets 53 = .ok (.iload 6, 2) := by decide +kernel
theorem dX5_meets_55 : decode cX5_meets 55 = .ok (.iconst 0, 1) := by decide +kernel
theorem dX5_meets_56 : decode cX5_meets 56 = .ok (.iconst 1, 1) := by decide +kernel
theorem dX5_meets_57 : decode cX5_meets 57 = .ok (.invokestatic 57, 3) := by decide +kernel
theorem dX5_meets_60 : decode cX5_meets 60 = .ok (.ifCond .ne 5, 3) := by decide +kernel
theorem dX5_meets_63 : decode cX5_meets 63 = .ok (.iconst (-1), 1) := by decide +kernel
theorem dX5_meets_64 : decode cX5_meets 64 = .ok (.ireturn, 1) := by decide +kernel
theorem dX5_meets_65 : decode cX5_meets 65 = .ok (.aload_n 0, 1) := by decide +kernel
theorem dX5_meets_66 : decode cX5_meets 66 = .ok (.iload_n 1, 1) := by decide +kernel
theorem dX5_meets_67 : decode cX5_meets 67 = .ok (.iload 5, 2) := by decide +kernel
theorem dX5_meets_69 : decode cX5_meets 69 = .ok (.invokevirtual 151, 3) := by decide +kernel
theorem dX5_meets_72 : decode cX5_meets 72 = .ok (.bipush (-9), 2) := by decide +kernel
theorem dX5_meets_74 : decode cX5_meets 74 = .ok (.if_icmp .eq 15, 3) := by decide +kernel
theorem dX5_meets_77 : decode cX5_meets 77 = .ok (.aload_n 0, 1) := by decide +kernel
theorem dX5_meets_78 : decode cX5_meets 78 = .ok (.iload_n 3, 1) := by decide +kernel
theorem dX5_meets_79 : decode cX5_meets 79 = .ok (.iload 5, 2) := by decide +kernel
theorem dX5_meets_81 : decode cX5_meets 81 = .ok (.invokevirtual 151, 3) := by decide +kernel
theorem dX5_meets_84 : decode cX5_meets 84 = .ok (.bipush (-9), 2) := by decide +kernel
theorem dX5_meets_86 : decode cX5_meets 86 = .ok (.if_icmp .ne 6, 3) := by decide +kernel
theorem dX5_meets_89 : decode cX5_meets 89 = .ok (.bipush (-9), 2) := by decide +kernel
theorem dX5_meets_91 : decode cX5_meets 91 = .ok (.ireturn, 1) := by decide +kernel
theorem dX5_meets_92 : decode cX5_meets 92 = .ok (.iload_n 2, 1) := by decide +kernel
theorem dX5_meets_93 : decode cX5_meets 93 = .ok (.aload_n 0, 1) := by decide +kernel
theorem dX5_meets_94 : decode cX5_meets 94 = .ok (.iload_n 1, 1) := by decide +kernel
theorem dX5_meets_95 : decode cX5_meets 95 = .ok (.iload 5, 2) := by decide +kernel
theorem dX5_meets_97 : decode cX5_meets 97 = .ok (.invokevirtual 151, 3) := by decide +kernel
theorem dX5_meets_100 : decode cX5_meets 100 = .ok (.iadd, 1) := by decide +kernel
theorem dX5_meets_101 : decode cX5_meets 101 = .ok (.istore 7, 2) := by decide +kernel
theorem dX5_meets_103 : decode cX5_meets 103 = .ok (.iload 4, 2) := by decide +kernel
theorem dX5_meets_105 : decode cX5_meets 105 = .ok (.aload_n 0, 1) := by decide +kernel
theorem dX5_meets_106 : decode cX5_meets 106 = .ok (.iload_n 3, 1) := by decide +kernel
theorem dX5_meets_107 : decode cX5_meets 107 = .ok (.iload 5, 2) := by decide +kernel
theorem dX5_meets_109 : decode cX5_meets 109 = .ok (.invokevirtual 151, 3) := by decide +kernel
theorem dX5_meets_112 : decode cX5_meets 112 = .ok (.iadd, 1) := by decide +kernel
theorem dX5_meets_113 : decode cX5_meets 113 = .ok (.istore 8, 2) := by decide +kernel
theorem dX5_meets_115 : decode cX5_meets 115 = .ok (.iload 7, 2) := by decide +kernel
theorem dX5_meets_117 : decode cX5_meets 117 = .ok (.iload 8, 2) := by decide +kernel
theorem dX5_meets_119 : decode cX5_meets 119 = .ok (.if_icmp .le 8, 3) := by decide +kernel
theorem dX5_meets_122 : decode cX5_meets 122 = .ok (.iload 7, 2) := by decide +kernel
theorem dX5_meets_124 : decode cX5_meets 124 = .ok (.goto 5, 3) := by decide +kernel
theorem dX5_meets_127 : decode cX5_meets 127 = .ok (.iload 8, 2) := by decide +kernel
theorem dX5_meets_129 : decode cX5_meets 129 = .ok (.istore 9, 2) := by decide +kernel
theorem dX5_meets_131 : decode cX5_meets 131 = .ok (.iload 6, 2) := by decide +kernel
theorem dX5_meets_133 : decode cX5_meets 133 = .ok (.ifCond .ne 8, 3) := by decide +kernel
theorem dX5_meets_136 : decode cX5_meets 136 = .ok (.iload 9, 2) := by decide +kernel
theorem dX5_meets_138 : decode cX5_meets 138 = .ok (.goto 11, 3) := by decide +kernel
theorem dX5_meets_141 : decode cX5_meets 141 = .ok (.aload_n 0, 1) := by decide +kernel
theorem dX5_meets_142 : decode cX5_meets 142 = .ok (.iload 5, 2) := by decide +kernel
theorem dX5_meets_144 : decode cX5_meets 144 = .ok (.iload 9, 2) := by decide +kernel
theorem dX5_meets_146 : decode cX5_meets 146 = .ok (.invokevirtual 181, 3) := by decide +kernel
theorem dX5_meets_149 : decode cX5_meets 149 = .ok (.ireturn, 1) := by decide +kernel
set_option maxRecDepth 20000 in
theorem ggX5_isSpan_X5_isHour : GoodIn wsX5_isSpan wsX5_isHour := goodIn_r _ [4, 5, 6, 3, 7] (by decide +kernel) (by decide +kernel)
set_option maxRecDepth 20000 in
theorem gX5_isSpan_X5_isHour : GoodIn wsX5_isSpan (va_wsS RX5 169 yX5_isHour wsX5_isHour) := goodIn_app (goodIn_of _ (by decide +kernel)) ggX5_isSpan_X5_isHour
set_option maxRecDepth 20000 in
theorem ggX5_isSpan_X5_in : GoodIn wsX5_isSpan wsX5_in := goodIn_r _ [7] (by decide +kernel) (by decide +kernel)
set_option maxRecDepth 20000 in
theorem gX5_isSpan_X5_in : GoodIn wsX5_isSpan (va_wsS RX5 57 yX5_in wsX5_in) := goodIn_app (goodIn_of _ (by decide +kernel)) ggX5_isSpan_X5_in
theorem dX5_isSpan_0 : decode cX5_isSpan 0 = .ok (.iload_n 1, 1) := by decide +kernel
theorem dX5_isSpan_1 : decode cX5_isSpan 1 = .ok (.invokestatic 169, 3) := by decide +kernel
theorem dX5_isSpan_4 : decode cX5_isSpan 4 = .ok (.ifCond .eq 18, 3) := by decide +kernel
theorem dX5_isSpan_7 : decode cX5_isSpan 7 = .ok (.iload_n 2, 1) := by decide +kernel
theorem dX5_isSpan_8 : decode cX5_isSpan 8 = .ok (.iload_n 1, 1) := by decide +kernel
theorem dX5_isSpan_9 : decode cX5_isSpan 9 = .ok (.sipush 1000, 3) := by decide +kernel
theorem dX5_isSpan_12 : decode cX5_isSpan 12 = .ok (.invokestatic 57, 3) := by decide +kernel
theorem dX5_isSpan_15 : decode cX5_isSpan 15 = .ok (.ifCond .eq 7, 3) := by decide +kernel
theorem dX5_isSpan_18 : decode cX5_isSpan 18 = .ok (.iconst 1, 1) := by decide +kernel
theorem dX5_isSpan_19 : decode cX5_isSpan 19 = .ok (.goto 4, 3) := by decide +kernel
theorem dX5_isSpan_22 : decode cX5_isSpan 22 = .ok (.iconst 0, 1) := by decide +kernel
theorem dX5_isSpan_23 : decode cX5_isSpan 23 = .ok (.ireturn, 1) := by decide +kernel
set_option maxRecDepth 20000 in
theorem ggX5_midnightsIn_X5_clockIn : GoodIn wsX5_midnightsIn wsX5_clockIn := goodIn_r _ [5, 6, 7, 8, 4, 9, 10, 11, 12, 13, 14, 15, 16, 17, 18, 19, 20, 21, 22, 23, 24, 25, 26, 27, 28, 29, 30, 31, 32, 33, 34, 35, 36, 37, 38, 39, 40, 41, 42, 43, 44, 45, 46, 47, 48, 49, 50, 51, 52, 53, 54, 55, 56, 57, 58, 59, 60, 61, 62, 63, 64, 65, 66, 67, 68, 69, 70, 71] (by decide +kernel) (by decide +kernel)
set_option maxRecDepth 20000 in
theorem gX5_midnightsIn_X5_clockIn : GoodIn wsX5_midnightsIn (wsV RX5 181 RX5 yX5_clockIn wsX5_clockIn) := goodIn_app (goodIn_of _ (by decide +kernel)) ggX5_midnightsIn_X5_clockIn
theorem dX5_midnightsIn_0 : decode cX5_midnightsIn 0 = .ok (.iconst 0, 1) := by decide +kernel
theorem dX5_midnightsIn_1 : decode cX5_midnightsIn 1 = .ok (.istore 4, 2) := by decide +kernel
theorem dX5_midnightsIn_3 : decode cX5_midnightsIn 3 = .ok (.iload_n 2, 1) := by decide +kernel
theorem dX5_midnightsIn_4 : decode cX5_midnightsIn 4 = .ok (.istore 5, 2) := by decide +kernel
theorem dX5_midnightsIn_6 : decode cX5_midnightsIn 6 = .ok (.iload 5, 2) := by decide +kernel
theorem dX5_midnightsIn_8 : decode cX5_midnightsIn 8 = .ok (.iload_n 3, 1) := by decide +kernel
theorem dX5_midnightsIn_9 : decode cX5_midnightsIn 9 = .ok (.if_icmp .ge 46, 3) := by decide +kernel
theorem dX5_midnightsIn_12 : decode cX5_midnightsIn 12 = .ok (.iload 4, 2) := by decide +kernel
theorem dX5_midnightsIn_14 : decode cX5_midnightsIn 14 = .ok (.aload_n 0, 1) := by decide +kernel
theorem dX5_midnightsIn_15 : decode cX5_midnightsIn 15 = .ok (.iload_n 1, 1) := by decide +kernel
theorem dX5_midnightsIn_16 : decode cX5_midnightsIn 16 = .ok (.iload 5, 2) := by decide +kernel
theorem dX5_midnightsIn_18 : decode cX5_midnightsIn 18 = .ok (.invokevirtual 181, 3) := by decide +kernel
theorem dX5_midnightsIn_21 : decode cX5_midnightsIn 21 = .ok (.ifCond .ne 24, 3) := by decide +kernel
theorem dX5_midnightsIn_24 : decode cX5_midnightsIn 24 = .ok (.iload 5, 2) := by decide +kernel
theorem dX5_midnightsIn_26 : decode cX5_midnightsIn 26 = .ok (.ifCond .eq 15, 3) := by decide +kernel
theorem dX5_midnightsIn_29 : decode cX5_midnightsIn 29 = .ok (.aload_n 0, 1) := by decide +kernel
theorem dX5_midnightsIn_30 : decode cX5_midnightsIn 30 = .ok (.iload_n 1, 1) := by decide +kernel
theorem dX5_midnightsIn_31 : decode cX5_midnightsIn 31 = .ok (.iload 5, 2) := by decide +kernel
theorem dX5_midnightsIn_33 : decode cX5_midnightsIn 33 = .ok (.iconst 1, 1) := by decide +kernel
theorem dX5_midnightsIn_34 : decode cX5_midnightsIn 34 = .ok (.isub, 1) := by decide +kernel
theorem dX5_midnightsIn_35 : decode cX5_midnightsIn 35 = .ok (.invokevirtual 181, 3) := by decide +kernel
theorem dX5_midnightsIn_38 : decode cX5_midnightsIn 38 = .ok (.ifCond .eq 7, 3) := by decide +kernel
theorem dX5_midnightsIn_41 : decode cX5_midnightsIn 41 = .ok (.iconst 1, 1) := by decide +kernel
theorem dX5_midnightsIn_42 : decode cX5_midnightsIn 42 = .ok (.goto 4, 3) := by decide +kernel
theorem dX5_midnightsIn_45 : decode cX5_midnightsIn 45 = .ok (.iconst 0, 1) := by decide +kernel
theorem dX5_midnightsIn_46 : decode cX5_midnightsIn 46 = .ok (.iadd, 1) := by decide +kernel
theorem dX5_midnightsIn_47 : decode cX5_midnightsIn 47 = .ok (.istore 4, 2) := by decide +kernel
theorem dX5_midnightsIn_49 : decode cX5_midnightsIn 49 = .ok (.iinc 5 1, 3) := by decide +kernel
theorem dX5_midnightsIn_52 : decode cX5_midnightsIn 52 = .ok (.goto (-46), 3) := by decide +kernel
theorem dX5_midnightsIn_55 : decode cX5_midnightsIn 55 = .ok (.iload 4, 2) := by decide +kernel
theorem dX5_midnightsIn_57 : decode cX5_midnightsIn 57 = .ok (.ireturn, 1) := by decide +kernel
set_option maxRecDepth 20000 in
theorem ggX5_midnights_X5_isTown : GoodIn wsX5_midnights wsX5_isTown := goodIn_r _ [6, 7, 8, 9, 5, 10, 61, 62, 63, 64, 65, 66, 67, 68, 69, 70, 71, 72, 73, 74, 75, 76, 77, 78, 79, 80, 81, 82, 83, 84, 85, 86, 87, 88, 89, 90, 91] (by decide +kernel) (by decide +kernel)
set_option maxRecDepth 20000 in
theorem gX5_midnights_X5_isTown : GoodIn wsX5_midnights (wsV RX5 144 RX5 yX5_isTown wsX5_isTown) := goodIn_app (goodIn_of _ (by decide +kernel)) ggX5_midnights_X5_isTown
set_option maxRecDepth 20000 in
theorem ggX5_midnights_X5_isSpan : GoodIn wsX5_midnights wsX5_isSpan := goodIn_r _ [14, 15, 16, 5, 17, 8, 9, 10] (by decide +kernel) (by decide +kernel)
set_option maxRecDepth 20000 in
theorem gX5_midnights_X5_isSpan : GoodIn wsX5_midnights (wsV RX5 184 RX5 yX5_isSpan wsX5_isSpan) := goodIn_app (goodIn_of _ (by decide +kernel)) ggX5_midnights_X5_isSpan
set_option maxRecDepth 20000 in
theorem ggX5_midnights_X5_midnightsIn : GoodIn wsX5_midnights wsX5_midnightsIn := goodIn_r _ [21, 22, 23, 24, 5, 25, 26, 27, 28, 29, 30, 31, 32, 33, 34, 35, 36, 37, 38, 39, 40, 41, 42, 43, 44, 45, 46, 47, 48, 49, 50, 51, 52, 53, 54, 55, 56, 57, 58, 59, 60, 61, 62, 63, 64, 65, 66, 67, 68, 69, 70, 71, 72, 73, 74, 75, 76, 77, 78, 79, 80, 81, 82, 83, 84, 85, 86, 87, 88, 89, 90, 91] (by decide +kernel) (by decide +kernel)
set_option maxRecDepth 20000 in
theorem gX5_midnights_X5_midnightsIn : GoodIn wsX5_midnights (wsV RX5 188 RX5 yX5_midnightsIn wsX5_midnightsIn) := goodIn_app (goodIn_of _ (by decide +kernel)) ggX5_midnights_X5_midnightsIn
theorem dX5_midnights_0 : decode cX5_midnights 0 = .ok (.aload_n 0, 1) := by decide +kernel
theorem dX5_midnights_1 : decode cX5_midnights 1 = .ok (.iconst 0, 1) := by decide +kernel
theorem dX5_midnights_2 : decode cX5_midnights 2 = .ok (.putfield 53, 3) := by decide +kernel
theorem dX5_midnights_5 : decode cX5_midnights 5 = .ok (.aload_n 0, 1) := by decide +kernel
theorem dX5_midnights_6 : decode cX5_midnights 6 = .ok (.iload_n 1, 1) := by decide +kernel
theorem dX5_midnights_7 : decode cX5_midnights 7 = .ok (.invokevirtual 144, 3) := by decide +kernel
theorem dX5_midnights_10 : decode cX5_midnights 10 = .ok (.ifCond .eq 22, 3) := by decide +kernel
theorem dX5_midnights_13 : decode cX5_midnights 13 = .ok (.aload_n 0, 1) := by decide +kernel
theorem dX5_midnights_14 : decode cX5_midnights 14 = .ok (.iload_n 2, 1) := by decide +kernel
theorem dX5_midnights_15 : decode cX5_midnights 15 = .ok (.iload_n 3, 1) := by decide +kernel
theorem dX5_midnights_16 : decode cX5_midnights 16 = .ok (.invokevirtual 184, 3) := by decide +kernel
theorem dX5_midnights_19 : decode cX5_midnights 19 = .ok (.ifCond .eq 13, 3) := by decide +kernel
theorem dX5_midnights_22 : decode cX5_midnights 22 = .ok (.aload_n 0, 1) := by decide +kernel
theorem dX5_midnights_23 : decode cX5_midnights 23 = .ok (.iload_n 1, 1) := by decide +kernel
theorem dX5_midnights_24 : decode cX5_midnights 24 = .ok (.iload_n 2, 1) := by decide +kernel
theorem dX5_midnights_25 : decode cX5_midnights 25 = .ok (.iload_n 3, 1) := by decide +kernel
theorem dX5_midnights_26 : decode cX5_midnights 26 = .ok (.invokevirtual 188, 3) := by decide +kernel
theorem dX5_midnights_29 : decode cX5_midnights 29 = .ok (.goto 4, 3) := by decide +kernel
theorem dX5_midnights_32 : decode cX5_midnights 32 = .ok (.iconst (-1), 1) := by decide +kernel
theorem dX5_midnights_33 : decode cX5_midnights 33 = .ok (.ireturn, 1) := by decide +kernel
set_option maxRecDepth 20000 in
theorem ggX5_gains_X5_isTown : GoodIn wsX5_gains wsX5_isTown := goodIn_r _ [7, 8, 9, 10, 6, 11, 61, 62, 63, 64, 65, 66, 67, 68, 69, 70, 71, 72, 73, 74, 75, 76, 77, 78, 79, 80, 81, 82, 83, 84, 85, 86, 87, 88, 89, 90, 91] (by decide +kernel) (by decide +kernel)
set_option maxRecDepth 20000 in
theorem gX5_gains_X5_isTown : GoodIn wsX5_gains (wsV RX5 144 RX5 yX5_isTown wsX5_isTown) := goodIn_app (goodIn_of _ (by decide +kernel)) ggX5_gains_X5_isTown
set_option maxRecDepth 20000 in
theorem ggX5_gains_X5_isSpan : GoodIn wsX5_gains wsX5_isSpan := goodIn_r _ [15, 16, 17, 6, 18, 9, 10, 11] (by decide +kernel) (by decide +kernel)
set_option maxRecDepth 20000 in
theorem gX5_gains_X5_isSpan : GoodIn wsX5_gains (wsV RX5 184 RX5 yX5_isSpan wsX5_isSpan) := goodIn_app (goodIn_of _ (by decide +kernel)) ggX5_gains_X5_isSpan
set_option maxRecDepth 20000 in
theorem ggX5_gains_X5_in : GoodIn wsX5_gains wsX5_in := goodIn_r _ [11] (by decide +kernel) (by decide +kernel)
set_option maxRecDepth 20000 in
theorem gX5_gains_X5_in : GoodIn wsX5_gains (va_wsS RX5 57 yX5_in wsX5_in) := goodIn_app (goodIn_of _ (by decide +kernel)) ggX5_gains_X5_in
set_option maxRecDepth 20000 in
theorem ggX5_gains_X5_midnightsIn : GoodIn wsX5_gains wsX5_midnightsIn := goodIn_r _ [22, 23, 24, 25, 6, 26, 27, 28, 29, 30, 31, 32, 33, 34, 35, 36, 37, 38, 39, 40, 41, 42, 43, 44, 45, 46, 47, 48, 49, 50, 51, 52, 2, 53, 54, 55, 56, 57, 58, 59, 60, 61, 62, 63, 64, 65, 66, 67, 68, 69, 70, 71, 72, 73, 74, 75, 76, 77, 78, 79, 80, 81, 82, 83, 84, 85, 86, 87, 88, 89, 90, 91] (by decide +kernel) (by decide +kernel)
set_option maxRecDepth 20000 in
theorem gX5_gains_X5_midnightsIn : GoodIn wsX5_gains (wsV RX5 188 RX5 yX5_midnightsIn wsX5_midnightsIn) := goodIn_app (goodIn_of _ (by decide +kernel)) ggX5_gains_X5_midnightsIn
theorem dX5_gains_0 : decode cX5_gains 0 = .ok (.aload_n 0, 1) := by decide +kernel
theorem dX5_gains_1 : decode cX5_gains 1 = .ok (.iconst 0, 1) := by decide +kernel
theorem dX5_gains_2 : decode cX5_gains 2 = .ok (.putfield 53, 3) := by decide +kernel
theorem dX5_gains_5 : decode cX5_gains 5 = .ok (.aload_n 0, 1) := by decide +kernel
theorem dX5_gains_6 : decode cX5_gains 6 = .ok (.iload_n 1, 1) := by decide +kernel
theorem dX5_gains_7 : decode cX5_gains 7 = .ok (.invokevirtual 144, 3) := by decide +kernel
theorem dX5_gains_10 : decode cX5_gains 10 = .ok (.ifCond .eq 43, 3) := by decide +kernel
theorem dX5_gains_13 : decode cX5_gains 13 = .ok (.aload_n 0, 1) := by decide +kernel
theorem dX5_gains_14 : decode cX5_gains 14 = .ok (.iload_n 2, 1) := by decide +kernel
theorem dX5_gains_15 : decode cX5_gains 15 = .ok (.iload_n 3, 1) := by decide +kernel
theorem dX5_gains_16 : decode cX5_gains 16 = .ok (.invokevirtual 184, 3) := by decide +kernel
theorem dX5_gains_19 : decode cX5_gains 19 = .ok (.ifCond .eq 34, 3) := by decide +kernel
theorem dX5_gains_22 : decode cX5_gains 22 = .ok (.iload 4, 2) := by decide +kernel
theorem dX5_gains_24 : decode cX5_gains 24 = .ok (.iconst 1, 1) := by decide +kernel
theorem dX5_gains_25 : decode cX5_gains 25 = .ok (.bipush 99, 2) := by decide +kernel
theorem dX5_gains_27 : decode cX5_gains 27 = .ok (.invokestatic 57, 3) := by decide +kernel
theorem dX5_gains_30 : decode cX5_gains 30 = .ok (.ifCond .eq 23, 3) := by decide +kernel
theorem dX5_gains_33 : decode cX5_gains 33 = .ok (.iload 4, 2) := by decide +kernel
theorem dX5_gains_35 : decode cX5_gains 35 = .ok (.aload_n 0, 1) := by decide +kernel
theorem dX5_gains_36 : decode cX5_gains 36 = .ok (.iload_n 1, 1) := by decide +kernel
theorem dX5_gains_37 : decode cX5_gains 37 = .ok (.iload_n 2, 1) := by decide +kernel
theorem dX5_gains_38 : decode cX5_gains 38 = .ok (.iload_n 3, 1) := by decide +kernel
theorem dX5_gains_39 : decode cX5_gains 39 = .ok (.invokevirtual 188, 3) := by decide +kernel
theorem dX5_gains_42 : decode cX5_gains 42 = .ok (.iload_n 3, 1) := by decide +kernel
theorem dX5_gains_43 : decode cX5_gains 43 = .ok (.iload_n 2, 1) := by decide +kernel
theorem dX5_gains_44 : decode cX5_gains 44 = .ok (.isub, 1) := by decide +kernel
theorem dX5_gains_45 : decode cX5_gains 45 = .ok (.bipush 24, 2) := by decide +kernel
theorem dX5_gains_47 : decode cX5_gains 47 = .ok (.idiv, 1) := by decide +kernel
theorem dX5_gains_48 : decode cX5_gains 48 = .ok (.isub, 1) := by decide +kernel
theorem dX5_gains_49 : decode cX5_gains 49 = .ok (.imul, 1) := by decide +kernel
theorem dX5_gains_50 : decode cX5_gains 50 = .ok (.goto 5, 3) := by decide +kernel
theorem dX5_gains_53 : decode cX5_gains 53 = .ok (.ldc 140, 2) := by decide +kernel
theorem dX5_gains_55 : decode cX5_gains 55 = .ok (.ireturn, 1) := by decide +kernel
set_option maxRecDepth 20000 in
theorem ggX5_worthOf_X5_farOf : GoodIn wsX5_worthOf wsX5_farOf := goodIn_r _ [8, 9, 2, 10, 11, 12, 13, 14, 15, 16, 17, 18, 19, 20, 21, 22, 23, 24, 25, 26, 27, 28, 29, 30, 31, 32, 33, 34, 35, 36, 37, 38, 39, 40] (by decide +kernel) (by decide +kernel)
set_option maxRecDepth 20000 in
theorem gX5_worthOf_X5_farOf : GoodIn wsX5_worthOf (wsV RX5 151 RX5 yX5_farOf wsX5_farOf) := goodIn_app (goodIn_of _ (by decide +kernel)) ggX5_worthOf_X5_farOf
theorem dX5_worthOf_0 : decode cX5_worthOf 0 = .ok (.iconst 0, 1) := by decide +kernel
theorem dX5_worthOf_1 : decode cX5_worthOf 1 = .ok (.istore_n 2, 1) := by decide +kernel
theorem dX5_worthOf_2 : decode cX5_worthOf 2 = .ok (.iconst 0, 1) := by decide +kernel
theorem dX5_worthOf_3 : decode cX5_worthOf 3 = .ok (.istore_n 3, 1) := by decide +kernel
theorem dX5_worthOf_4 : decode cX5_worthOf 4 = .ok (.iconst 0, 1) := by decide +kernel
theorem dX5_worthOf_5 : decode cX5_worthOf 5 = .ok (.istore 4, 2) := by decide +kernel
theorem dX5_worthOf_7 : decode cX5_worthOf 7 = .ok (.iload 4, 2) := by decide +kernel
theorem dX5_worthOf_9 : decode cX5_worthOf 9 = .ok (.iload_n 1, 1) := by decide +kernel
theorem dX5_worthOf_10 : decode cX5_worthOf 10 = .ok (.if_icmp .ge 109, 3) := by decide +kernel
theorem dX5_worthOf_13 : decode cX5_worthOf 13 = .ok (.aload_n 0, 1) := by decide +kernel
theorem dX5_worthOf_14 : decode cX5_worthOf 14 = .ok (.getfield 44, 3) := by decide +kernel
theorem dX5_worthOf_17 : decode cX5_worthOf 17 = .ok (.iload 4, 2) := by decide +kernel
theorem dX5_worthOf_19 : decode cX5_worthOf 19 = .ok (.iconst 1, 1) := by decide +kernel
theorem dX5_worthOf_20 : decode cX5_worthOf 20 = .ok (.iadd, 1) := by decide +kernel
theorem dX5_worthOf_21 : decode cX5_worthOf 21 = .ok (.iload_n 1, 1) := by decide +kernel
theorem dX5_worthOf_22 : decode cX5_worthOf 22 = .ok (.if_icmp .ne 7, 3) := by decide +kernel
theorem dX5_worthOf_25 : decode cX5_worthOf 25 = .ok (.iconst 0, 1) := by decide +kernel
theorem dX5_worthOf_26 : decode cX5_worthOf 26 = .ok (.goto 7, 3) := by decide +kernel
theorem dX5_worthOf_29 : decode cX5_worthOf 29 = .ok (.iload 4, 2) := by decide +kernel
theorem dX5_worthOf_31 : decode cX5_worthOf 31 = .ok (.iconst 1, 1) := by decide +kernel
theorem dX5_worthOf_32 : decode cX5_worthOf 32 = .ok (.iadd, 1) := by decide +kernel
theorem dX5_worthOf_33 : decode cX5_worthOf 33 = .ok (.iaload, 1) := by decide +kernel
theorem dX5_worthOf_34 : decode cX5_worthOf 34 = .ok (.istore 5, 2) := by decide +kernel
theorem dX5_worthOf_36 : decode cX5_worthOf 36 = .ok (.iload_n 3, 1) := by decide +kernel
theorem dX5_worthOf_37 : decode cX5_worthOf 37 = .ok (.aload_n 0, 1) := by decide +kernel
theorem dX5_worthOf_38 : decode cX5_worthOf 38 = .ok (.getfield 44, 3) := by decide +kernel
theorem dX5_worthOf_41 : decode cX5_worthOf 41 = .ok (.iload 4, 2) := by decide +kernel
theorem dX5_worthOf_43 : decode cX5_worthOf 43 = .ok (.iaload, 1) := by decide +kernel
theorem dX5_worthOf_44 : decode cX5_worthOf 44 = .ok (.ishr, 1) := by decide +kernel
theorem dX5_worthOf_45 : decode cX5_worthOf 45 = .ok (.iconst 1, 1) := by decide +kernel
theorem dX5_worthOf_46 : decode cX5_worthOf 46 = .ok (.iand, 1) := by decide +kernel
theorem dX5_worthOf_47 : decode cX5_worthOf 47 = .ok (.iconst 1, 1) := by decide +kernel
theorem dX5_worthOf_48 : decode cX5_worthOf 48 = .ok (.if_icmp .eq 21, 3) := by decide +kernel
theorem dX5_worthOf_51 : decode cX5_worthOf 51 = .ok (.aload_n 0, 1) := by decide +kernel
theorem dX5_worthOf_52 : decode cX5_worthOf 52 = .ok (.aload_n 0, 1) := by decide +kernel
theorem dX5_worthOf_53 : decode cX5_worthOf 53 = .ok (.getfield 44, 3) := by decide +kernel
theorem dX5_worthOf_56 : decode cX5_worthOf 56 = .ok (.iload 4, 2) := by decide +kernel
theorem dX5_worthOf_58 : decode cX5_worthOf 58 = .ok (.iaload, 1) := by decide +kernel
theorem dX5_worthOf_59 : decode cX5_worthOf 59 = .ok (.iload 5, 2) := by decide +kernel
theorem dX5_worthOf_61 : decode cX5_worthOf 61 = .ok (.invokevirtual 151, 3) := by decide +kernel
theorem dX5_worthOf_64 : decode cX5_worthOf 64 = .ok (.bipush (-9), 2) := by decide +kernel
theorem dX5_worthOf_66 : decode cX5_worthOf 66 = .ok (.if_icmp .ne 6, 3) := by decide +kernel
theorem dX5_worthOf_69 : decode cX5_worthOf 69 = .ok (.ldc 140, 2) := by decide +kernel
theorem dX5_worthOf_71 : decode cX5_worthOf 71 = .ok (.ireturn, 1) := by decide +kernel
theorem dX5_worthOf_72 : decode cX5_worthOf 72 = .ok (.iload_n 3, 1) := by decide +kernel
theorem dX5_worthOf_73 : decode cX5_worthOf 73 = .ok (.iconst 1, 1) := by decide +kernel
theorem dX5_worthOf_74 : decode cX5_worthOf 74 = .ok (.aload_n 0, 1) := by decide +kernel
theorem dX5_worthOf_75 : decode cX5_worthOf 75 = .ok (.getfield 44, 3) := by decide +kernel
theorem dX5_worthOf_78 : decode cX5_worthOf 78 = .ok (.iload 4, 2) := by decide +kernel
theorem dX5_worthOf_80 : decode cX5_worthOf 80 = .ok (.iaload, 1) := by decide +kernel
theorem dX5_worthOf_81 : decode cX5_worthOf 81 = .ok (.ishl, 1) := by decide +kernel
theorem dX5_worthOf_82 : decode cX5_worthOf 82 = .ok (.ior, 1) := by decide +kernel
theorem dX5_worthOf_83 : decode cX5_worthOf 83 = .ok (.istore_n 3, 1) := by decide +kernel
theorem dX5_worthOf_84 : decode cX5_worthOf 84 = .ok (.iload_n 2, 1) := by decide +kernel
theorem dX5_worthOf_85 : decode cX5_worthOf 85 = .ok (.aload_n 0, 1) := by decide +kernel
theorem dX5_worthOf_86 : decode cX5_worthOf 86 = .ok (.getfield 13, 3) := by decide +kernel
theorem dX5_worthOf_89 : decode cX5_worthOf 89 = .ok (.aload_n 0, 1) := by decide +kernel
theorem dX5_worthOf_90 : decode cX5_worthOf 90 = .ok (.getfield 44, 3) := by decide +kernel
theorem dX5_worthOf_93 : decode cX5_worthOf 93 = .ok (.iload 4, 2) := by decide +kernel
theorem dX5_worthOf_95 : decode cX5_worthOf 95 = .ok (.iaload, 1) := by decide +kernel
theorem dX5_worthOf_96 : decode cX5_worthOf 96 = .ok (.iaload, 1) := by decide +kernel
theorem dX5_worthOf_97 : decode cX5_worthOf 97 = .ok (.aload_n 0, 1) := by decide +kernel
theorem dX5_worthOf_98 : decode cX5_worthOf 98 = .ok (.aload_n 0, 1) := by decide +kernel
theorem dX5_worthOf_99 : decode cX5_worthOf 99 = .ok (.getfield 44, 3) := by decide +kernel
theorem dX5_worthOf_102 : decode cX5_worthOf 102 = .ok (.iload 4, 2) := by decide +kernel
theorem dX5_worthOf_104 : decode cX5_worthOf 104 = .ok (.iaload, 1) := by decide +kernel
theorem dX5_worthOf_105 : decode cX5_worthOf 105 = .ok (.iload 5, 2) := by decide +kernel
theorem dX5_worthOf_107 : decode cX5_worthOf 107 = .ok (.invokevirtual 151, 3) := by decide +kernel
theorem dX5_worthOf_110 : decode cX5_worthOf 110 = .ok (.isub, 1) := by decide +kernel
theorem dX5_worthOf_111 : decode cX5_worthOf 111 = .ok (.iadd, 1) := by decide +kernel
theorem dX5_worthOf_112 : decode cX5_worthOf 112 = .ok (.istore_n 2, 1) := by decide +kernel
theorem dX5_worthOf_113 : decode cX5_worthOf 113 = .ok (.iinc 4 1, 3) := by decide +kernel
theorem dX5_worthOf_116 : decode cX5_worthOf 116 = .ok (.goto (-109), 3) := by decide +kernel
theorem dX5_worthOf_119 : decode cX5_worthOf 119 = .ok (.iload_n 2, 1) := by decide +kernel
theorem dX5_worthOf_120 : decode cX5_worthOf 120 = .ok (.ireturn, 1) := by decide +kernel
set_option maxRecDepth 20000 in
theorem ggX5_best_X5_isTown : GoodIn wsX5_best wsX5_isTown := goodIn_r _ [10, 3, 11, 12, 9, 13, 24, 25, 26, 27, 28, 29, 30, 31, 32, 33, 34, 35, 36, 37, 38, 39, 40, 41, 42, 43, 44, 45, 46, 47, 48, 49, 50, 51, 52, 53, 54] (by decide +kernel) (by decide +kernel)
set_option maxRecDepth 20000 in
theorem gX5_best_X5_isTown : GoodIn wsX5_best (wsV RX5 144 RX5 yX5_isTown wsX5_isTown) := goodIn_app (goodIn_of _ (by decide +kernel)) ggX5_best_X5_isTown
set_option maxRecDepth 20000 in
theorem ggX5_best_X5_in : GoodIn wsX5_best wsX5_in := goodIn_r _ [13] (by decide +kernel) (by decide +kernel)
set_option maxRecDepth 20000 in
theorem gX5_best_X5_in : GoodIn wsX5_best (va_wsS RX5 57 yX5_in wsX5_in) := goodIn_app (goodIn_of _ (by decide +kernel)) ggX5_best_X5_in
set_option maxRecDepth 20000 in
theorem ggX5_best_X5_worthOf : GoodIn wsX5_best wsX5_worthOf := goodIn_r _ [17, 4, 2, 18, 19, 20, 21, 9, 22, 23, 24, 25, 26, 27, 28, 29, 30, 31, 32, 33, 34, 35, 36, 37, 38, 39, 40, 41, 42, 43, 44, 45, 46, 47, 48, 49, 50, 51, 52, 53, 54] (by decide +kernel) (by decide +kernel)
set_option maxRecDepth 20000 in
theorem gX5_best_X5_worthOf : GoodIn wsX5_best (wsV RX5 192 RX5 yX5_worthOf wsX5_worthOf) := goodIn_app (goodIn_of _ (by decide +kernel)) ggX5_best_X5_worthOf
theorem dX5_best_0 : decode cX5_best 0 = .ok (.aload_n 0, 1) := by decide +kernel
theorem dX5_best_1 : decode cX5_best 1 = .ok (.iconst 0, 1) := by decide +kernel
theorem dX5_best_2 : decode cX5_best 2 = .ok (.putfield 53, 3) := by decide +kernel
theorem dX5_best_5 : decode cX5_best 5 = .ok (.aload_n 0, 1) := by decide +kernel
theorem dX5_best_6 : decode cX5_best 6 = .ok (.iload_n 1, 1) := by decide +kernel
theorem dX5_best_7 : decode cX5_best 7 = .ok (.invokevirtual 144, 3) := by decide +kernel
theorem dX5_best_10 : decode cX5_best 10 = .ok (.ifCond .eq 12, 3) := by decide +kernel
theorem dX5_best_13 : decode cX5_best 13 = .ok (.iload_n 2, 1) := by decide +kernel
theorem dX5_best_14 : decode cX5_best 14 = .ok (.iconst (-1), 1) := by decide +kernel
theorem dX5_best_15 : decode cX5_best 15 = .ok (.iconst 5, 1) := by decide +kernel
theorem dX5_best_16 : decode cX5_best 16 = .ok (.invokestatic 57, 3) := by decide +kernel
theorem dX5_best_19 : decode cX5_best 19 = .ok (.ifCond .ne 6, 3) := by decide +kernel
theorem dX5_best_22 : decode cX5_best 22 = .ok (.ldc 140, 2) := by decide +kernel
theorem dX5_best_24 : decode cX5_best 24 = .ok (.ireturn, 1) := by decide +kernel
theorem dX5_best_25 : decode cX5_best 25 = .ok (.iconst 1, 1) := by decide +kernel
theorem dX5_best_26 : decode cX5_best 26 = .ok (.istore_n 3, 1) := by decide +kernel
theorem dX5_best_27 : decode cX5_best 27 = .ok (.iconst 0, 1) := by decide +kernel
theorem dX5_best_28 : decode cX5_best 28 = .ok (.istore 4, 2) := by decide +kernel
theorem dX5_best_30 : decode cX5_best 30 = .ok (.iload 4, 2) := by decide +kernel
theorem dX5_best_32 : decode cX5_best 32 = .ok (.iconst 5, 1) := by decide +kernel
theorem dX5_best_33 : decode cX5_best 33 = .ok (.if_icmp .ge 18, 3) := by decide +kernel
theorem dX5_best_36 : decode cX5_best 36 = .ok (.iload_n 3, 1) := by decide +kernel
theorem dX5_best_37 : decode cX5_best 37 = .ok (.aload_n 0, 1) := by decide +kernel
theorem dX5_best_38 : decode cX5_best 38 = .ok (.getfield 131, 3) := by decide +kernel
theorem dX5_best_41 : decode cX5_best 41 = .ok (.iconst 1, 1) := by decide +kernel
theorem dX5_best_42 : decode cX5_best 42 = .ok (.iadd, 1) := by decide +kernel
theorem dX5_best_43 : decode cX5_best 43 = .ok (.imul, 1) := by decide +kernel
theorem dX5_best_44 : decode cX5_best 44 = .ok (.istore_n 3, 1) := by decide +kernel
theorem dX5_best_45 : decode cX5_best 45 = .ok (.iinc 4 1, 3) := by decide +kernel
theorem dX5_best_48 : decode cX5_best 48 = .ok (.goto (-18), 3) := by decide +kernel
theorem dX5_best_51 : decode cX5_best 51 = .ok (.ldc 140, 2) := by decide +kernel
theorem dX5_best_53 : decode cX5_best 53 = .ok (.istore 4, 2) := by decide +kernel
theorem dX5_best_55 : decode cX5_best 55 = .ok (.aload_n 0, 1) := by decide +kernel
theorem dX5_best_56 : decode cX5_best 56 = .ok (.getfield 44, 3) := by decide +kernel
theorem dX5_best_59 : decode cX5_best 59 = .ok (.iconst 0, 1) := by decide +kernel
theorem dX5_best_60 : decode cX5_best 60 = .ok (.iload_n 1, 1) := by decide +kernel
theorem dX5_best_61 : decode cX5_best 61 = .ok (.iastore, 1) := by decide +kernel
theorem dX5_best_62 : decode cX5_best 62 = .ok (.iconst 0, 1) := by decide +kernel
theorem dX5_best_63 : decode cX5_best 63 = .ok (.istore 5, 2) := by decide +kernel
theorem dX5_best_65 : decode cX5_best 65 = .ok (.iload 5, 2) := by decide +kernel
theorem dX5_best_67 : decode cX5_best 67 = .ok (.iload_n 3, 1) := by decide +kernel
theorem dX5_best_68 : decode cX5_best 68 = .ok (.if_icmp .ge 198, 3) := by decide +kernel
theorem dX5_best_71 : decode cX5_best 71 = .ok (.iload 5, 2) := by decide +kernel
theorem dX5_best_73 : decode cX5_best 73 = .ok (.istore 6, 2) := by decide +kernel
theorem dX5_best_75 : decode cX5_best 75 = .ok (.iconst 1, 1) := by decide +kernel
theorem dX5_best_76 : decode cX5_best 76 = .ok (.istore 7, 2) := by decide +kernel
theorem dX5_best_78 : decode cX5_best 78 = .ok (.iconst 1, 1) := by decide +kernel
theorem dX5_best_79 : decode cX5_best 79 = .ok (.istore 8, 2) := by decide +kernel
theorem dX5_best_81 : decode cX5_best 81 = .ok (.iconst 5, 1) := by decide +kernel
theorem dX5_best_82 : decode cX5_best 82 = .ok (.istore 9, 2) := by decide +kernel
theorem dX5_best_84 : decode cX5_best 84 = .ok (.iload 9, 2) := by decide +kernel
theorem dX5_best_86 : decode cX5_best 86 = .ok (.ifCond .le 38, 3) := by decide +kernel
theorem dX5_best_89 : decode cX5_best 89 = .ok (.aload_n 0, 1) := by decide +kernel
theorem dX5_best_90 : decode cX5_best 90 = .ok (.getfield 44, 3) := by decide +kernel
theorem dX5_best_93 : decode cX5_best 93 = .ok (.iload 9, 2) := by decide +kernel
theorem dX5_best_95 : decode cX5_best 95 = .ok (.iload 6, 2) := by decide +kernel
theorem dX5_best_97 : decode cX5_best 97 = .ok (.aload_n 0, 1) := by decide +kernel
theorem dX5_best_98 : decode cX5_best 98 = .ok (.getfield 131, 3) := by decide +kernel
theorem dX5_best_101 : decode cX5_best 101 = .ok (.iconst 1, 1) := by decide +kernel
theorem dX5_best_102 : decode cX5_best 102 = .ok (.iadd, 1) := by decide +kernel
theorem dX5_best_103 : decode cX5_best 103 = .ok (.irem, 1) := by decide +kernel
theorem dX5_best_104 : decode cX5_best 104 = .ok (.iconst 1, 1) := by decide +kernel
theorem dX5_best_105 : decode cX5_best 105 = .ok (.isub, 1) := by decide +kernel
theorem dX5_best_106 : decode cX5_best 106 = .ok (.iastore, 1) := by decide +kernel
theorem dX5_best_107 : decode cX5_best 107 = .ok (.iload 6, 2) := by decide +kernel
theorem dX5_best_109 : decode cX5_best 109 = .ok (.aload_n 0, 1) := by decide +kernel
theorem dX5_best_110 : decode cX5_best 110 = .ok (.getfield 131, 3) := by decide +kernel
theorem dX5_best_113 : decode cX5_best 113 = .ok (.iconst 1, 1) := by decide +kernel
theorem dX5_best_114 : decode cX5_best 114 = .ok (.iadd, 1) := by decide +kernel
theorem dX5_best_115 : decode cX5_best 115 = .ok (.idiv, 1) := by decide +kernel
theorem dX5_best_116 : decode cX5_best 116 = .ok (.istore 6, 2) := by decide +kernel
theorem dX5_best_118 : decode cX5_best 118 = .ok (.iinc 9 (-1), 3) := by decide +kernel
theorem dX5_best_121 : decode cX5_best 121 = .ok (.goto (-37), 3) := by decide +kernel
theorem dX5_best_124 : decode cX5_best 124 = .ok (.iconst 1, 1) := by decide +kernel
theorem dX5_best_125 : decode cX5_best 125 = .ok (.istore 9, 2) := by decide +kernel
theorem dX5_best_127 : decode cX5_best 127 = .ok (.iload 9, 2) := by decide +kernel
theorem dX5_best_129 : decode cX5_best 129 = .ok (.bipush 6, 2) := by decide +kernel
theorem dX5_best_131 : decode cX5_best 131 = .ok (.if_icmp .ge 58, 3) := by decide +kernel
theorem dX5_best_134 : decode cX5_best 134 = .ok (.iload 8, 2) := by decide +kernel
theorem dX5_best_136 : decode cX5_best 136 = .ok (.ifCond .eq 24, 3) := by decide +kernel
theorem dX5_best_139 : decode cX5_best 139 = .ok (.aload_n 0, 1) := by decide +kernel
theorem dX5_best_140 : decode cX5_best 140 = .ok (.getfield 44, 3) := by decide +kernel
theorem dX5_best_143 : decode cX5_best 143 = .ok (.iload 9, 2) := by decide +kernel
theorem dX5_best_145 : decode cX5_best 145 = .ok (.iaload, 1) := by decide +kernel
theorem dX5_best_146 : decode cX5_best 146 = .ok (.ifCond .lt 10, 3) := by decide +kernel
theorem dX5_best_149 : decode cX5_best 149 = .ok (.iload 7, 2) := by decide +kernel
theorem dX5_best_151 : decode cX5_best 151 = .ok (.iload 9, 2) := by decide +kernel
theorem dX5_best_153 : decode cX5_best 153 = .ok (.if_icmp .ne 7, 3) := by decide +kernel
theorem dX5_best_156 : decode cX5_best 156 = .ok (.iconst 1, 1) := by decide +kernel
theorem dX5_best_157 : decode cX5_best 157 = .ok (.goto 4, 3) := by decide +kernel
theorem dX5_best_160 : decode cX5_best 160 = .ok (.iconst 0, 1) := by decide +kernel
theorem dX5_best_161 : decode cX5_best 161 = .ok (.istore 8, 2) := by decide +kernel
theorem dX5_best_163 : decode cX5_best 163 = .ok (.iload 7, 2) := by decide +kernel
theorem dX5_best_165 : decode cX5_best 165 = .ok (.aload_n 0, 1) := by decide +kernel
theorem dX5_best_166 : decode cX5_best 166 = .ok (.getfield 44, 3) := by decide +kernel
theorem dX5_best_169 : decode cX5_best 169 = .ok (.iload 9, 2) := by decide +kernel
theorem dX5_best_171 : decode cX5_best 171 = .ok (.iaload, 1) := by decide +kernel
theorem dX5_best_172 : decode cX5_best 172 = .ok (.ifCond .lt 7, 3) := by decide +kernel
theorem dX5_best_175 : decode cX5_best 175 = .ok (.iconst 1, 1) := by decide +kernel
theorem dX5_best_176 : decode cX5_best 176 = .ok (.goto 4, 3) := by decide +kernel
theorem dX5_best_179 : decode cX5_best 179 = .ok (.iconst 0, 1) := by decide +kernel
theorem dX5_best_180 : decode cX5_best 180 = .ok (.iadd, 1) := by decide +kernel
theorem dX5_best_181 : decode cX5_best 181 = .ok (.istore 7, 2) := by decide +kernel
theorem dX5_best_183 : decode cX5_best 183 = .ok (.iinc 9 1, 3) := by decide +kernel
theorem dX5_best_186 : decode cX5_best 186 = .ok (.goto (-59), 3) := by decide +kernel
theorem dX5_best_189 : decode cX5_best 189 = .ok (.iload 8, 2) := by decide +kernel
theorem dX5_best_191 : decode cX5_best 191 = .ok (.ifCond .eq 12, 3) := by decide +kernel
theorem dX5_best_194 : decode cX5_best 194 = .ok (.aload_n 0, 1) := by decide +kernel
theorem dX5_best_195 : decode cX5_best 195 = .ok (.iload 7, 2) := by decide +kernel
theorem dX5_best_197 : decode cX5_best 197 = .ok (.invokevirtual 192, 3) := by decide +kernel
theorem dX5_best_200 : decode cX5_best 200 = .ok (.goto 5, 3) := by decide +kernel
theorem dX5_best_203 : decode cX5_best 203 = .ok (.ldc 140, 2) := by decide +kernel
theorem dX5_best_205 : decode cX5_best 205 = .ok (.istore 9, 2) := by decide +kernel
theorem dX5_best_207 : decode cX5_best 207 = .ok (.iload 9, 2) := by decide +kernel
theorem dX5_best_209 : decode cX5_best 209 = .ok (.iload 4, 2) := by decide +kernel
theorem dX5_best_211 : decode cX5_best 211 = .ok (.if_icmp .le 49, 3) := by decide +kernel
theorem dX5_best_214 : decode cX5_best 214 = .ok (.iload 9, 2) := by decide +kernel
theorem dX5_best_216 : decode cX5_best 216 = .ok (.istore 4, 2) := by decide +kernel
theorem dX5_best_218 : decode cX5_best 218 = .ok (.iconst 0, 1) := by decide +kernel
theorem dX5_best_219 : decode cX5_best 219 = .ok (.istore 10, 2) := by decide +kernel
theorem dX5_best_221 : decode cX5_best 221 = .ok (.iload 10, 2) := by decide +kernel
theorem dX5_best_223 : decode cX5_best 223 = .ok (.bipush 6, 2) := by decide +kernel
theorem dX5_best_225 : decode cX5_best 225 = .ok (.if_icmp .ge 35, 3) := by decide +kernel
theorem dX5_best_228 : decode cX5_best 228 = .ok (.aload_n 0, 1) := by decide +kernel
theorem dX5_best_229 : decode cX5_best 229 = .ok (.getfield 47, 3) := by decide +kernel
theorem dX5_best_232 : decode cX5_best 232 = .ok (.iload 10, 2) := by decide +kernel
theorem dX5_best_234 : decode cX5_best 234 = .ok (.iload 10, 2) := by decide +kernel
theorem dX5_best_236 : decode cX5_best 236 = .ok (.iload 7, 2) := by decide +kernel
theorem dX5_best_238 : decode cX5_best 238 = .ok (.if_icmp .ge 13, 3) := by decide +kernel
theorem dX5_best_241 : decode cX5_best 241 = .ok (.aload_n 0, 1) := by decide +kernel
theorem dX5_best_242 : decode cX5_best 242 = .ok (.getfield 44, 3) := by decide +kernel
theorem dX5_best_245 : decode cX5_best 245 = .ok (.iload 10, 2) := by decide +kernel
theorem dX5_best_247 : decode cX5_best 247 = .ok (.iaload, 1) := by decide +kernel
theorem dX5_best_248 : decode cX5_best 248 = .ok (.goto 5, 3) := by decide +kernel
theorem dX5_best_251 : decode cX5_best 251 = .ok (.bipush (-9), 2) := by decide +kernel
theorem dX5_best_253 : decode cX5_best 253 = .ok (.iastore, 1) := by decide +kernel
theorem dX5_best_254 : decode cX5_best 254 = .ok (.iinc 10 1, 3) := by decide +kernel
theorem dX5_best_257 : decode cX5_best 257 = .ok (.goto (-36), 3) := by decide +kernel
theorem dX5_best_260 : decode cX5_best 260 = .ok (.iinc 5 1, 3) := by decide +kernel
theorem dX5_best_263 : decode cX5_best 263 = .ok (.goto (-198), 3) := by decide +kernel
theorem dX5_best_266 : decode cX5_best 266 = .ok (.iload_n 2, 1) := by decide +kernel
theorem dX5_best_267 : decode cX5_best 267 = .ok (.ifCond .ge 8, 3) := by decide +kernel
theorem dX5_best_270 : decode cX5_best 270 = .ok (.iload 4, 2) := by decide +kernel
theorem dX5_best_272 : decode cX5_best 272 = .ok (.goto 9, 3) := by decide +kernel
theorem dX5_best_275 : decode cX5_best 275 = .ok (.aload_n 0, 1) := by decide +kernel
theorem dX5_best_276 : decode cX5_best 276 = .ok (.getfield 47, 3) := by decide +kernel
theorem dX5_best_279 : decode cX5_best 279 = .ok (.iload_n 2, 1) := by decide +kernel
theorem dX5_best_280 : decode cX5_best 280 = .ok (.iaload, 1) := by decide +kernel
theorem dX5_best_281 : decode cX5_best 281 = .ok (.ireturn, 1) := by decide +kernel
set_option maxRecDepth 20000 in
theorem ggX5_saw_X5_isTown : GoodIn wsX5_saw wsX5_isTown := goodIn_r _ [7, 8, 9, 10, 6, 11, 15, 16, 17, 18, 19, 20, 21, 22, 23, 24, 25, 26, 27, 28, 29, 30, 31, 32, 33, 34, 35, 36, 37, 38, 39, 40, 41, 42, 43, 44, 45] (by decide +kernel) (by decide +kernel)
set_option maxRecDepth 20000 in
theorem gX5_saw_X5_isTown : GoodIn wsX5_saw (wsV RX5 144 RX5 yX5_isTown wsX5_isTown) := goodIn_app (goodIn_of _ (by decide +kernel)) ggX5_saw_X5_isTown
set_option maxRecDepth 20000 in
theorem ggX5_saw_X5_in : GoodIn wsX5_saw wsX5_in := goodIn_r _ [11] (by decide +kernel) (by decide +kernel)
set_option maxRecDepth 20000 in
theorem gX5_saw_X5_in : GoodIn wsX5_saw (va_wsS RX5 57 yX5_in wsX5_in) := goodIn_app (goodIn_of _ (by decide +kernel)) ggX5_saw_X5_in
set_option maxRecDepth 20000 in
theorem ggX5_saw_X5_isHour : GoodIn wsX5_saw wsX5_isHour := goodIn_r _ [14, 9, 10, 6, 11] (by decide +kernel) (by decide +kernel)
set_option maxRecDepth 20000 in
theorem gX5_saw_X5_isHour : GoodIn wsX5_saw (va_wsS RX5 169 yX5_isHour wsX5_isHour) := goodIn_app (goodIn_of _ (by decide +kernel)) ggX5_saw_X5_isHour
theorem dX5_saw_0 : decode cX5_saw 0 = .ok (.aload_n 0, 1) := by decide +kernel
theorem dX5_saw_1 : decode cX5_saw 1 = .ok (.iconst 0, 1) := by decide +kernel
theorem dX5_saw_2 : decode cX5_saw 2 = .ok (.putfield 53, 3) := by decide +kernel
theorem dX5_saw_5 : decode cX5_saw 5 = .ok (.aload_n 0, 1) := by decide +kernel
theorem dX5_saw_6 : decode cX5_saw 6 = .ok (.iload_n 1, 1) := by decide +kernel
theorem dX5_saw_7 : decode cX5_saw 7 = .ok (.invokevirtual 144, 3) := by decide +kernel
theorem dX5_saw_10 : decode cX5_saw 10 = .ok (.ifCond .eq 20, 3) := by decide +kernel
theorem dX5_saw_13 : decode cX5_saw 13 = .ok (.iload_n 2, 1) := by decide +kernel
theorem dX5_saw_14 : decode cX5_saw 14 = .ok (.iconst 0, 1) := by decide +kernel
theorem dX5_saw_15 : decode cX5_saw 15 = .ok (.bipush 23, 2) := by decide +kernel
theorem dX5_saw_17 : decode cX5_saw 17 = .ok (.invokestatic 57, 3) := by decide +kernel
theorem dX5_saw_20 : decode cX5_saw 20 = .ok (.ifCond .eq 10, 3) := by decide +kernel
theorem dX5_saw_23 : decode cX5_saw 23 = .ok (.iload_n 3, 1) := by decide +kernel
theorem dX5_saw_24 : decode cX5_saw 24 = .ok (.invokestatic 169, 3) := by decide +kernel
theorem dX5_saw_27 : decode cX5_saw 27 = .ok (.ifCond .ne 5, 3) := by decide +kernel
theorem dX5_saw_30 : decode cX5_saw 30 = .ok (.iconst (-1), 1) := by decide +kernel
theorem dX5_saw_31 : decode cX5_saw 31 = .ok (.ireturn, 1) := by decide +kernel
theorem dX5_saw_32 : decode cX5_saw 32 = .ok (.aload_n 0, 1) := by decide +kernel
theorem dX5_saw_33 : decode cX5_saw 33 = .ok (.getfield 34, 3) := by decide +kernel
theorem dX5_saw_36 : decode cX5_saw 36 = .ok (.iconst 1, 1) := by decide +kernel
theorem dX5_saw_37 : decode cX5_saw 37 = .ok (.iaload, 1) := by decide +kernel
theorem dX5_saw_38 : decode cX5_saw 38 = .ok (.bipush 8, 2) := by decide +kernel
theorem dX5_saw_40 : decode cX5_saw 40 = .ok (.if_icmp .ne 6, 3) := by decide +kernel
theorem dX5_saw_43 : decode cX5_saw 43 = .ok (.bipush (-3), 2) := by decide +kernel
theorem dX5_saw_45 : decode cX5_saw 45 = .ok (.ireturn, 1) := by decide +kernel
theorem dX5_saw_46 : decode cX5_saw 46 = .ok (.iconst 2, 1) := by decide +kernel
theorem dX5_saw_47 : decode cX5_saw 47 = .ok (.iconst 3, 1) := by decide +kernel
theorem dX5_saw_48 : decode cX5_saw 48 = .ok (.aload_n 0, 1) := by decide +kernel
theorem dX5_saw_49 : decode cX5_saw 49 = .ok (.getfield 34, 3) := by decide +kernel
theorem dX5_saw_52 : decode cX5_saw 52 = .ok (.iconst 1, 1) := by decide +kernel
theorem dX5_saw_53 : decode cX5_saw 53 = .ok (.iaload, 1) := by decide +kernel
theorem dX5_saw_54 : decode cX5_saw 54 = .ok (.imul, 1) := by decide +kernel
theorem dX5_saw_55 : decode cX5_saw 55 = .ok (.iadd, 1) := by decide +kernel
theorem dX5_saw_56 : decode cX5_saw 56 = .ok (.istore 4, 2) := by decide +kernel
theorem dX5_saw_58 : decode cX5_saw 58 = .ok (.aload_n 0, 1) := by decide +kernel
theorem dX5_saw_59 : decode cX5_saw 59 = .ok (.getfield 34, 3) := by decide +kernel
theorem dX5_saw_62 : decode cX5_saw 62 = .ok (.iload 4, 2) := by decide +kernel
theorem dX5_saw_64 : decode cX5_saw 64 = .ok (.iload_n 1, 1) := by decide +kernel
theorem dX5_saw_65 : decode cX5_saw 65 = .ok (.iastore, 1) := by decide +kernel
theorem dX5_saw_66 : decode cX5_saw 66 = .ok (.aload_n 0, 1) := by decide +kernel
theorem dX5_saw_67 : decode cX5_saw 67 = .ok (.getfield 34, 3) := by decide +kernel
theorem dX5_saw_70 : decode cX5_saw 70 = .ok (.iload 4, 2) := by decide +kernel
theorem dX5_saw_72 : decode cX5_saw 72 = .ok (.iconst 1, 1) := by decide +kernel
theorem dX5_saw_73 : decode cX5_saw 73 = .ok (.iadd, 1) := by decide +kernel
theorem dX5_saw_74 : decode cX5_saw 74 = .ok (.iload_n 2, 1) := by decide +kernel
theorem dX5_saw_75 : decode cX5_saw 75 = .ok (.iastore, 1) := by decide +kernel
theorem dX5_saw_76 : decode cX5_saw 76 = .ok (.aload_n 0, 1) := by decide +kernel
theorem dX5_saw_77 : decode cX5_saw 77 = .ok (.getfield 34, 3) := by decide +kernel
theorem dX5_saw_80 : decode cX5_saw 80 = .ok (.iload 4, 2) := by decide +kernel
theorem dX5_saw_82 : decode cX5_saw 82 = .ok (.iconst 2, 1) := by decide +kernel
theorem dX5_saw_83 : decode cX5_saw 83 = .ok (.iadd, 1) := by decide +kernel
theorem dX5_saw_84 : decode cX5_saw 84 = .ok (.iload_n 3, 1) := by decide +kernel
theorem dX5_saw_85 : decode cX5_saw 85 = .ok (.iastore, 1) := by decide +kernel
theorem dX5_saw_86 : decode cX5_saw 86 = .ok (.aload_n 0, 1) := by decide +kernel
theorem dX5_saw_87 : decode cX5_saw 87 = .ok (.getfield 34, 3) := by decide +kernel
theorem dX5_saw_90 : decode cX5_saw 90 = .ok (.iconst 1, 1) := by decide +kernel
theorem dX5_saw_91 : decode cX5_saw 91 = .ok (.dup2, 1) := by decide +kernel
theorem dX5_saw_92 : decode cX5_saw 92 = .ok (.iaload, 1) := by decide +kernel
theorem dX5_saw_93 : decode cX5_saw 93 = .ok (.iconst 1, 1) := by decide +kernel
theorem dX5_saw_94 : decode cX5_saw 94 = .ok (.iadd, 1) := by decide +kernel
theorem dX5_saw_95 : decode cX5_saw 95 = .ok (.iastore, 1) := by decide +kernel
theorem dX5_saw_96 : decode cX5_saw 96 = .ok (.aload_n 0, 1) := by decide +kernel
theorem dX5_saw_97 : decode cX5_saw 97 = .ok (.getfield 34, 3) := by decide +kernel
theorem dX5_saw_100 : decode cX5_saw 100 = .ok (.iconst 1, 1) := by decide +kernel
theorem dX5_saw_101 : decode cX5_saw 101 = .ok (.iaload, 1) := by decide +kernel
theorem dX5_saw_102 : decode cX5_saw 102 = .ok (.ireturn, 1) := by decide +kernel
theorem dX5_forget_0 : decode cX5_forget 0 = .ok (.aload_n 0, 1) := by decide +kernel
theorem dX5_forget_1 : decode cX5_forget 1 = .ok (.iconst 0, 1) := by decide +kernel
theorem dX5_forget_2 : decode cX5_forget 2 = .ok (.putfield 53, 3) := by decide +kernel
theorem dX5_forget_5 : decode cX5_forget 5 = .ok (.aload_n 0, 1) := by decide +kernel
theorem dX5_forget_6 : decode cX5_forget 6 = .ok (.getfield 34, 3) := by decide +kernel
theorem dX5_forget_9 : decode cX5_forget 9 = .ok (.iconst 1, 1) := by decide +kernel
theorem dX5_forget_10 : decode cX5_forget 10 = .ok (.iaload, 1) := by decide +kernel
theorem dX5_forget_11 : decode cX5_forget 11 = .ok (.istore_n 1, 1) := by decide +kernel
theorem dX5_forget_12 : decode cX5_forget 12 = .ok (.aload_n 0, 1) := by decide +kernel
theorem dX5_forget_13 : decode cX5_forget 13 = .ok (.getfield 34, 3) := by decide +kernel
theorem dX5_forget_16 : decode cX5_forget 16 = .ok (.iconst 1, 1) := by decide +kernel
theorem dX5_forget_17 : decode cX5_forget 17 = .ok (.iconst 0, 1) := by decide +kernel
theorem dX5_forget_18 : decode cX5_forget 18 = .ok (.iastore, 1) := by decide +kernel
theorem dX5_forget_19 : decode cX5_forget 19 = .ok (.iload_n 1, 1) := by decide +kernel
theorem dX5_forget_20 : decode cX5_forget 20 = .ok (.ireturn, 1) := by decide +kernel
set_option maxRecDepth 20000 in
theorem ggX5_so_X5_clockIn : GoodIn wsX5_so wsX5_clockIn := goodIn_r _ [7, 8, 9, 10, 6, 11, 12, 13, 14, 15, 16, 17, 18, 19, 20, 21, 22, 23, 24, 25, 26, 27, 28, 29, 30, 31, 32, 33, 34, 35, 36, 37, 38, 39, 40, 41, 42, 43, 44, 45, 46, 47, 48, 49, 50, 51, 52, 53, 54, 55, 56, 57, 58, 59, 60, 61, 62, 63, 64, 65, 66, 67, 68, 69, 70, 71, 72, 73] (by decide +kernel) (by decide +kernel)
set_option maxRecDepth 20000 in
theorem gX5_so_X5_clockIn : GoodIn wsX5_so (wsV RX5 181 RX5 yX5_clockIn wsX5_clockIn) := goodIn_app (goodIn_of _ (by decide +kernel)) ggX5_so_X5_clockIn
theorem dX5_so_0 : decode cX5_so 0 = .ok (.aload_n 0, 1) := by decide +kernel
theorem dX5_so_1 : decode cX5_so 1 = .ok (.iconst 0, 1) := by decide +kernel
theorem dX5_so_2 : decode cX5_so 2 = .ok (.putfield 53, 3) := by decide +kernel
theorem dX5_so_5 : decode cX5_so 5 = .ok (.iconst 0, 1) := by decide +kernel
theorem dX5_so_6 : decode cX5_so 6 = .ok (.istore_n 1, 1) := by decide +kernel
theorem dX5_so_7 : decode cX5_so 7 = .ok (.iconst 0, 1) := by decide +kernel
theorem dX5_so_8 : decode cX5_so 8 = .ok (.istore_n 2, 1) := by decide +kernel
theorem dX5_so_9 : decode cX5_so 9 = .ok (.iload_n 2, 1) := by decide +kernel
theorem dX5_so_10 : decode cX5_so 10 = .ok (.aload_n 0, 1) := by decide +kernel
theorem dX5_so_11 : decode cX5_so 11 = .ok (.getfield 34, 3) := by decide +kernel
theorem dX5_so_14 : decode cX5_so 14 = .ok (.iconst 1, 1) := by decide +kernel
theorem dX5_so_15 : decode cX5_so 15 = .ok (.iaload, 1) := by decide +kernel
theorem dX5_so_16 : decode cX5_so 16 = .ok (.if_icmp .ge 54, 3) := by decide +kernel
theorem dX5_so_19 : decode cX5_so 19 = .ok (.iconst 2, 1) := by decide +kernel
theorem dX5_so_20 : decode cX5_so 20 = .ok (.iconst 3, 1) := by decide +kernel
theorem dX5_so_21 : decode cX5_so 21 = .ok (.iload_n 2, 1) := by decide +kernel
theorem dX5_so_22 : decode cX5_so 22 = .ok (.imul, 1) := by decide +kernel
theorem dX5_so_23 : decode cX5_so 23 = .ok (.iadd, 1) := by decide +kernel
theorem dX5_so_24 : decode cX5_so 24 = .ok (.istore_n 3, 1) := by decide +kernel
theorem dX5_so_25 : decode cX5_so 25 = .ok (.iload_n 1, 1) := by decide +kernel
theorem dX5_so_26 : decode cX5_so 26 = .ok (.aload_n 0, 1) := by decide +kernel
theorem dX5_so_27 : decode cX5_so 27 = .ok (.aload_n 0, 1) := by decide +kernel
theorem dX5_so_28 : decode cX5_so 28 = .ok (.getfield 34, 3) := by decide +kernel
theorem dX5_so_31 : decode cX5_so 31 = .ok (.iload_n 3, 1) := by decide +kernel
theorem dX5_so_32 : decode cX5_so 32 = .ok (.iaload, 1) := by decide +kernel
theorem dX5_so_33 : decode cX5_so 33 = .ok (.aload_n 0, 1) := by decide +kernel
theorem dX5_so_34 : decode cX5_so 34 = .ok (.getfield 34, 3) := by decide +kernel
theorem dX5_so_37 : decode cX5_so 37 = .ok (.iload_n 3, 1) := by decide +kernel
theorem dX5_so_38 : decode cX5_so 38 = .ok (.iconst 2, 1) := by decide +kernel
theorem dX5_so_39 : decode cX5_so 39 = .ok (.iadd, 1) := by decide +kernel
theorem dX5_so_40 : decode cX5_so 40 = .ok (.iaload, 1) := by decide +kernel
theorem dX5_so_41 : decode cX5_so 41 = .ok (.invokevirtual 181, 3) := by decide +kernel
theorem dX5_so_44 : decode cX5_so 44 = .ok (.aload_n 0, 1) := by decide +kernel
theorem dX5_so_45 : decode cX5_so 45 = .ok (.getfield 34, 3) := by decide +kernel
theorem dX5_so_48 : decode cX5_so 48 = .ok (.iload_n 3, 1) := by decide +kernel
theorem dX5_so_49 : decode cX5_so 49 = .ok (.iconst 1, 1) := by decide +kernel
theorem dX5_so_50 : decode cX5_so 50 = .ok (.iadd, 1) := by decide +kernel
theorem dX5_so_51 : decode cX5_so 51 = .ok (.iaload, 1) := by decide +kernel
theorem dX5_so_52 : decode cX5_so 52 = .ok (.if_icmp .ne 9, 3) := by decide +kernel
theorem dX5_so_55 : decode cX5_so 55 = .ok (.iconst 1, 1) := by decide +kernel
theorem dX5_so_56 : decode cX5_so 56 = .ok (.iload_n 2, 1) := by decide +kernel
theorem dX5_so_57 : decode cX5_so 57 = .ok (.ishl, 1) := by decide +kernel
theorem dX5_so_58 : decode cX5_so 58 = .ok (.goto 4, 3) := by decide +kernel
theorem dX5_so_61 : decode cX5_so 61 = .ok (.iconst 0, 1) := by decide +kernel
theorem dX5_so_62 : decode cX5_so 62 = .ok (.ior, 1) := by decide +kernel
theorem dX5_so_63 : decode cX5_so 63 = .ok (.istore_n 1, 1) := by decide +kernel
theorem dX5_so_64 : decode cX5_so 64 = .ok (.iinc 2 1, 3) := by decide +kernel
theorem dX5_so_67 : decode cX5_so 67 = .ok (.goto (-58), 3) := by decide +kernel
theorem dX5_so_70 : decode cX5_so 70 = .ok (.iload_n 1, 1) := by decide +kernel
theorem dX5_so_71 : decode cX5_so 71 = .ok (.ireturn, 1) := by decide +kernel
set_option maxRecDepth 20000 in
theorem ggX5_isSoAt_X5_farOf : GoodIn wsX5_isSoAt wsX5_farOf := goodIn_r _ [7, 8, 9, 17, 18, 19, 20, 21, 22, 23, 24, 25, 26, 27, 28, 29, 30, 31, 32, 33, 34, 35, 36, 37, 38, 39, 40, 41, 42, 43, 44, 45, 46, 47] (by decide +kernel) (by decide +kernel)
set_option maxRecDepth 20000 in
theorem gX5_isSoAt_X5_farOf : GoodIn wsX5_isSoAt (wsV RX5 151 RX5 yX5_farOf wsX5_farOf) := goodIn_app (goodIn_of _ (by decide +kernel)) ggX5_isSoAt_X5_farOf
set_option maxRecDepth 20000 in
theorem ggX5_isSoAt_X5_farOn : GoodIn wsX5_isSoAt wsX5_farOn := goodIn_r _ [13, 2, 3, 4, 5, 6, 7, 8, 9, 14, 15, 16, 17, 18, 19, 20, 21, 22, 23, 24, 25, 26, 27, 28, 29, 30, 31, 32, 33, 34, 35, 36, 37, 38, 39, 40, 41, 42, 43, 44, 45, 46, 47] (by decide +kernel) (by decide +kernel)
set_option maxRecDepth 20000 in
theorem gX5_isSoAt_X5_farOn : GoodIn wsX5_isSoAt (wsV RX5 175 RX5 yX5_farOn wsX5_farOn) := goodIn_app (goodIn_of _ (by decide +kernel)) ggX5_isSoAt_X5_farOn
theorem dX5_isSoAt_0 : decode cX5_isSoAt 0 = .ok (.iconst 1, 1) := by decide +kernel
theorem dX5_isSoAt_1 : decode cX5_isSoAt 1 = .ok (.istore 5, 2) := by decide +kernel
theorem dX5_isSoAt_3 : decode cX5_isSoAt 3 = .ok (.iconst 0, 1) := by decide +kernel
theorem dX5_isSoAt_4 : decode cX5_isSoAt 4 = .ok (.istore 6, 2) := by decide +kernel
theorem dX5_isSoAt_6 : decode cX5_isSoAt 6 = .ok (.iload 6, 2) := by decide +kernel
theorem dX5_isSoAt_8 : decode cX5_isSoAt 8 = .ok (.aload_n 0, 1) := by decide +kernel
theorem dX5_isSoAt_9 : decode cX5_isSoAt 9 = .ok (.getfield 34, 3) := by decide +kernel
theorem dX5_isSoAt_12 : decode cX5_isSoAt 12 = .ok (.iconst 1, 1) := by decide +kernel
theorem dX5_isSoAt_13 : decode cX5_isSoAt 13 = .ok (.iaload, 1) := by decide +kernel
theorem dX5_isSoAt_14 : decode cX5_isSoAt 14 = .ok (.if_icmp .ge 112, 3) := by decide +kernel
theorem dX5_isSoAt_17 : decode cX5_isSoAt 17 = .ok (.iconst 2, 1) := by decide +kernel
theorem dX5_isSoAt_18 : decode cX5_isSoAt 18 = .ok (.iconst 3, 1) := by decide +kernel
theorem dX5_isSoAt_19 : decode cX5_isSoAt 19 = .ok (.iload 6, 2) := by decide +kernel
theorem dX5_isSoAt_21 : decode cX5_isSoAt 21 = .ok (.imul, 1) := by decide +kernel
theorem dX5_isSoAt_22 : decode cX5_isSoAt 22 = .ok (.iadd, 1) := by decide +kernel
theorem dX5_isSoAt_23 : decode cX5_isSoAt 23 = .ok (.istore 7, 2) := by decide +kernel
theorem dX5_isSoAt_25 : decode cX5_isSoAt 25 = .ok (.aload_n 0, 1) := by decide +kernel
theorem dX5_isSoAt_26 : decode cX5_isSoAt 26 = .ok (.getfield 34, 3) := by decide +kernel
theorem dX5_isSoAt_29 : decode cX5_isSoAt 29 = .ok (.iload 7, 2) := by decide +kernel
theorem dX5_isSoAt_31 : decode cX5_isSoAt 31 = .ok (.iconst 2, 1) := by decide +kernel
theorem dX5_isSoAt_32 : decode cX5_isSoAt 32 = .ok (.iadd, 1) := by decide +kernel
theorem dX5_isSoAt_33 : decode cX5_isSoAt 33 = .ok (.iaload, 1) := by decide +kernel
theorem dX5_isSoAt_34 : decode cX5_isSoAt 34 = .ok (.iload_n 1, 1) := by decide +kernel
theorem dX5_isSoAt_35 : decode cX5_isSoAt 35 = .ok (.if_icmp .ne 85, 3) := by decide +kernel
theorem dX5_isSoAt_38 : decode cX5_isSoAt 38 = .ok (.iload_n 3, 1) := by decide +kernel
theorem dX5_isSoAt_39 : decode cX5_isSoAt 39 = .ok (.ifCond .ge 18, 3) := by decide +kernel
theorem dX5_isSoAt_42 : decode cX5_isSoAt 42 = .ok (.aload_n 0, 1) := by decide +kernel
theorem dX5_isSoAt_43 : decode cX5_isSoAt 43 = .ok (.aload_n 0, 1) := by decide +kernel
theorem dX5_isSoAt_44 : decode cX5_isSoAt 44 = .ok (.getfield 34, 3) := by decide +kernel
theorem dX5_isSoAt_47 : decode cX5_isSoAt 47 = .ok (.iload 7, 2) := by decide +kernel
theorem dX5_isSoAt_49 : decode cX5_isSoAt 49 = .ok (.iaload, 1) := by decide +kernel
theorem dX5_isSoAt_50 : decode cX5_isSoAt 50 = .ok (.iload_n 2, 1) := by decide +kernel
theorem dX5_isSoAt_51 : decode cX5_isSoAt 51 = .ok (.invokevirtual 151, 3) := by decide +kernel
theorem dX5_isSoAt_54 : decode cX5_isSoAt 54 = .ok (.goto 25, 3) := by decide +kernel
theorem dX5_isSoAt_57 : decode cX5_isSoAt 57 = .ok (.aload_n 0, 1) := by decide +kernel
theorem dX5_isSoAt_58 : decode cX5_isSoAt 58 = .ok (.aload_n 0, 1) := by decide +kernel
theorem dX5_isSoAt_59 : decode cX5_isSoAt 59 = .ok (.getfield 34, 3) := by decide +kernel
theorem dX5_isSoAt_62 : decode cX5_isSoAt 62 = .ok (.iload 7, 2) := by decide +kernel
theorem dX5_isSoAt_64 : decode cX5_isSoAt 64 = .ok (.iaload, 1) := by decide +kernel
theorem dX5_isSoAt_65 : decode cX5_isSoAt 65 = .ok (.iload_n 3, 1) := by decide +kernel
theorem dX5_isSoAt_66 : decode cX5_isSoAt 66 = .ok (.iload 4, 2) := by decide +kernel
theorem dX5_isSoAt_68 : decode cX5_isSoAt 68 = .ok (.aload_n 0, 1) := by decide +kernel
theorem dX5_isSoAt_69 : decode cX5_isSoAt 69 = .ok (.getfield 16, 3) := by decide +kernel
theorem dX5_isSoAt_72 : decode cX5_isSoAt 72 = .ok (.iconst 3, 1) := by decide +kernel
theorem dX5_isSoAt_73 : decode cX5_isSoAt 73 = .ok (.iload_n 3, 1) := by decide +kernel
theorem dX5_isSoAt_74 : decode cX5_isSoAt 74 = .ok (.imul, 1) := by decide +kernel
theorem dX5_isSoAt_75 : decode cX5_isSoAt 75 = .ok (.iaload, 1) := by decide +kernel
theorem dX5_isSoAt_76 : decode cX5_isSoAt 76 = .ok (.invokevirtual 175, 3) := by decide +kernel
theorem dX5_isSoAt_79 : decode cX5_isSoAt 79 = .ok (.istore 8, 2) := by decide +kernel
theorem dX5_isSoAt_81 : decode cX5_isSoAt 81 = .ok (.iload 5, 2) := by decide +kernel
theorem dX5_isSoAt_83 : decode cX5_isSoAt 83 = .ok (.ifCond .eq 34, 3) := by decide +kernel
theorem dX5_isSoAt_86 : decode cX5_isSoAt 86 = .ok (.iload 8, 2) := by decide +kernel
theorem dX5_isSoAt_88 : decode cX5_isSoAt 88 = .ok (.bipush (-9), 2) := by decide +kernel
theorem dX5_isSoAt_90 : decode cX5_isSoAt 90 = .ok (.if_icmp .eq 27, 3) := by decide +kernel
theorem dX5_isSoAt_93 : decode cX5_isSoAt 93 = .ok (.bipush 12, 2) := by decide +kernel
theorem dX5_isSoAt_95 : decode cX5_isSoAt 95 = .ok (.iload 8, 2) := by decide +kernel
theorem dX5_isSoAt_97 : decode cX5_isSoAt 97 = .ok (.iadd, 1) := by decide +kernel
theorem dX5_isSoAt_98 : decode cX5_isSoAt 98 = .ok (.bipush 24, 2) := by decide +kernel
theorem dX5_isSoAt_100 : decode cX5_isSoAt 100 = .ok (.irem, 1) := by decide +kernel
theorem dX5_isSoAt_101 : decode cX5_isSoAt 101 = .ok (.aload_n 0, 1) := by decide +kernel
theorem dX5_isSoAt_102 : decode cX5_isSoAt 102 = .ok (.getfield 34, 3) := by decide +kernel
theorem dX5_isSoAt_105 : decode cX5_isSoAt 105 = .ok (.iload 7, 2) := by decide +kernel
theorem dX5_isSoAt_107 : decode cX5_isSoAt 107 = .ok (.iconst 1, 1) := by decide +kernel
theorem dX5_isSoAt_108 : decode cX5_isSoAt 108 = .ok (.iadd, 1) := by decide +kernel
theorem dX5_isSoAt_109 : decode cX5_isSoAt 109 = .ok (.iaload, 1) := by decide +kernel
theorem dX5_isSoAt_110 : decode cX5_isSoAt 110 = .ok (.if_icmp .ne 7, 3) := by decide +kernel
theorem dX5_isSoAt_113 : decode cX5_isSoAt 113 = .ok (.iconst 1, 1) := by decide +kernel
theorem dX5_isSoAt_114 : decode cX5_isSoAt 114 = .ok (.goto 4, 3) := by decide +kernel
theorem dX5_isSoAt_117 : decode cX5_isSoAt 117 = .ok (.iconst 0, 1) := by decide +kernel
theorem dX5_isSoAt_118 : decode cX5_isSoAt 118 = .ok (.istore 5, 2) := by decide +kernel
theorem dX5_isSoAt_120 : decode cX5_isSoAt 120 = .ok (.iinc 6 1, 3) := by decide +kernel
theorem dX5_isSoAt_123 : decode cX5_isSoAt 123 = .ok (.goto (-117), 3) := by decide +kernel
theorem dX5_isSoAt_126 : decode cX5_isSoAt 126 = .ok (.iload 5, 2) := by decide +kernel
theorem dX5_isSoAt_128 : decode cX5_isSoAt 128 = .ok (.ireturn, 1) := by decide +kernel
set_option maxRecDepth 20000 in
theorem ggX5_stoodIn_X5_isSoAt : GoodIn wsX5_stoodIn wsX5_isSoAt := goodIn_r _ [8, 9, 3, 10, 11, 12, 7, 13, 14, 15, 16, 17, 18, 19, 20, 21, 22, 23, 24, 25, 26, 27, 28, 29, 30, 31, 32, 33, 34, 35, 36, 37, 38, 39, 40, 41, 42, 43, 44, 45, 46, 47, 48, 49, 50, 51, 52, 53] (by decide +kernel) (by decide +kernel)
set_option maxRecDepth 20000 in
theorem gX5_stoodIn_X5_isSoAt : GoodIn wsX5_stoodIn (wsV RX5 195 RX5 yX5_isSoAt wsX5_isSoAt) := goodIn_app (goodIn_of _ (by decide +kernel)) ggX5_stoodIn_X5_isSoAt
theorem dX5_stoodIn_0 : decode cX5_stoodIn 0 = .ok (.iconst 0, 1) := by decide +kernel
theorem dX5_stoodIn_1 : decode cX5_stoodIn 1 = .ok (.istore_n 3, 1) := by decide +kernel
theorem dX5_stoodIn_2 : decode cX5_stoodIn 2 = .ok (.bipush (-9), 2) := by decide +kernel
theorem dX5_stoodIn_4 : decode cX5_stoodIn 4 = .ok (.istore 4, 2) := by decide +kernel
theorem dX5_stoodIn_6 : decode cX5_stoodIn 6 = .ok (.iconst 0, 1) := by decide +kernel
theorem dX5_stoodIn_7 : decode cX5_stoodIn 7 = .ok (.istore 5, 2) := by decide +kernel
theorem dX5_stoodIn_9 : decode cX5_stoodIn 9 = .ok (.iload 5, 2) := by decide +kernel
theorem dX5_stoodIn_11 : decode cX5_stoodIn 11 = .ok (.aload_n 0, 1) := by decide +kernel
theorem dX5_stoodIn_12 : decode cX5_stoodIn 12 = .ok (.getfield 131, 3) := by decide +kernel
theorem dX5_stoodIn_15 : decode cX5_stoodIn 15 = .ok (.if_icmp .ge 37, 3) := by decide +kernel
theorem dX5_stoodIn_18 : decode cX5_stoodIn 18 = .ok (.aload_n 0, 1) := by decide +kernel
theorem dX5_stoodIn_19 : decode cX5_stoodIn 19 = .ok (.iload_n 1, 1) := by decide +kernel
theorem dX5_stoodIn_20 : decode cX5_stoodIn 20 = .ok (.iload 5, 2) := by decide +kernel
theorem dX5_stoodIn_22 : decode cX5_stoodIn 22 = .ok (.iconst (-1), 1) := by decide +kernel
theorem dX5_stoodIn_23 : decode cX5_stoodIn 23 = .ok (.iconst 0, 1) := by decide +kernel
theorem dX5_stoodIn_24 : decode cX5_stoodIn 24 = .ok (.invokevirtual 195, 3) := by decide +kernel
theorem dX5_stoodIn_27 : decode cX5_stoodIn 27 = .ok (.ifCond .eq 19, 3) := by decide +kernel
theorem dX5_stoodIn_30 : decode cX5_stoodIn 30 = .ok (.iload_n 3, 1) := by decide +kernel
theorem dX5_stoodIn_31 : decode cX5_stoodIn 31 = .ok (.ifCond .ne 8, 3) := by decide +kernel
theorem dX5_stoodIn_34 : decode cX5_stoodIn 34 = .ok (.iload 5, 2) := by decide +kernel
theorem dX5_stoodIn_36 : decode cX5_stoodIn 36 = .ok (.goto 5, 3) := by decide +kernel
theorem dX5_stoodIn_39 : decode cX5_stoodIn 39 = .ok (.iload 4, 2) := by decide +kernel
theorem dX5_stoodIn_41 : decode cX5_stoodIn 41 = .ok (.istore 4, 2) := by decide +kernel
theorem dX5_stoodIn_43 : decode cX5_stoodIn 43 = .ok (.iinc 3 1, 3) := by decide +kernel
theorem dX5_stoodIn_46 : decode cX5_stoodIn 46 = .ok (.iinc 5 1, 3) := by decide +kernel
theorem dX5_stoodIn_49 : decode cX5_stoodIn 49 = .ok (.goto (-40), 3) := by decide +kernel
theorem dX5_stoodIn_52 : decode cX5_stoodIn 52 = .ok (.iconst 0, 1) := by decide +kernel
theorem dX5_stoodIn_53 : decode cX5_stoodIn 53 = .ok (.istore 5, 2) := by decide +kernel
theorem dX5_stoodIn_55 : decode cX5_stoodIn 55 = .ok (.iload 5, 2) := by decide +kernel
theorem dX5_stoodIn_57 : decode cX5_stoodIn 57 = .ok (.aload_n 0, 1) := by decide +kernel
theorem dX5_stoodIn_58 : decode cX5_stoodIn 58 = .ok (.getfield 134, 3) := by decide +kernel
theorem dX5_stoodIn_61 : decode cX5_stoodIn 61 = .ok (.if_icmp .ge 71, 3) := by decide +kernel
theorem dX5_stoodIn_64 : decode cX5_stoodIn 64 = .ok (.iconst 1, 1) := by decide +kernel
theorem dX5_stoodIn_65 : decode cX5_stoodIn 65 = .ok (.istore 6, 2) := by decide +kernel
theorem dX5_stoodIn_67 : decode cX5_stoodIn 67 = .ok (.iload 6, 2) := by decide +kernel
theorem dX5_stoodIn_69 : decode cX5_stoodIn 69 = .ok (.aload_n 0, 1) := by decide +kernel
theorem dX5_stoodIn_70 : decode cX5_stoodIn 70 = .ok (.getfield 16, 3) := by decide +kernel
theorem dX5_stoodIn_73 : decode cX5_stoodIn 73 = .ok (.iconst 3, 1) := by decide +kernel
theorem dX5_stoodIn_74 : decode cX5_stoodIn 74 = .ok (.iload 5, 2) := by decide +kernel
theorem dX5_stoodIn_76 : decode cX5_stoodIn 76 = .ok (.imul, 1) := by decide +kernel
theorem dX5_stoodIn_77 : decode cX5_stoodIn 77 = .ok (.iconst 2, 1) := by decide +kernel
theorem dX5_stoodIn_78 : decode cX5_stoodIn 78 = .ok (.iadd, 1) := by decide +kernel
theorem dX5_stoodIn_79 : decode cX5_stoodIn 79 = .ok (.iaload, 1) := by decide +kernel
theorem dX5_stoodIn_80 : decode cX5_stoodIn 80 = .ok (.if_icmp .ge 46, 3) := by decide +kernel
theorem dX5_stoodIn_83 : decode cX5_stoodIn 83 = .ok (.aload_n 0, 1) := by decide +kernel
theorem dX5_stoodIn_84 : decode cX5_stoodIn 84 = .ok (.iload_n 1, 1) := by decide +kernel
theorem dX5_stoodIn_85 : decode cX5_stoodIn 85 = .ok (.iconst 0, 1) := by decide +kernel
theorem dX5_stoodIn_86 : decode cX5_stoodIn 86 = .ok (.iload 5, 2) := by decide +kernel
theorem dX5_stoodIn_88 : decode cX5_stoodIn 88 = .ok (.iload 6, 2) := by decide +kernel
theorem dX5_stoodIn_90 : decode cX5_stoodIn 90 = .ok (.invokevirtual 195, 3) := by decide +kernel
theorem dX5_stoodIn_93 : decode cX5_stoodIn 93 = .ok (.ifCond .eq 27, 3) := by decide +kernel
theorem dX5_stoodIn_96 : decode cX5_stoodIn 96 = .ok (.iload_n 3, 1) := by decide +kernel
theorem dX5_stoodIn_97 : decode cX5_stoodIn 97 = .ok (.ifCond .ne 16, 3) := by decide +kernel
theorem dX5_stoodIn_100 : decode cX5_stoodIn 100 = .ok (.bipush 100, 2) := by decide +kernel
theorem dX5_stoodIn_102 : decode cX5_stoodIn 102 = .ok (.iload 5, 2) := by decide +kernel
theorem dX5_stoodIn_104 : decode cX5_stoodIn 104 = .ok (.iconst 1, 1) := by decide +kernel
theorem dX5_stoodIn_105 : decode cX5_stoodIn 105 = .ok (.iadd, 1) := by decide +kernel
theorem dX5_stoodIn_106 : decode cX5_stoodIn 106 = .ok (.imul, 1) := by decide +kernel
theorem dX5_stoodIn_107 : decode cX5_stoodIn 107 = .ok (.iload 6, 2) := by decide +kernel
theorem dX5_stoodIn_109 : decode cX5_stoodIn 109 = .ok (.iadd, 1) := by decide +kernel
theorem dX5_stoodIn_110 : decode cX5_stoodIn 110 = .ok (.goto 5, 3) := by decide +kernel
theorem dX5_stoodIn_113 : decode cX5_stoodIn 113 = .ok (.iload 4, 2) := by decide +kernel
theorem dX5_stoodIn_115 : decode cX5_stoodIn 115 = .ok (.istore 4, 2) := by decide +kernel
theorem dX5_stoodIn_117 : decode cX5_stoodIn 117 = .ok (.iinc 3 1, 3) := by decide +kernel
theorem dX5_stoodIn_120 : decode cX5_stoodIn 120 = .ok (.iinc 6 1, 3) := by decide +kernel
theorem dX5_stoodIn_123 : decode cX5_stoodIn 123 = .ok (.goto (-56), 3) := by decide +kernel
theorem dX5_stoodIn_126 : decode cX5_stoodIn 126 = .ok (.iinc 5 1, 3) := by decide +kernel
theorem dX5_stoodIn_129 : decode cX5_stoodIn 129 = .ok (.goto (-74), 3) := by decide +kernel
theorem dX5_stoodIn_132 : decode cX5_stoodIn 132 = .ok (.iload_n 2, 1) := by decide +kernel
theorem dX5_stoodIn_133 : decode cX5_stoodIn 133 = .ok (.ifCond .eq 8, 3) := by decide +kernel
theorem dX5_stoodIn_136 : decode cX5_stoodIn 136 = .ok (.iload 4, 2) := by decide +kernel
theorem dX5_stoodIn_138 : decode cX5_stoodIn 138 = .ok (.goto 4, 3) := by decide +kernel
theorem dX5_stoodIn_141 : decode cX5_stoodIn 141 = .ok (.iload_n 3, 1) := by decide +kernel
theorem dX5_stoodIn_142 : decode cX5_stoodIn 142 = .ok (.ireturn, 1) := by decide +kernel
set_option maxRecDepth 20000 in
theorem ggX5_stood_X5_isHour : GoodIn wsX5_stood wsX5_isHour := goodIn_r _ [5, 6, 7, 4, 8] (by decide +kernel) (by decide +kernel)
set_option maxRecDepth 20000 in
theorem gX5_stood_X5_isHour : GoodIn wsX5_stood (va_wsS RX5 169 yX5_isHour wsX5_isHour) := goodIn_app (goodIn_of _ (by decide +kernel)) ggX5_stood_X5_isHour
set_option maxRecDepth 20000 in
theorem ggX5_stood_X5_in : GoodIn wsX5_stood wsX5_in := goodIn_r _ [8] (by decide +kernel) (by decide +kernel)
set_option maxRecDepth 20000 in
theorem gX5_stood_X5_in : GoodIn wsX5_stood (va_wsS RX5 57 yX5_in wsX5_in) := goodIn_app (goodIn_of _ (by decide +kernel)) ggX5_stood_X5_in
set_option maxRecDepth 20000 in
theorem ggX5_stood_X5_stoodIn : GoodIn wsX5_stood wsX5_stoodIn := goodIn_r _ [12, 13, 14, 15, 16, 17, 18, 4, 19, 20, 21, 22, 23, 24, 25, 26, 27, 28, 29, 30, 31, 32, 33, 34, 35, 36, 37, 38, 39, 40, 41, 42, 43, 44, 45, 46, 47, 48, 49, 50, 51, 52, 53, 54, 55, 56, 57, 58, 59, 60, 61, 62, 63, 64] (by decide +kernel) (by decide +kernel)
set_option maxRecDepth 20000 in
theorem gX5_stood_X5_stoodIn : GoodIn wsX5_stood (wsV RX5 199 RX5 yX5_stoodIn wsX5_stoodIn) := goodIn_app (goodIn_of _ (by decide +kernel)) ggX5_stood_X5_stoodIn
theorem dX5_stood_0 : decode cX5_stood 0 = .ok (.aload_n 0, 1) := by decide +kernel
theorem dX5_stood_1 : decode cX5_stood 1 = .ok (.iconst 0, 1) := by decide +kernel
theorem dX5_stood_2 : decode cX5_stood 2 = .ok (.putfield 53, 3) := by decide +kernel
theorem dX5_stood_5 : decode cX5_stood 5 = .ok (.iload_n 1, 1) := by decide +kernel
theorem dX5_stood_6 : decode cX5_stood 6 = .ok (.invokestatic 169, 3) := by decide +kernel
theorem dX5_stood_9 : decode cX5_stood 9 = .ok (.ifCond .eq 30, 3) := by decide +kernel
theorem dX5_stood_12 : decode cX5_stood 12 = .ok (.iload_n 2, 1) := by decide +kernel
theorem dX5_stood_13 : decode cX5_stood 13 = .ok (.iconst 0, 1) := by decide +kernel
theorem dX5_stood_14 : decode cX5_stood 14 = .ok (.iconst 1, 1) := by decide +kernel
theorem dX5_stood_15 : decode cX5_stood 15 = .ok (.invokestatic 57, 3) := by decide +kernel
theorem dX5_stood_18 : decode cX5_stood 18 = .ok (.ifCond .eq 21, 3) := by decide +kernel
theorem dX5_stood_21 : decode cX5_stood 21 = .ok (.aload_n 0, 1) := by decide +kernel
theorem dX5_stood_22 : decode cX5_stood 22 = .ok (.iload_n 1, 1) := by decide +kernel
theorem dX5_stood_23 : decode cX5_stood 23 = .ok (.iload_n 2, 1) := by decide +kernel
theorem dX5_stood_24 : decode cX5_stood 24 = .ok (.iconst 1, 1) := by decide +kernel
theorem dX5_stood_25 : decode cX5_stood 25 = .ok (.if_icmp .ne 7, 3) := by decide +kernel
theorem dX5_stood_28 : decode cX5_stood 28 = .ok (.iconst 1, 1) := by decide +kernel
theorem dX5_stood_29 : decode cX5_stood 29 = .ok (.goto 4, 3) := by decide +kernel
theorem dX5_stood_32 : decode cX5_stood 32 = .ok (.iconst 0, 1) := by decide +kernel
theorem dX5_stood_33 : decode cX5_stood 33 = .ok (.invokevirtual 199, 3) := by decide +kernel
theorem dX5_stood_36 : decode cX5_stood 36 = .ok (.goto 4, 3) := by decide +kernel
theorem dX5_stood_39 : decode cX5_stood 39 = .ok (.iconst (-1), 1) := by decide +kernel
theorem dX5_stood_40 : decode cX5_stood 40 = .ok (.ireturn, 1) := by decide +kernel
set_option maxRecDepth 20000 in
theorem ggX5_two_X5_stoodIn : GoodIn wsX5_two wsX5_stoodIn := goodIn_r _ [7, 8, 9, 10, 11, 12, 13, 6, 14, 2, 15, 16, 17, 18, 19, 20, 21, 22, 23, 24, 25, 26, 27, 28, 29, 30, 31, 32, 33, 34, 35, 36, 37, 38, 39, 40, 41, 42, 43, 44, 45, 46, 47, 48, 49, 50, 51, 52, 53, 54, 55, 56, 57, 58] (by decide +kernel) (by decide +kernel)
set_option maxRecDepth 20000 in
theorem gX5_two_X5_stoodIn : GoodIn wsX5_two (wsV RX5 199 RX5 yX5_stoodIn wsX5_stoodIn) := goodIn_app (goodIn_of _ (by decide +kernel)) ggX5_two_X5_stoodIn
theorem dX5_two_0 : decode cX5_two 0 = .ok (.aload_n 0, 1) := by decide +kernel
theorem dX5_two_1 : decode cX5_two 1 = .ok (.iconst 0, 1) := by decide +kernel
theorem dX5_two_2 : decode cX5_two 2 = .ok (.putfield 53, 3) := by decide +kernel
theorem dX5_two_5 : decode cX5_two 5 = .ok (.iconst 0, 1) := by decide +kernel
theorem dX5_two_6 : decode cX5_two 6 = .ok (.istore_n 1, 1) := by decide +kernel
theorem dX5_two_7 : decode cX5_two 7 = .ok (.iconst 0, 1) := by decide +kernel
theorem dX5_two_8 : decode cX5_two 8 = .ok (.istore_n 2, 1) := by decide +kernel
theorem dX5_two_9 : decode cX5_two 9 = .ok (.iload_n 2, 1) := by decide +kernel
theorem dX5_two_10 : decode cX5_two 10 = .ok (.aload_n 0, 1) := by decide +kernel
theorem dX5_two_11 : decode cX5_two 11 = .ok (.getfield 34, 3) := by decide +kernel
theorem dX5_two_14 : decode cX5_two 14 = .ok (.iconst 1, 1) := by decide +kernel
theorem dX5_two_15 : decode cX5_two 15 = .ok (.iaload, 1) := by decide +kernel
theorem dX5_two_16 : decode cX5_two 16 = .ok (.if_icmp .ge 35, 3) := by decide +kernel
theorem dX5_two_19 : decode cX5_two 19 = .ok (.aload_n 0, 1) := by decide +kernel
theorem dX5_two_20 : decode cX5_two 20 = .ok (.aload_n 0, 1) := by decide +kernel
theorem dX5_two_21 : decode cX5_two 21 = .ok (.getfield 34, 3) := by decide +kernel
theorem dX5_two_24 : decode cX5_two 24 = .ok (.iconst 2, 1) := by decide +kernel
theorem dX5_two_25 : decode cX5_two 25 = .ok (.iconst 3, 1) := by decide +kernel
theorem dX5_two_26 : decode cX5_two 26 = .ok (.iload_n 2, 1) := by decide +kernel
theorem dX5_two_27 : decode cX5_two 27 = .ok (.imul, 1) := by decide +kernel
theorem dX5_two_28 : decode cX5_two 28 = .ok (.iadd, 1) := by decide +kernel
theorem dX5_two_29 : decode cX5_two 29 = .ok (.iconst 2, 1) := by decide +kernel
theorem dX5_two_30 : decode cX5_two 30 = .ok (.iadd, 1) := by decide +kernel
theorem dX5_two_31 : decode cX5_two 31 = .ok (.iaload, 1) := by decide +kernel
theorem dX5_two_32 : decode cX5_two 32 = .ok (.iconst 0, 1) := by decide +kernel
theorem dX5_two_33 : decode cX5_two 33 = .ok (.invokevirtual 199, 3) := by decide +kernel
theorem dX5_two_36 : decode cX5_two 36 = .ok (.ifCond .ne 7, 3) := by decide +kernel
theorem dX5_two_39 : decode cX5_two 39 = .ok (.iconst 1, 1) := by decide +kernel
theorem dX5_two_40 : decode cX5_two 40 = .ok (.goto 4, 3) := by decide +kernel
theorem dX5_two_43 : decode cX5_two 43 = .ok (.iload_n 1, 1) := by decide +kernel
theorem dX5_two_44 : decode cX5_two 44 = .ok (.istore_n 1, 1) := by decide +kernel
theorem dX5_two_45 : decode cX5_two 45 = .ok (.iinc 2 1, 3) := by decide +kernel
theorem dX5_two_48 : decode cX5_two 48 = .ok (.goto (-39), 3) := by decide +kernel
theorem dX5_two_51 : decode cX5_two 51 = .ok (.iload_n 1, 1) := by decide +kernel
theorem dX5_two_52 : decode cX5_two 52 = .ok (.ireturn, 1) := by decide +kernel
set_option maxRecDepth 20000 in
theorem ggX5_go_X5_in : GoodIn wsX5_go wsX5_in := goodIn_r _ [6] (by decide +kernel) (by decide +kernel)
set_option maxRecDepth 20000 in
theorem gX5_go_X5_in : GoodIn wsX5_go (va_wsS RX5 57 yX5_in wsX5_in) := goodIn_app (goodIn_of _ (by decide +kernel)) ggX5_go_X5_in
set_option maxRecDepth 20000 in
theorem ggX5_go_X5_lesser : GoodIn wsX5_go wsX5_lesser := goodIn_r _ [9] (by decide +kernel) (by decide +kernel)
set_option maxRecDepth 20000 in
theorem gX5_go_X5_lesser : GoodIn wsX5_go (va_wsS RX5 141 yX5_lesser wsX5_lesser) := goodIn_app (goodIn_of _ (by decide +kernel)) ggX5_go_X5_lesser
theorem dX5_go_0 : decode cX5_go 0 = .ok (.aload_n 0, 1) := by decide +kernel
theorem dX5_go_1 : decode cX5_go 1 = .ok (.iconst 0, 1) := by decide +kernel
theorem dX5_go_2 : decode cX5_go 2 = .ok (.putfield 53, 3) := by decide +kernel
theorem dX5_go_5 : decode cX5_go 5 = .ok (.iload_n 1, 1) := by decide +kernel
theorem dX5_go_6 : decode cX5_go 6 = .ok (.iconst 1, 1) := by decide +kernel
theorem dX5_go_7 : decode cX5_go 7 = .ok (.sipush 999, 3) := by decide +kernel
theorem dX5_go_10 : decode cX5_go 10 = .ok (.invokestatic 57, 3) := by decide +kernel
theorem dX5_go_13 : decode cX5_go 13 = .ok (.ifCond .ne 5, 3) := by decide +kernel
theorem dX5_go_16 : decode cX5_go 16 = .ok (.iconst (-1), 1) := by decide +kernel
theorem dX5_go_17 : decode cX5_go 17 = .ok (.ireturn, 1) := by decide +kernel
theorem dX5_go_18 : decode cX5_go 18 = .ok (.aload_n 0, 1) := by decide +kernel
theorem dX5_go_19 : decode cX5_go 19 = .ok (.getfield 34, 3) := by decide +kernel
theorem dX5_go_22 : decode cX5_go 22 = .ok (.iconst 0, 1) := by decide +kernel
theorem dX5_go_23 : decode cX5_go 23 = .ok (.iaload, 1) := by decide +kernel
theorem dX5_go_24 : decode cX5_go 24 = .ok (.sipush 999, 3) := by decide +kernel
theorem dX5_go_27 : decode cX5_go 27 = .ok (.if_icmp .ne 6, 3) := by decide +kernel
theorem dX5_go_30 : decode cX5_go 30 = .ok (.bipush (-2), 2) := by decide +kernel
theorem dX5_go_32 : decode cX5_go 32 = .ok (.ireturn, 1) := by decide +kernel
theorem dX5_go_33 : decode cX5_go 33 = .ok (.aload_n 0, 1) := by decide +kernel
theorem dX5_go_34 : decode cX5_go 34 = .ok (.getfield 34, 3) := by decide +kernel
theorem dX5_go_37 : decode cX5_go 37 = .ok (.iconst 0, 1) := by decide +kernel
theorem dX5_go_38 : decode cX5_go 38 = .ok (.sipush 999, 3) := by decide +kernel
theorem dX5_go_41 : decode cX5_go 41 = .ok (.aload_n 0, 1) := by decide +kernel
theorem dX5_go_42 : decode cX5_go 42 = .ok (.getfield 34, 3) := by decide +kernel
theorem dX5_go_45 : decode cX5_go 45 = .ok (.iconst 0, 1) := by decide +kernel
theorem dX5_go_46 : decode cX5_go 46 = .ok (.iaload, 1) := by decide +kernel
theorem dX5_go_47 : decode cX5_go 47 = .ok (.iload_n 1, 1) := by decide +kernel
theorem dX5_go_48 : decode cX5_go 48 = .ok (.iadd, 1) := by decide +kernel
theorem dX5_go_49 : decode cX5_go 49 = .ok (.invokestatic 141, 3) := by decide +kernel
theorem dX5_go_52 : decode cX5_go 52 = .ok (.iastore, 1) := by decide +kernel
theorem dX5_go_53 : decode cX5_go 53 = .ok (.aload_n 0, 1) := by decide +kernel
theorem dX5_go_54 : decode cX5_go 54 = .ok (.getfield 34, 3) := by decide +kernel
theorem dX5_go_57 : decode cX5_go 57 = .ok (.iconst 0, 1) := by decide +kernel
theorem dX5_go_58 : decode cX5_go 58 = .ok (.iaload, 1) := by decide +kernel
theorem dX5_go_59 : decode cX5_go 59 = .ok (.ireturn, 1) := by decide +kernel
set_option maxRecDepth 20000 in
theorem ggX5_ill_X5_in : GoodIn wsX5_ill wsX5_in := goodIn_r _ [8] (by decide +kernel) (by decide +kernel)
set_option maxRecDepth 20000 in
theorem gX5_ill_X5_in : GoodIn wsX5_ill (va_wsS RX5 57 yX5_in wsX5_in) := goodIn_app (goodIn_of _ (by decide +kernel)) ggX5_ill_X5_in
set_option maxRecDepth 20000 in
theorem ggX5_ill_X5_isHour : GoodIn wsX5_ill wsX5_isHour := goodIn_r _ [11, 5, 6, 7, 8] (by decide +kernel) (by decide +kernel)
set_option maxRecDepth 20000 in
theorem gX5_ill_X5_isHour : GoodIn wsX5_ill (va_wsS RX5 169 yX5_isHour wsX5_isHour) := goodIn_app (goodIn_of _ (by decide +kernel)) ggX5_ill_X5_isHour
theorem dX5_ill_0 : decode cX5_ill 0 = .ok (.aload_n 0, 1) := by decide +kernel
theorem dX5_ill_1 : decode cX5_ill 1 = .ok (.iconst 0, 1) := by decide +kernel
theorem dX5_ill_2 : decode cX5_ill 2 = .ok (.putfield 53, 3) := by decide +kernel
theorem dX5_ill_5 : decode cX5_ill 5 = .ok (.iload_n 1, 1) := by decide +kernel
theorem dX5_ill_6 : decode cX5_ill 6 = .ok (.iconst 0, 1) := by decide +kernel
theorem dX5_ill_7 : decode cX5_ill 7 = .ok (.bipush 99, 2) := by decide +kernel
theorem dX5_ill_9 : decode cX5_ill 9 = .ok (.invokestatic 57, 3) := by decide +kernel
theorem dX5_ill_12 : decode cX5_ill 12 = .ok (.ifCond .eq 10, 3) := by decide +kernel
theorem dX5_ill_15 : decode cX5_ill 15 = .ok (.iload_n 2, 1) := by decide +kernel
theorem dX5_ill_16 : decode cX5_ill 16 = .ok (.invokestatic 169, 3) := by decide +kernel
theorem dX5_ill_19 : decode cX5_ill 19 = .ok (.ifCond .ne 5, 3) := by decide +kernel
theorem dX5_ill_22 : decode cX5_ill 22 = .ok (.iconst (-1), 1) := by decide +kernel
theorem dX5_ill_23 : decode cX5_ill 23 = .ok (.ireturn, 1) := by decide +kernel
theorem dX5_ill_24 : decode cX5_ill 24 = .ok (.iconst 0, 1) := by decide +kernel
theorem dX5_ill_25 : decode cX5_ill 25 = .ok (.istore_n 3, 1) := by decide +kernel
theorem dX5_ill_26 : decode cX5_ill 26 = .ok (.iconst 0, 1) := by decide +kernel
theorem dX5_ill_27 : decode cX5_ill 27 = .ok (.istore 4, 2) := by decide +kernel
theorem dX5_ill_29 : decode cX5_ill 29 = .ok (.iload 4, 2) := by decide +kernel
theorem dX5_ill_31 : decode cX5_ill 31 = .ok (.aload_n 0, 1) := by decide +kernel
theorem dX5_ill_32 : decode cX5_ill 32 = .ok (.getfield 137, 3) := by decide +kernel
theorem dX5_ill_35 : decode cX5_ill 35 = .ok (.if_icmp .ge 50, 3) := by decide +kernel
theorem dX5_ill_38 : decode cX5_ill 38 = .ok (.iload_n 3, 1) := by decide +kernel
theorem dX5_ill_39 : decode cX5_ill 39 = .ok (.aload_n 0, 1) := by decide +kernel
theorem dX5_ill_40 : decode cX5_ill 40 = .ok (.getfield 31, 3) := by decide +kernel
theorem dX5_ill_43 : decode cX5_ill 43 = .ok (.iload 4, 2) := by decide +kernel
theorem dX5_ill_45 : decode cX5_ill 45 = .ok (.iaload, 1) := by decide +kernel
theorem dX5_ill_46 : decode cX5_ill 46 = .ok (.aload_n 0, 1) := by decide +kernel
theorem dX5_ill_47 : decode cX5_ill 47 = .ok (.getfield 31, 3) := by decide +kernel
theorem dX5_ill_50 : decode cX5_ill 50 = .ok (.iload 4, 2) := by decide +kernel
theorem dX5_ill_52 : decode cX5_ill 52 = .ok (.iaload, 1) := by decide +kernel
theorem dX5_ill_53 : decode cX5_ill 53 = .ok (.aload_n 0, 1) := by decide +kernel
theorem dX5_ill_54 : decode cX5_ill 54 = .ok (.getfield 34, 3) := by decide +kernel
theorem dX5_ill_57 : decode cX5_ill 57 = .ok (.iconst 0, 1) := by decide +kernel
theorem dX5_ill_58 : decode cX5_ill 58 = .ok (.iaload, 1) := by decide +kernel
theorem dX5_ill_59 : decode cX5_ill 59 = .ok (.if_icmp .le 7, 3) := by decide +kernel
theorem dX5_ill_62 : decode cX5_ill 62 = .ok (.iload_n 1, 1) := by decide +kernel
theorem dX5_ill_63 : decode cX5_ill 63 = .ok (.goto 4, 3) := by decide +kernel
theorem dX5_ill_66 : decode cX5_ill 66 = .ok (.iconst 0, 1) := by decide +kernel
theorem dX5_ill_67 : decode cX5_ill 67 = .ok (.iadd, 1) := by decide +kernel
theorem dX5_ill_68 : decode cX5_ill 68 = .ok (.iload_n 2, 1) := by decide +kernel
theorem dX5_ill_69 : decode cX5_ill 69 = .ok (.if_icmp .gt 7, 3) := by decide +kernel
theorem dX5_ill_72 : decode cX5_ill 72 = .ok (.iconst 1, 1) := by decide +kernel
theorem dX5_ill_73 : decode cX5_ill 73 = .ok (.goto 4, 3) := by decide +kernel
theorem dX5_ill_76 : decode cX5_ill 76 = .ok (.iconst 0, 1) := by decide +kernel
theorem dX5_ill_77 : decode cX5_ill 77 = .ok (.iadd, 1) := by decide +kernel
theorem dX5_ill_78 : decode cX5_ill 78 = .ok (.istore_n 3, 1) := by decide +kernel
theorem dX5_ill_79 : decode cX5_ill 79 = .ok (.iinc 4 1, 3) := by decide +kernel
theorem dX5_ill_82 : decode cX5_ill 82 = .ok (.goto (-53), 3) := by decide +kernel
theorem dX5_ill_85 : decode cX5_ill 85 = .ok (.iload_n 3, 1) := by decide +kernel
theorem dX5_ill_86 : decode cX5_ill 86 = .ok (.ireturn, 1) := by decide +kernel
set_option maxRecDepth 20000 in
theorem ggX5_rate_X5_in : GoodIn wsX5_rate wsX5_in := goodIn_r _ [14] (by decide +kernel) (by decide +kernel)
set_option maxRecDepth 20000 in
theorem gX5_rate_X5_in : GoodIn wsX5_rate (va_wsS RX5 57 yX5_in wsX5_in) := goodIn_app (goodIn_of _ (by decide +kernel)) ggX5_rate_X5_in
set_option maxRecDepth 20000 in
theorem ggX5_rate_X5_isTown : GoodIn wsX5_rate wsX5_isTown := goodIn_r _ [18, 19, 11, 12, 13, 14, 63, 64, 65, 66, 67, 68, 69, 70, 71, 72, 73, 74, 75, 76, 77, 78, 79, 80, 81, 82, 83, 84, 85, 86, 87, 88, 89, 90, 91, 92, 93] (by decide +kernel) (by decide +kernel)
set_option maxRecDepth 20000 in
theorem gX5_rate_X5_isTown : GoodIn wsX5_rate (wsV RX5 144 RX5 yX5_isTown wsX5_isTown) := goodIn_app (goodIn_of _ (by decide +kernel)) ggX5_rate_X5_isTown
set_option maxRecDepth 20000 in
theorem ggX5_rate_X5_clockIn : GoodIn wsX5_rate wsX5_clockIn := goodIn_r _ [23, 24, 25, 26, 13, 27, 28, 29, 30, 31, 32, 33, 34, 35, 36, 37, 38, 39, 40, 41, 42, 43, 44, 45, 46, 47, 48, 49, 2, 50, 51, 52, 53, 54, 55, 56, 57, 63, 64, 65, 66, 67, 68, 69, 70, 71, 72, 73, 74, 75, 76, 77, 78, 79, 80, 81, 82, 83, 84, 85, 86, 87, 88, 89, 90, 91, 92, 93] (by decide +kernel) (by decide +kernel)
set_option maxRecDepth 20000 in
theorem gX5_rate_X5_clockIn : GoodIn wsX5_rate (wsV RX5 181 RX5 yX5_clockIn wsX5_clockIn) := goodIn_app (goodIn_of _ (by decide +kernel)) ggX5_rate_X5_clockIn
set_option maxRecDepth 20000 in
theorem ggX5_rate_X5_roadsOf : GoodIn wsX5_rate wsX5_roadsOf := goodIn_r _ [61, 62, 54, 63, 64, 65, 66, 67, 68, 69, 70, 71, 72, 73, 74, 75, 76, 77, 78, 79, 80, 81, 82, 83, 84, 85, 86, 87, 88, 89, 90, 91, 92, 93] (by decide +kernel) (by decide +kernel)
set_option maxRecDepth 20000 in
theorem gX5_rate_X5_roadsOf : GoodIn wsX5_rate (wsV RX5 148 RX5 yX5_roadsOf wsX5_roadsOf) := goodIn_app (goodIn_of _ (by decide +kernel)) ggX5_rate_X5_roadsOf
theorem dX5_rate_0 : decode cX5_rate 0 = .ok (.aload_n 0, 1) := by decide +kernel
theorem dX5_rate_1 : decode cX5_rate 1 = .ok (.iconst 0, 1) := by decide +kernel
theorem dX5_rate_2 : decode cX5_rate 2 = .ok (.putfield 53, 3) := by decide +kernel
theorem dX5_rate_5 : decode cX5_rate 5 = .ok (.iload_n 1, 1) := by decide +kernel
theorem dX5_rate_6 : decode cX5_rate 6 = .ok (.iconst 0, 1) := by decide +kernel
theorem dX5_rate_7 : decode cX5_rate 7 = .ok (.iconst 5, 1) := by decide +kernel
theorem dX5_rate_8 : decode cX5_rate 8 = .ok (.invokestatic 57, 3) := by decide +kernel
theorem dX5_rate_11 : decode cX5_rate 11 = .ok (.ifCond .eq 11, 3) := by decide +kernel
theorem dX5_rate_14 : decode cX5_rate 14 = .ok (.aload_n 0, 1) := by decide +kernel
theorem dX5_rate_15 : decode cX5_rate 15 = .ok (.iload_n 2, 1) := by decide +kernel
theorem dX5_rate_16 : decode cX5_rate 16 = .ok (.invokevirtual 144, 3) := by decide +kernel
theorem dX5_rate_19 : decode cX5_rate 19 = .ok (.ifCond .ne 6, 3) := by decide +kernel
theorem dX5_rate_22 : decode cX5_rate 22 = .ok (.ldc 140, 2) := by decide +kernel
theorem dX5_rate_24 : decode cX5_rate 24 = .ok (.ireturn, 1) := by decide +kernel
theorem dX5_rate_25 : decode cX5_rate 25 = .ok (.aload_n 0, 1) := by decide +kernel
theorem dX5_rate_26 : decode cX5_rate 26 = .ok (.iload_n 2, 1) := by decide +kernel
theorem dX5_rate_27 : decode cX5_rate 27 = .ok (.aload_n 0, 1) := by decide +kernel
theorem dX5_rate_28 : decode cX5_rate 28 = .ok (.getfield 34, 3) := by decide +kernel
theorem dX5_rate_31 : decode cX5_rate 31 = .ok (.iconst 0, 1) := by decide +kernel
theorem dX5_rate_32 : decode cX5_rate 32 = .ok (.iaload, 1) := by decide +kernel
theorem dX5_rate_33 : decode cX5_rate 33 = .ok (.invokevirtual 181, 3) := by decide +kernel
theorem dX5_rate_36 : decode cX5_rate 36 = .ok (.istore_n 3, 1) := by decide +kernel
theorem dX5_rate_37 : decode cX5_rate 37 = .ok (.aload_n 0, 1) := by decide +kernel
theorem dX5_rate_38 : decode cX5_rate 38 = .ok (.getfield 13, 3) := by decide +kernel
theorem dX5_rate_41 : decode cX5_rate 41 = .ok (.iload_n 2, 1) := by decide +kernel
theorem dX5_rate_42 : decode cX5_rate 42 = .ok (.iaload, 1) := by decide +kernel
theorem dX5_rate_43 : decode cX5_rate 43 = .ok (.aload_n 0, 1) := by decide +kernel
theorem dX5_rate_44 : decode cX5_rate 44 = .ok (.iload_n 2, 1) := by decide +kernel
theorem dX5_rate_45 : decode cX5_rate 45 = .ok (.invokevirtual 148, 3) := by decide +kernel
theorem dX5_rate_48 : decode cX5_rate 48 = .ok (.iadd, 1) := by decide +kernel
theorem dX5_rate_49 : decode cX5_rate 49 = .ok (.istore 4, 2) := by decide +kernel
theorem dX5_rate_51 : decode cX5_rate 51 = .ok (.aload_n 0, 1) := by decide +kernel
theorem dX5_rate_52 : decode cX5_rate 52 = .ok (.getfield 13, 3) := by decide +kernel
theorem dX5_rate_55 : decode cX5_rate 55 = .ok (.iload_n 2, 1) := by decide +kernel
theorem dX5_rate_56 : decode cX5_rate 56 = .ok (.iaload, 1) := by decide +kernel
theorem dX5_rate_57 : decode cX5_rate 57 = .ok (.iload_n 3, 1) := by decide +kernel
theorem dX5_rate_58 : decode cX5_rate 58 = .ok (.bipush (-9), 2) := by decide +kernel
theorem dX5_rate_60 : decode cX5_rate 60 = .ok (.if_icmp .ne 7, 3) := by decide +kernel
theorem dX5_rate_63 : decode cX5_rate 63 = .ok (.iconst 0, 1) := by decide +kernel
theorem dX5_rate_64 : decode cX5_rate 64 = .ok (.goto 4, 3) := by decide +kernel
theorem dX5_rate_67 : decode cX5_rate 67 = .ok (.iload_n 3, 1) := by decide +kernel
theorem dX5_rate_68 : decode cX5_rate 68 = .ok (.isub, 1) := by decide +kernel
theorem dX5_rate_69 : decode cX5_rate 69 = .ok (.istore 5, 2) := by decide +kernel
theorem dX5_rate_71 : decode cX5_rate 71 = .ok (.aload_n 0, 1) := by decide +kernel
theorem dX5_rate_72 : decode cX5_rate 72 = .ok (.dup, 1) := by decide +kernel
theorem dX5_rate_73 : decode cX5_rate 73 = .ok (.getfield 203, 3) := by decide +kernel
theorem dX5_rate_76 : decode cX5_rate 76 = .ok (.iload_n 1, 1) := by decide +kernel
theorem dX5_rate_77 : decode cX5_rate 77 = .ok (.ifCond .ne 7, 3) := by decide +kernel
theorem dX5_rate_80 : decode cX5_rate 80 = .ok (.lconst 1, 1) := by decide +kernel
theorem dX5_rate_81 : decode cX5_rate 81 = .ok (.goto 50, 3) := by decide +kernel
theorem dX5_rate_84 : decode cX5_rate 84 = .ok (.iload_n 1, 1) := by decide +kernel
theorem dX5_rate_85 : decode cX5_rate 85 = .ok (.iconst 1, 1) := by decide +kernel
theorem dX5_rate_86 : decode cX5_rate 86 = .ok (.if_icmp .ne 9, 3) := by decide +kernel
theorem dX5_rate_89 : decode cX5_rate 89 = .ok (.ldc2_w 207, 3) := by decide +kernel
theorem dX5_rate_92 : decode cX5_rate 92 = .ok (.goto 39, 3) := by decide +kernel
theorem dX5_rate_95 : decode cX5_rate 95 = .ok (.iload_n 1, 1) := by decide +kernel
theorem dX5_rate_96 : decode cX5_rate 96 = .ok (.iconst 2, 1) := by decide +kernel
theorem dX5_rate_97 : decode cX5_rate 97 = .ok (.if_icmp .ne 9, 3) := by decide +kernel
theorem dX5_rate_100 : decode cX5_rate 100 = .ok (.ldc2_w 209, 3) := by decide +kernel
theorem dX5_rate_103 : decode cX5_rate 103 = .ok (.goto 28, 3) := by decide +kernel
theorem dX5_rate_106 : decode cX5_rate 106 = .ok (.iload_n 1, 1) := by decide +kernel
theorem dX5_rate_107 : decode cX5_rate 107 = .ok (.iconst 3, 1) := by decide +kernel
theorem dX5_rate_108 : decode cX5_rate 108 = .ok (.if_icmp .ne 9, 3) := by decide +kernel
theorem dX5_rate_111 : decode cX5_rate 111 = .ok (.ldc2_w 211, 3) := by decide +kernel
theorem dX5_rate_114 : decode cX5_rate 114 = .ok (.goto 17, 3) := by decide +kernel
theorem dX5_rate_117 : decode cX5_rate 117 = .ok (.iload_n 1, 1) := by decide +kernel
theorem dX5_rate_118 : decode cX5_rate 118 = .ok (.iconst 4, 1) := by decide +kernel
theorem dX5_rate_119 : decode cX5_rate 119 = .ok (.if_icmp .ne 9, 3) := by decide +kernel
theorem dX5_rate_122 : decode cX5_rate 122 = .ok (.ldc2_w 213, 3) := by decide +kernel
theorem dX5_rate_125 : decode cX5_rate 125 = .ok (.goto 6, 3) := by decide +kernel
theorem dX5_rate_128 : decode cX5_rate 128 = .ok (.ldc2_w 215, 3) := by decide +kernel
theorem dX5_rate_131 : decode cX5_rate 131 = .ok (.ladd, 1) := by decide +kernel
theorem dX5_rate_132 : decode cX5_rate 132 = .ok (.putfield 203, 3) := by decide +kernel
theorem dX5_rate_135 : decode cX5_rate 135 = .ok (.iload_n 1, 1) := by decide +kernel
theorem dX5_rate_136 : decode cX5_rate 136 = .ok (.ifCond .ne 12, 3) := by decide +kernel
theorem dX5_rate_139 : decode cX5_rate 139 = .ok (.aload_n 0, 1) := by decide +kernel
theorem dX5_rate_140 : decode cX5_rate 140 = .ok (.getfield 13, 3) := by decide +kernel
theorem dX5_rate_143 : decode cX5_rate 143 = .ok (.iload_n 2, 1) := by decide +kernel
theorem dX5_rate_144 : decode cX5_rate 144 = .ok (.iaload, 1) := by decide +kernel
theorem dX5_rate_145 : decode cX5_rate 145 = .ok (.goto 60, 3) := by decide +kernel
theorem dX5_rate_148 : decode cX5_rate 148 = .ok (.iload_n 1, 1) := by decide +kernel
theorem dX5_rate_149 : decode cX5_rate 149 = .ok (.iconst 1, 1) := by decide +kernel
theorem dX5_rate_150 : decode cX5_rate 150 = .ok (.if_icmp .ne 8, 3) := by decide +kernel
theorem dX5_rate_153 : decode cX5_rate 153 = .ok (.iload 4, 2) := by decide +kernel
theorem dX5_rate_155 : decode cX5_rate 155 = .ok (.goto 50, 3) := by decide +kernel
theorem dX5_rate_158 : decode cX5_rate 158 = .ok (.iload_n 1, 1) := by decide +kernel
theorem dX5_rate_159 : decode cX5_rate 159 = .ok (.iconst 2, 1) := by decide +kernel
theorem dX5_rate_160 : decode cX5_rate 160 = .ok (.if_icmp .ne 8, 3) := by decide +kernel
theorem dX5_rate_163 : decode cX5_rate 163 = .ok (.iload 5, 2) := by decide +kernel
theorem dX5_rate_165 : decode cX5_rate 165 = .ok (.goto 40, 3) := by decide +kernel
theorem dX5_rate_168 : decode cX5_rate 168 = .ok (.iload_n 1, 1) := by decide +kernel
theorem dX5_rate_169 : decode cX5_rate 169 = .ok (.iconst 3, 1) := by decide +kernel
theorem dX5_rate_170 : decode cX5_rate 170 = .ok (.if_icmp .ne 10, 3) := by decide +kernel
theorem dX5_rate_173 : decode cX5_rate 173 = .ok (.iconst 2, 1) := by decide +kernel
theorem dX5_rate_174 : decode cX5_rate 174 = .ok (.iload 4, 2) := by decide +kernel
theorem dX5_rate_176 : decode cX5_rate 176 = .ok (.imul, 1) := by decide +kernel
theorem dX5_rate_177 : decode cX5_rate 177 = .ok (.goto 28, 3) := by decide +kernel
theorem dX5_rate_180 : decode cX5_rate 180 = .ok (.iload_n 1, 1) := by decide +kernel
theorem dX5_rate_181 : decode cX5_rate 181 = .ok (.iconst 4, 1) := by decide +kernel
theorem dX5_rate_182 : decode cX5_rate 182 = .ok (.if_icmp .ne 10, 3) := by decide +kernel
theorem dX5_rate_185 : decode cX5_rate 185 = .ok (.iload 5, 2) := by decide +kernel
theorem dX5_rate_187 : decode cX5_rate 187 = .ok (.iload_n 2, 1) := by decide +kernel
theorem dX5_rate_188 : decode cX5_rate 188 = .ok (.iadd, 1) := by decide +kernel
theorem dX5_rate_189 : decode cX5_rate 189 = .ok (.goto 16, 3) := by decide +kernel
theorem dX5_rate_192 : decode cX5_rate 192 = .ok (.aload_n 0, 1) := by decide +kernel
theorem dX5_rate_193 : decode cX5_rate 193 = .ok (.getfield 13, 3) := by decide +kernel
theorem dX5_rate_196 : decode cX5_rate 196 = .ok (.iload_n 2, 1) := by decide +kernel
theorem dX5_rate_197 : decode cX5_rate 197 = .ok (.iaload, 1) := by decide +kernel
theorem dX5_rate_198 : decode cX5_rate 198 = .ok (.aload_n 0, 1) := by decide +kernel
theorem dX5_rate_199 : decode cX5_rate 199 = .ok (.getfield 34, 3) := by decide +kernel
theorem dX5_rate_202 : decode cX5_rate 202 = .ok (.iconst 0, 1) := by decide +kernel
theorem dX5_rate_203 : decode cX5_rate 203 = .ok (.iaload, 1) := by decide +kernel
theorem dX5_rate_204 : decode cX5_rate 204 = .ok (.iadd, 1) := by decide +kernel
theorem dX5_rate_205 : decode cX5_rate 205 = .ok (.ireturn, 1) := by decide +kernel
set_option maxRecDepth 20000 in
theorem ggX5_keep_X5_in : GoodIn wsX5_keep wsX5_in := goodIn_r _ [8] (by decide +kernel) (by decide +kernel)
set_option maxRecDepth 20000 in
theorem gX5_keep_X5_in : GoodIn wsX5_keep (va_wsS RX5 57 yX5_in wsX5_in) := goodIn_app (goodIn_of _ (by decide +kernel)) ggX5_keep_X5_in
theorem dX5_keep_0 : decode cX5_keep 0 = .ok (.aload_n 0, 1) := by decide +kernel
theorem dX5_keep_1 : decode cX5_keep 1 = .ok (.iconst 0, 1) := by decide +kernel
theorem dX5_keep_2 : decode cX5_keep 2 = .ok (.putfield 53, 3) := by decide +kernel
theorem dX5_keep_5 : decode cX5_keep 5 = .ok (.iload_n 1, 1) := by decide +kernel
theorem dX5_keep_6 : decode cX5_keep 6 = .ok (.iconst 0, 1) := by decide +kernel
theorem dX5_keep_7 : decode cX5_keep 7 = .ok (.iconst 1, 1) := by decide +kernel
theorem dX5_keep_8 : decode cX5_keep 8 = .ok (.invokestatic 57, 3) := by decide +kernel
theorem dX5_keep_11 : decode cX5_keep 11 = .ok (.ifCond .ne 5, 3) := by decide +kernel
theorem dX5_keep_14 : decode cX5_keep 14 = .ok (.iconst (-1), 1) := by decide +kernel
theorem dX5_keep_15 : decode cX5_keep 15 = .ok (.ireturn, 1) := by decide +kernel
theorem dX5_keep_16 : decode cX5_keep 16 = .ok (.iconst 0, 1) := by decide +kernel
theorem dX5_keep_17 : decode cX5_keep 17 = .ok (.istore_n 2, 1) := by decide +kernel
theorem dX5_keep_18 : decode cX5_keep 18 = .ok (.iload_n 2, 1) := by decide +kernel
theorem dX5_keep_19 : decode cX5_keep 19 = .ok (.bipush 26, 2) := by decide +kernel
theorem dX5_keep_21 : decode cX5_keep 21 = .ok (.if_icmp .ge 26, 3) := by decide +kernel
theorem dX5_keep_24 : decode cX5_keep 24 = .ok (.aload_n 0, 1) := by decide +kernel
theorem dX5_keep_25 : decode cX5_keep 25 = .ok (.getfield 37, 3) := by decide +kernel
theorem dX5_keep_28 : decode cX5_keep 28 = .ok (.bipush 26, 2) := by decide +kernel
theorem dX5_keep_30 : decode cX5_keep 30 = .ok (.iload_n 1, 1) := by decide +kernel
theorem dX5_keep_31 : decode cX5_keep 31 = .ok (.imul, 1) := by decide +kernel
theorem dX5_keep_32 : decode cX5_keep 32 = .ok (.iload_n 2, 1) := by decide +kernel
theorem dX5_keep_33 : decode cX5_keep 33 = .ok (.iadd, 1) := by decide +kernel
theorem dX5_keep_34 : decode cX5_keep 34 = .ok (.aload_n 0, 1) := by decide +kernel
theorem dX5_keep_35 : decode cX5_keep 35 = .ok (.getfield 34, 3) := by decide +kernel
theorem dX5_keep_38 : decode cX5_keep 38 = .ok (.iload_n 2, 1) := by decide +kernel
theorem dX5_keep_39 : decode cX5_keep 39 = .ok (.iaload, 1) := by decide +kernel
theorem dX5_keep_40 : decode cX5_keep 40 = .ok (.iastore, 1) := by decide +kernel
theorem dX5_keep_41 : decode cX5_keep 41 = .ok (.iinc 2 1, 3) := by decide +kernel
theorem dX5_keep_44 : decode cX5_keep 44 = .ok (.goto (-26), 3) := by decide +kernel
theorem dX5_keep_47 : decode cX5_keep 47 = .ok (.aload_n 0, 1) := by decide +kernel
theorem dX5_keep_48 : decode cX5_keep 48 = .ok (.getfield 40, 3) := by decide +kernel
theorem dX5_keep_51 : decode cX5_keep 51 = .ok (.iload_n 1, 1) := by decide +kernel
theorem dX5_keep_52 : decode cX5_keep 52 = .ok (.iconst 1, 1) := by decide +kernel
theorem dX5_keep_53 : decode cX5_keep 53 = .ok (.bastore, 1) := by decide +kernel
theorem dX5_keep_54 : decode cX5_keep 54 = .ok (.aload_n 0, 1) := by decide +kernel
theorem dX5_keep_55 : decode cX5_keep 55 = .ok (.getfield 34, 3) := by decide +kernel
theorem dX5_keep_58 : decode cX5_keep 58 = .ok (.iconst 0, 1) := by decide +kernel
theorem dX5_keep_59 : decode cX5_keep 59 = .ok (.iaload, 1) := by decide +kernel
theorem dX5_keep_60 : decode cX5_keep 60 = .ok (.ireturn, 1) := by decide +kernel
set_option maxRecDepth 20000 in
theorem ggX5_back_X5_in : GoodIn wsX5_back wsX5_in := goodIn_r _ [8] (by decide +kernel) (by decide +kernel)
set_option maxRecDepth 20000 in
theorem gX5_back_X5_in : GoodIn wsX5_back (va_wsS RX5 57 yX5_in wsX5_in) := goodIn_app (goodIn_of _ (by decide +kernel)) ggX5_back_X5_in
theorem dX5_back_0 : decode cX5_back 0 = .ok (.aload_n 0, 1) := by decide +kernel
theorem dX5_back_1 : decode cX5_back 1 = .ok (.iconst 0, 1) := by decide +kernel
theorem dX5_back_2 : decode cX5_back 2 = .ok (.putfield 53, 3) := by decide +kernel
theorem dX5_back_5 : decode cX5_back 5 = .ok (.iload_n 1, 1) := by decide +kernel
theorem dX5_back_6 : decode cX5_back 6 = .ok (.iconst 0, 1) := by decide +kernel
theorem dX5_back_7 : decode cX5_back 7 = .ok (.iconst 1, 1) := by decide +kernel
theorem dX5_back_8 : decode cX5_back 8 = .ok (.invokestatic 57, 3) := by decide +kernel
theorem dX5_back_11 : decode cX5_back 11 = .ok (.ifCond .ne 5, 3) := by decide +kernel
theorem dX5_back_14 : decode cX5_back 14 = .ok (.iconst (-1), 1) := by decide +kernel
theorem dX5_back_15 : decode cX5_back 15 = .ok (.ireturn, 1) := by decide +kernel
theorem dX5_back_16 : decode cX5_back 16 = .ok (.aload_n 0, 1) := by decide +kernel
theorem dX5_back_17 : decode cX5_back 17 = .ok (.getfield 40, 3) := by decide +kernel
theorem dX5_back_20 : decode cX5_back 20 = .ok (.iload_n 1, 1) := by decide +kernel
theorem dX5_back_21 : decode cX5_back 21 = .ok (.baload, 1) := by decide +kernel
theorem dX5_back_22 : decode cX5_back 22 = .ok (.ifCond .ne 6, 3) := by decide +kernel
theorem dX5_back_25 : decode cX5_back 25 = .ok (.bipush (-2), 2) := by decide +kernel
theorem dX5_back_27 : decode cX5_back 27 = .ok (.ireturn, 1) := by decide +kernel
theorem dX5_back_28 : decode cX5_back 28 = .ok (.iconst 0, 1) := by decide +kernel
theorem dX5_back_29 : decode cX5_back 29 = .ok (.istore_n 2, 1) := by decide +kernel
theorem dX5_back_30 : decode cX5_back 30 = .ok (.iload_n 2, 1) := by decide +kernel
theorem dX5_back_31 : decode cX5_back 31 = .ok (.bipush 26, 2) := by decide +kernel
theorem dX5_back_33 : decode cX5_back 33 = .ok (.if_icmp .ge 26, 3) := by decide +kernel
theorem dX5_back_36 : decode cX5_back 36 = .ok (.aload_n 0, 1) := by decide +kernel
theorem dX5_back_37 : decode cX5_back 37 = .ok (.getfield 34, 3) := by decide +kernel
theorem dX5_back_40 : decode cX5_back 40 = .ok (.iload_n 2, 1) := by decide +kernel
theorem dX5_back_41 : decode cX5_back 41 = .ok (.aload_n 0, 1) := by decide +kernel
theorem dX5_back_42 : decode cX5_back 42 = .ok (.getfield 37, 3) := by decide +kernel
theorem dX5_back_45 : decode cX5_back 45 = .ok (.bipush 26, 2) := by decide +kernel
theorem dX5_back_47 : decode cX5_back 47 = .ok (.iload_n 1, 1) := by decide +kernel
theorem dX5_back_48 : decode cX5_back 48 = .ok (.imul, 1) := by decide +kernel
theorem dX5_back_49 : decode cX5_back 49 = .ok (.iload_n 2, 1) := by decide +kernel
theorem dX5_back_50 : decode cX5_back 50 = .ok (.iadd, 1) := by decide +kernel
theorem dX5_back_51 : decode cX5_back 51 = .ok (.iaload, 1) := by decide +kernel
theorem dX5_back_52 : decode cX5_back 52 = .ok (.iastore, 1) := by decide +kernel
theorem dX5_back_53 : decode cX5_back 53 = .ok (.iinc 2 1, 3) := by decide +kernel
theorem dX5_back_56 : decode cX5_back 56 = .ok (.goto (-26), 3) := by decide +kernel
theorem dX5_back_59 : decode cX5_back 59 = .ok (.aload_n 0, 1) := by decide +kernel
theorem dX5_back_60 : decode cX5_back 60 = .ok (.getfield 34, 3) := by decide +kernel
theorem dX5_back_63 : decode cX5_back 63 = .ok (.iconst 0, 1) := by decide +kernel
theorem dX5_back_64 : decode cX5_back 64 = .ok (.iaload, 1) := by decide +kernel
theorem dX5_back_65 : decode cX5_back 65 = .ok (.ireturn, 1) := by decide +kernel
theorem dX5_count_0 : decode cX5_count 0 = .ok (.aload_n 0, 1) := by decide +kernel
theorem dX5_count_1 : decode cX5_count 1 = .ok (.iconst 0, 1) := by decide +kernel
theorem dX5_count_2 : decode cX5_count 2 = .ok (.putfield 53, 3) := by decide +kernel
theorem dX5_count_5 : decode cX5_count 5 = .ok (.iload_n 1, 1) := by decide +kernel
theorem dX5_count_6 : decode cX5_count 6 = .ok (.ifCond .ne 10, 3) := by decide +kernel
theorem dX5_count_9 : decode cX5_count 9 = .ok (.aload_n 0, 1) := by decide +kernel
theorem dX5_count_10 : decode cX5_count 10 = .ok (.getfield 131, 3) := by decide +kernel
theorem dX5_count_13 : decode cX5_count 13 = .ok (.goto 68, 3) := by decide +kernel
theorem dX5_count_16 : decode cX5_count 16 = .ok (.iload_n 1, 1) := by decide +kernel
theorem dX5_count_17 : decode cX5_count 17 = .ok (.iconst 1, 1) := by decide +kernel
theorem dX5_count_18 : decode cX5_count 18 = .ok (.if_icmp .ne 10, 3) := by decide +kernel
theorem dX5_count_21 : decode cX5_count 21 = .ok (.aload_n 0, 1) := by decide +kernel
theorem dX5_count_22 : decode cX5_count 22 = .ok (.getfield 134, 3) := by decide +kernel
theorem dX5_count_25 : decode cX5_count 25 = .ok (.goto 56, 3) := by decide +kernel
theorem dX5_count_28 : decode cX5_count 28 = .ok (.iload_n 1, 1) := by decide +kernel
theorem dX5_count_29 : decode cX5_count 29 = .ok (.iconst 2, 1) := by decide +kernel
theorem dX5_count_30 : decode cX5_count 30 = .ok (.if_icmp .ne 10, 3) := by decide +kernel
theorem dX5_count_33 : decode cX5_count 33 = .ok (.aload_n 0, 1) := by decide +kernel
theorem dX5_count_34 : decode cX5_count 34 = .ok (.getfield 137, 3) := by decide +kernel
theorem dX5_count_37 : decode cX5_count 37 = .ok (.goto 44, 3) := by decide +kernel
theorem dX5_count_40 : decode cX5_count 40 = .ok (.iload_n 1, 1) := by decide +kernel
theorem dX5_count_41 : decode cX5_count 41 = .ok (.iconst 3, 1) := by decide +kernel
theorem dX5_count_42 : decode cX5_count 42 = .ok (.if_icmp .ne 12, 3) := by decide +kernel
theorem dX5_count_45 : decode cX5_count 45 = .ok (.aload_n 0, 1) := by decide +kernel
theorem dX5_count_46 : decode cX5_count 46 = .ok (.getfield 34, 3) := by decide +kernel
theorem dX5_count_49 : decode cX5_count 49 = .ok (.iconst 1, 1) := by decide +kernel
theorem dX5_count_50 : decode cX5_count 50 = .ok (.iaload, 1) := by decide +kernel
theorem dX5_count_51 : decode cX5_count 51 = .ok (.goto 30, 3) := by decide +kernel
theorem dX5_count_54 : decode cX5_count 54 = .ok (.iload_n 1, 1) := by decide +kernel
theorem dX5_count_55 : decode cX5_count 55 = .ok (.iconst 4, 1) := by decide +kernel
theorem dX5_count_56 : decode cX5_count 56 = .ok (.if_icmp .ne 12, 3) := by decide +kernel
theorem dX5_count_59 : decode cX5_count 59 = .ok (.aload_n 0, 1) := by decide +kernel
theorem dX5_count_60 : decode cX5_count 60 = .ok (.getfield 34, 3) := by decide +kernel
theorem dX5_count_63 : decode cX5_count 63 = .ok (.iconst 0, 1) := by decide +kernel
theorem dX5_count_64 : decode cX5_count 64 = .ok (.iaload, 1) := by decide +kernel
theorem dX5_count_65 : decode cX5_count 65 = .ok (.goto 16, 3) := by decide +kernel
theorem dX5_count_68 : decode cX5_count 68 = .ok (.iload_n 1, 1) := by decide +kernel
theorem dX5_count_69 : decode cX5_count 69 = .ok (.iconst 5, 1) := by decide +kernel
theorem dX5_count_70 : decode cX5_count 70 = .ok (.if_icmp .ne 10, 3) := by decide +kernel
theorem dX5_count_73 : decode cX5_count 73 = .ok (.aload_n 0, 1) := by decide +kernel
theorem dX5_count_74 : decode cX5_count 74 = .ok (.getfield 61, 3) := by decide +kernel
theorem dX5_count_77 : decode cX5_count 77 = .ok (.goto 4, 3) := by decide +kernel
theorem dX5_count_80 : decode cX5_count 80 = .ok (.iconst (-1), 1) := by decide +kernel
theorem dX5_count_81 : decode cX5_count 81 = .ok (.ireturn, 1) := by decide +kernel
theorem dX5_trace_0 : decode cX5_trace 0 = .ok (.aload_n 0, 1) := by decide +kernel
theorem dX5_trace_1 : decode cX5_trace 1 = .ok (.iconst 0, 1) := by decide +kernel
theorem dX5_trace_2 : decode cX5_trace 2 = .ok (.putfield 53, 3) := by decide +kernel
theorem dX5_trace_5 : decode cX5_trace 5 = .ok (.aload_n 0, 1) := by decide +kernel
theorem dX5_trace_6 : decode cX5_trace 6 = .ok (.getfield 203, 3) := by decide +kernel
theorem dX5_trace_9 : decode cX5_trace 9 = .ok (.lreturn, 1) := by decide +kernel
