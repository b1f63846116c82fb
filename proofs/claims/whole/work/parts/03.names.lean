theorem dX3_init_0 : decode cX3_init 0 = .ok (.aload_n 0, 1) := by decide +kernel
theorem dX3_init_1 : decode cX3_init 1 = .ok (.invokespecial 3, 3) := by decide +kernel
theorem dX3_init_4 : decode cX3_init 4 = .ok (.aload_n 0, 1) := by decide +kernel
theorem dX3_init_5 : decode cX3_init 5 = .ok (.sipush 300, 3) := by decide +kernel
theorem dX3_init_8 : decode cX3_init 8 = .ok (.newarray .int, 2) := by decide +kernel
theorem dX3_init_10 : decode cX3_init 10 = .ok (.putfield 9, 3) := by decide +kernel
theorem dX3_init_13 : decode cX3_init 13 = .ok (.aload_n 0, 1) := by decide +kernel
theorem dX3_init_14 : decode cX3_init 14 = .ok (.iconst 0, 1) := by decide +kernel
theorem dX3_init_15 : decode cX3_init 15 = .ok (.putfield 15, 3) := by decide +kernel
theorem dX3_init_18 : decode cX3_init 18 = .ok (.aload_n 0, 1) := by decide +kernel
theorem dX3_init_19 : decode cX3_init 19 = .ok (.iconst 0, 1) := by decide +kernel
theorem dX3_init_20 : decode cX3_init 20 = .ok (.putfield 19, 3) := by decide +kernel
theorem dX3_init_23 : decode cX3_init 23 = .ok (.aload_n 0, 1) := by decide +kernel
theorem dX3_init_24 : decode cX3_init 24 = .ok (.iconst 0, 1) := by decide +kernel
theorem dX3_init_25 : decode cX3_init 25 = .ok (.putfield 22, 3) := by decide +kernel
theorem dX3_init_28 : decode cX3_init 28 = .ok (.aload_n 0, 1) := by decide +kernel
theorem dX3_init_29 : decode cX3_init 29 = .ok (.iconst 0, 1) := by decide +kernel
theorem dX3_init_30 : decode cX3_init 30 = .ok (.putfield 25, 3) := by decide +kernel
theorem dX3_init_33 : decode cX3_init 33 = .ok (.aload_n 0, 1) := by decide +kernel
theorem dX3_init_34 : decode cX3_init 34 = .ok (.iconst 0, 1) := by decide +kernel
theorem dX3_init_35 : decode cX3_init 35 = .ok (.putfield 28, 3) := by decide +kernel
theorem dX3_init_38 : decode cX3_init 38 = .ok (.return_, 1) := by decide +kernel
theorem dX3_append_0 : decode cX3_append 0 = .ok (.aload_n 0, 1) := by decide +kernel
theorem dX3_append_1 : decode cX3_append 1 = .ok (.getfield 15, 3) := by decide +kernel
theorem dX3_append_4 : decode cX3_append 4 = .ok (.sipush 300, 3) := by decide +kernel
theorem dX3_append_7 : decode cX3_append 7 = .ok (.if_icmp .lt 4, 3) := by decide +kernel
theorem dX3_append_10 : decode cX3_append 10 = .ok (.return_, 1) := by decide +kernel
theorem dX3_append_11 : decode cX3_append 11 = .ok (.aload_n 0, 1) := by decide +kernel
theorem dX3_append_12 : decode cX3_append 12 = .ok (.getfield 9, 3) := by decide +kernel
theorem dX3_append_15 : decode cX3_append 15 = .ok (.aload_n 0, 1) := by decide +kernel
theorem dX3_append_16 : decode cX3_append 16 = .ok (.getfield 15, 3) := by decide +kernel
theorem dX3_append_19 : decode cX3_append 19 = .ok (.iload_n 1, 1) := by decide +kernel
theorem dX3_append_20 : decode cX3_append 20 = .ok (.iastore, 1) := by decide +kernel
theorem dX3_append_21 : decode cX3_append 21 = .ok (.aload_n 0, 1) := by decide +kernel
theorem dX3_append_22 : decode cX3_append 22 = .ok (.dup, 1) := by decide +kernel
theorem dX3_append_23 : decode cX3_append 23 = .ok (.getfield 15, 3) := by decide +kernel
theorem dX3_append_26 : decode cX3_append 26 = .ok (.iconst 1, 1) := by decide +kernel
theorem dX3_append_27 : decode cX3_append 27 = .ok (.iadd, 1) := by decide +kernel
theorem dX3_append_28 : decode cX3_append 28 = .ok (.putfield 15, 3) := by decide +kernel
theorem dX3_append_31 : decode cX3_append 31 = .ok (.return_, 1) := by decide +kernel
set_option maxRecDepth 20000 in
theorem ggX3_readAll_X1_reset : GoodIn wsX3_readAll wsX1_reset := goodIn_r _ [7, 8, 9, 10, 164, 165, 166, 167, 168, 169, 170, 171, 172, 173, 174, 175, 176, 177] (by decide +kernel) (by decide +kernel)
set_option maxRecDepth 20000 in
theorem gX3_readAll_X1_reset : GoodIn wsX3_readAll (wsV RX3 31 RX1 yX1_reset wsX1_reset) := goodIn_app (goodIn_of _ (by decide +kernel)) ggX3_readAll_X1_reset
set_option maxRecDepth 20000 in
theorem ggX3_readAll_X3_next : GoodIn wsX3_readAll wsX3_next := goodIn_r _ [15, 1, 16, 17, 2, 18, 19, 20, 21, 14, 22, 23, 24, 25, 26, 27, 28, 29, 30, 31, 32, 33, 34, 35, 36, 37, 38, 39, 40, 41, 42, 43, 44, 45, 46, 47, 48, 49, 50, 51, 52, 53, 54, 55, 56, 57, 58, 59, 60, 61, 62, 63, 64, 65, 66, 67, 68, 69, 70, 71, 72, 73, 74, 75, 76, 77, 78, 79, 80, 81, 82, 83, 84, 85, 86, 87, 88, 89, 90, 158, 159, 160, 161, 162, 163] (by decide +kernel) (by decide +kernel)
set_option maxRecDepth 20000 in
theorem gX3_readAll_X3_next : GoodIn wsX3_readAll (wsV RX3 36 RX3 yX3_next wsX3_next) := goodIn_app (goodIn_of _ (by decide +kernel)) ggX3_readAll_X3_next
set_option maxRecDepth 20000 in
theorem ggX3_readAll_X3_readTown : GoodIn wsX3_readAll wsX3_readTown := goodIn_r _ [94, 95, 18, 96, 97, 98, 14, 99, 2, 11, 12, 13, 15, 1, 16, 17, 19, 20, 21, 22, 23, 24, 25, 26, 27, 28, 29, 30, 31, 32, 33, 34, 35, 36, 37, 38, 39, 40, 41, 42, 43, 44, 45, 46, 47, 48, 49, 50, 51, 52, 53, 54, 55, 56, 57, 58, 59, 60, 61, 62, 63, 64, 65, 66, 67, 68, 69, 70, 71, 72, 73, 74, 75, 76, 77, 78, 79, 80, 81, 82, 83, 84, 85, 86, 87, 88, 89, 90, 100, 101, 102, 103, 104, 105, 106, 6, 107, 8, 108, 164, 165, 166, 167, 168, 169, 170, 171, 172, 173, 174, 175, 176, 177, 158, 159, 160, 161, 162, 163] (by decide +kernel) (by decide +kernel)
set_option maxRecDepth 20000 in
theorem gX3_readAll_X3_readTown : GoodIn wsX3_readAll (wsV RX3 39 RX3 yX3_readTown wsX3_readTown) := goodIn_app (goodIn_of _ (by decide +kernel)) ggX3_readAll_X3_readTown
set_option maxRecDepth 20000 in
theorem ggX3_readAll_X3_readRoad : GoodIn wsX3_readAll wsX3_readRoad := goodIn_r _ [112, 113, 95, 18, 96, 97, 98, 14, 99, 2, 11, 12, 13, 15, 1, 16, 17, 19, 20, 21, 22, 23, 24, 25, 26, 27, 28, 29, 30, 31, 32, 33, 34, 35, 36, 37, 38, 39, 40, 41, 42, 43, 44, 45, 46, 47, 48, 49, 50, 51, 52, 53, 54, 55, 56, 57, 58, 59, 60, 61, 62, 63, 64, 65, 66, 67, 68, 69, 70, 71, 72, 73, 74, 75, 76, 77, 78, 79, 80, 81, 82, 83, 84, 85, 86, 87, 88, 89, 90, 100, 101, 102, 103, 114, 115, 116, 6, 117, 9, 118, 119, 120, 164, 165, 166, 167, 168, 169, 170, 171, 172, 173, 174, 175, 176, 177, 158, 159, 160, 161, 162, 163] (by decide +kernel) (by decide +kernel)
set_option maxRecDepth 20000 in
theorem gX3_readAll_X3_readRoad : GoodIn wsX3_readAll (wsV RX3 43 RX3 yX3_readRoad wsX3_readRoad) := goodIn_app (goodIn_of _ (by decide +kernel)) ggX3_readAll_X3_readRoad
set_option maxRecDepth 20000 in
theorem ggX3_readAll_X3_readStop : GoodIn wsX3_readAll wsX3_readStop := goodIn_r _ [124, 125, 95, 18, 96, 97, 98, 14, 99, 2, 11, 12, 13, 15, 1, 16, 17, 19, 20, 21, 22, 23, 24, 25, 26, 27, 28, 29, 30, 31, 32, 33, 34, 35, 36, 37, 38, 39, 40, 41, 42, 43, 44, 45, 46, 47, 48, 49, 50, 51, 52, 53, 54, 55, 56, 57, 58, 59, 60, 61, 62, 63, 64, 65, 66, 67, 68, 69, 70, 71, 72, 73, 74, 75, 76, 77, 78, 79, 80, 81, 82, 83, 84, 85, 86, 87, 88, 89, 90, 126, 127, 128, 6, 129, 10, 130, 131, 132, 133, 8, 134, 135, 136, 137, 138, 9, 118, 119, 139, 140, 141, 142, 100, 101, 102, 103, 143, 144, 145, 146, 147, 148, 149, 120, 150, 151, 152, 153, 154, 155, 156, 157, 164, 165, 166, 167, 168, 169, 170, 171, 172, 173, 174, 175, 176, 177, 158, 159, 160, 161, 162, 163] (by decide +kernel) (by decide +kernel)
set_option maxRecDepth 20000 in
theorem gX3_readAll_X3_readStop : GoodIn wsX3_readAll (wsV RX3 46 RX3 yX3_readStop wsX3_readStop) := goodIn_app (goodIn_of _ (by decide +kernel)) ggX3_readAll_X3_readStop
theorem dX3_readAll_0 : decode cX3_readAll 0 = .ok (.aload_n 1, 1) := by decide +kernel
theorem dX3_readAll_1 : decode cX3_readAll 1 = .ok (.invokevirtual 31, 3) := by decide +kernel
theorem dX3_readAll_4 : decode cX3_readAll 4 = .ok (.aload_n 0, 1) := by decide +kernel
theorem dX3_readAll_5 : decode cX3_readAll 5 = .ok (.iconst 0, 1) := by decide +kernel
theorem dX3_readAll_6 : decode cX3_readAll 6 = .ok (.putfield 28, 3) := by decide +kernel
theorem dX3_readAll_9 : decode cX3_readAll 9 = .ok (.aload_n 0, 1) := by decide +kernel
theorem dX3_readAll_10 : decode cX3_readAll 10 = .ok (.invokevirtual 36, 3) := by decide +kernel
theorem dX3_readAll_13 : decode cX3_readAll 13 = .ok (.iconst 0, 1) := by decide +kernel
theorem dX3_readAll_14 : decode cX3_readAll 14 = .ok (.istore_n 2, 1) := by decide +kernel
theorem dX3_readAll_15 : decode cX3_readAll 15 = .ok (.aload_n 0, 1) := by decide +kernel
theorem dX3_readAll_16 : decode cX3_readAll 16 = .ok (.getfield 19, 3) := by decide +kernel
theorem dX3_readAll_19 : decode cX3_readAll 19 = .ok (.ifCond .eq 75, 3) := by decide +kernel
theorem dX3_readAll_22 : decode cX3_readAll 22 = .ok (.iload_n 2, 1) := by decide +kernel
theorem dX3_readAll_23 : decode cX3_readAll 23 = .ok (.sipush 300, 3) := by decide +kernel
theorem dX3_readAll_26 : decode cX3_readAll 26 = .ok (.if_icmp .ge 68, 3) := by decide +kernel
theorem dX3_readAll_29 : decode cX3_readAll 29 = .ok (.aload_n 0, 1) := by decide +kernel
theorem dX3_readAll_30 : decode cX3_readAll 30 = .ok (.getfield 19, 3) := by decide +kernel
theorem dX3_readAll_33 : decode cX3_readAll 33 = .ok (.istore_n 3, 1) := by decide +kernel
theorem dX3_readAll_34 : decode cX3_readAll 34 = .ok (.iload_n 3, 1) := by decide +kernel
theorem dX3_readAll_35 : decode cX3_readAll 35 = .ok (.iconst 1, 1) := by decide +kernel
theorem dX3_readAll_36 : decode cX3_readAll 36 = .ok (.if_icmp .ne 11, 3) := by decide +kernel
theorem dX3_readAll_39 : decode cX3_readAll 39 = .ok (.aload_n 0, 1) := by decide +kernel
theorem dX3_readAll_40 : decode cX3_readAll 40 = .ok (.aload_n 1, 1) := by decide +kernel
theorem dX3_readAll_41 : decode cX3_readAll 41 = .ok (.invokevirtual 39, 3) := by decide +kernel
theorem dX3_readAll_44 : decode cX3_readAll 44 = .ok (.goto 34, 3) := by decide +kernel
theorem dX3_readAll_47 : decode cX3_readAll 47 = .ok (.iload_n 3, 1) := by decide +kernel
theorem dX3_readAll_48 : decode cX3_readAll 48 = .ok (.iconst 2, 1) := by decide +kernel
theorem dX3_readAll_49 : decode cX3_readAll 49 = .ok (.if_icmp .ne 11, 3) := by decide +kernel
theorem dX3_readAll_52 : decode cX3_readAll 52 = .ok (.aload_n 0, 1) := by decide +kernel
theorem dX3_readAll_53 : decode cX3_readAll 53 = .ok (.aload_n 1, 1) := by decide +kernel
theorem dX3_readAll_54 : decode cX3_readAll 54 = .ok (.invokevirtual 43, 3) := by decide +kernel
theorem dX3_readAll_57 : decode cX3_readAll 57 = .ok (.goto 21, 3) := by decide +kernel
theorem dX3_readAll_60 : decode cX3_readAll 60 = .ok (.iload_n 3, 1) := by decide +kernel
theorem dX3_readAll_61 : decode cX3_readAll 61 = .ok (.iconst 3, 1) := by decide +kernel
theorem dX3_readAll_62 : decode cX3_readAll 62 = .ok (.if_icmp .ne 15, 3) := by decide +kernel
theorem dX3_readAll_65 : decode cX3_readAll 65 = .ok (.aload_n 0, 1) := by decide +kernel
theorem dX3_readAll_66 : decode cX3_readAll 66 = .ok (.aload_n 1, 1) := by decide +kernel
theorem dX3_readAll_67 : decode cX3_readAll 67 = .ok (.invokevirtual 46, 3) := by decide +kernel
theorem dX3_readAll_70 : decode cX3_readAll 70 = .ok (.ifCond .eq 7, 3) := by decide +kernel
theorem dX3_readAll_73 : decode cX3_readAll 73 = .ok (.iconst 1, 1) := by decide +kernel
theorem dX3_readAll_74 : decode cX3_readAll 74 = .ok (.goto 4, 3) := by decide +kernel
theorem dX3_readAll_77 : decode cX3_readAll 77 = .ok (.iconst 0, 1) := by decide +kernel
theorem dX3_readAll_78 : decode cX3_readAll 78 = .ok (.istore 4, 2) := by decide +kernel
theorem dX3_readAll_80 : decode cX3_readAll 80 = .ok (.iload 4, 2) := by decide +kernel
theorem dX3_readAll_82 : decode cX3_readAll 82 = .ok (.ifCond .ne 6, 3) := by decide +kernel
theorem dX3_readAll_85 : decode cX3_readAll 85 = .ok (.bipush (-9), 2) := by decide +kernel
theorem dX3_readAll_87 : decode cX3_readAll 87 = .ok (.ireturn, 1) := by decide +kernel
theorem dX3_readAll_88 : decode cX3_readAll 88 = .ok (.iinc 2 1, 3) := by decide +kernel
theorem dX3_readAll_91 : decode cX3_readAll 91 = .ok (.goto (-76), 3) := by decide +kernel
theorem dX3_readAll_94 : decode cX3_readAll 94 = .ok (.iload_n 2, 1) := by decide +kernel
theorem dX3_readAll_95 : decode cX3_readAll 95 = .ok (.ireturn, 1) := by decide +kernel
set_option maxRecDepth 20000 in
theorem ggX3_readTown_X3_readNumber : GoodIn wsX3_readTown wsX3_readNumber := goodIn_r _ [7, 8, 2, 9, 10, 11, 6, 12, 13, 14, 15, 16, 17, 18, 19, 20, 21, 22, 23, 24, 25, 26, 27, 28, 29, 30, 31, 32, 33, 34, 35, 36, 37, 38, 39, 40, 41, 42, 43, 44, 45, 46, 47, 48, 49, 50, 51, 52, 53, 54, 55, 56, 57, 58, 59, 60, 61, 62, 63, 64, 65, 66, 67, 68, 69, 70, 71, 72, 73, 74, 75, 76, 77, 78, 79, 80, 81, 82, 83, 84, 85, 86, 87, 113, 114, 115, 116, 117, 118] (by decide +kernel) (by decide +kernel)
set_option maxRecDepth 20000 in
theorem gX3_readTown_X3_readNumber : GoodIn wsX3_readTown (wsV RX3 52 RX3 yX3_readNumber wsX3_readNumber) := goodIn_app (goodIn_of _ (by decide +kernel)) ggX3_readTown_X3_readNumber
set_option maxRecDepth 20000 in
theorem ggX3_readTown_X3_readSemicolon : GoodIn wsX3_readTown wsX3_readSemicolon := goodIn_r _ [91, 8, 9, 10, 11, 6, 12, 13, 14, 15, 2, 16, 17, 18, 19, 20, 21, 22, 23, 24, 25, 26, 27, 28, 29, 30, 31, 32, 33, 34, 35, 36, 37, 38, 39, 40, 41, 42, 43, 44, 45, 46, 47, 48, 49, 50, 51, 52, 53, 54, 55, 56, 57, 58, 59, 60, 61, 62, 63, 64, 65, 66, 67, 68, 69, 70, 71, 72, 73, 74, 75, 76, 77, 78, 79, 80, 81, 82, 83, 84, 85, 86, 87, 113, 114, 115, 116, 117, 118] (by decide +kernel) (by decide +kernel)
set_option maxRecDepth 20000 in
theorem gX3_readTown_X3_readSemicolon : GoodIn wsX3_readTown (wsV RX3 56 RX3 yX3_readSemicolon wsX3_readSemicolon) := goodIn_app (goodIn_of _ (by decide +kernel)) ggX3_readTown_X3_readSemicolon
set_option maxRecDepth 20000 in
theorem ggX3_readTown_X1_addTown : GoodIn wsX3_readTown wsX1_addTown := goodIn_r _ [96, 97, 98, 99, 100, 101, 102, 103, 104, 105, 106, 107, 108, 109, 110, 111, 112] (by decide +kernel) (by decide +kernel)
set_option maxRecDepth 20000 in
theorem gX3_readTown_X1_addTown : GoodIn wsX3_readTown (wsV RX3 60 RX1 yX1_addTown wsX1_addTown) := goodIn_app (goodIn_of _ (by decide +kernel)) ggX3_readTown_X1_addTown
theorem dX3_readTown_0 : decode cX3_readTown 0 = .ok (.aload_n 1, 1) := by decide +kernel
theorem dX3_readTown_1 : decode cX3_readTown 1 = .ok (.getfield 49, 3) := by decide +kernel
theorem dX3_readTown_4 : decode cX3_readTown 4 = .ok (.bipush 6, 2) := by decide +kernel
theorem dX3_readTown_6 : decode cX3_readTown 6 = .ok (.if_icmp .lt 5, 3) := by decide +kernel
theorem dX3_readTown_9 : decode cX3_readTown 9 = .ok (.iconst 0, 1) := by decide +kernel
theorem dX3_readTown_10 : decode cX3_readTown 10 = .ok (.ireturn, 1) := by decide +kernel
theorem dX3_readTown_11 : decode cX3_readTown 11 = .ok (.aload_n 0, 1) := by decide +kernel
theorem dX3_readTown_12 : decode cX3_readTown 12 = .ok (.iconst 0, 1) := by decide +kernel
theorem dX3_readTown_13 : decode cX3_readTown 13 = .ok (.bipush 99, 2) := by decide +kernel
theorem dX3_readTown_15 : decode cX3_readTown 15 = .ok (.invokevirtual 52, 3) := by decide +kernel
theorem dX3_readTown_18 : decode cX3_readTown 18 = .ok (.ifCond .ne 5, 3) := by decide +kernel
theorem dX3_readTown_21 : decode cX3_readTown 21 = .ok (.iconst 0, 1) := by decide +kernel
theorem dX3_readTown_22 : decode cX3_readTown 22 = .ok (.ireturn, 1) := by decide +kernel
theorem dX3_readTown_23 : decode cX3_readTown 23 = .ok (.aload_n 0, 1) := by decide +kernel
theorem dX3_readTown_24 : decode cX3_readTown 24 = .ok (.getfield 22, 3) := by decide +kernel
theorem dX3_readTown_27 : decode cX3_readTown 27 = .ok (.istore_n 2, 1) := by decide +kernel
theorem dX3_readTown_28 : decode cX3_readTown 28 = .ok (.aload_n 0, 1) := by decide +kernel
theorem dX3_readTown_29 : decode cX3_readTown 29 = .ok (.invokevirtual 56, 3) := by decide +kernel
theorem dX3_readTown_32 : decode cX3_readTown 32 = .ok (.ifCond .ne 5, 3) := by decide +kernel
theorem dX3_readTown_35 : decode cX3_readTown 35 = .ok (.iconst 0, 1) := by decide +kernel
theorem dX3_readTown_36 : decode cX3_readTown 36 = .ok (.ireturn, 1) := by decide +kernel
theorem dX3_readTown_37 : decode cX3_readTown 37 = .ok (.aload_n 1, 1) := by decide +kernel
theorem dX3_readTown_38 : decode cX3_readTown 38 = .ok (.iload_n 2, 1) := by decide +kernel
theorem dX3_readTown_39 : decode cX3_readTown 39 = .ok (.invokevirtual 60, 3) := by decide +kernel
theorem dX3_readTown_42 : decode cX3_readTown 42 = .ok (.iconst 1, 1) := by decide +kernel
theorem dX3_readTown_43 : decode cX3_readTown 43 = .ok (.ireturn, 1) := by decide +kernel
set_option maxRecDepth 20000 in
theorem ggX3_readRoad_X3_readNumber : GoodIn wsX3_readRoad wsX3_readNumber := goodIn_r _ [8, 9, 3, 10, 11, 12, 7, 13, 14, 15, 16, 17, 18, 19, 20, 21, 22, 23, 24, 25, 26, 27, 28, 29, 30, 31, 32, 33, 34, 35, 36, 37, 38, 39, 40, 41, 42, 43, 44, 45, 46, 47, 48, 49, 50, 51, 52, 53, 54, 55, 56, 57, 58, 59, 60, 61, 62, 63, 64, 65, 66, 67, 68, 69, 70, 71, 72, 73, 74, 75, 76, 77, 78, 79, 80, 81, 82, 83, 84, 85, 86, 87, 88, 116, 117, 118, 119, 120, 121] (by decide +kernel) (by decide +kernel)
set_option maxRecDepth 20000 in
theorem gX3_readRoad_X3_readNumber : GoodIn wsX3_readRoad (wsV RX3 52 RX3 yX3_readNumber wsX3_readNumber) := goodIn_app (goodIn_of _ (by decide +kernel)) ggX3_readRoad_X3_readNumber
set_option maxRecDepth 20000 in
theorem ggX3_readRoad_X3_readSemicolon : GoodIn wsX3_readRoad wsX3_readSemicolon := goodIn_r _ [92, 9, 10, 11, 12, 7, 13, 14, 15, 16, 3, 17, 18, 19, 20, 21, 22, 23, 24, 25, 26, 27, 28, 29, 30, 31, 32, 33, 34, 35, 36, 37, 38, 39, 40, 41, 42, 43, 44, 45, 46, 47, 48, 49, 50, 51, 52, 53, 54, 55, 56, 57, 58, 59, 60, 61, 62, 63, 64, 65, 66, 67, 68, 69, 70, 71, 72, 73, 74, 75, 76, 77, 78, 79, 80, 81, 82, 83, 84, 85, 86, 87, 88, 116, 117, 118, 119, 120, 121] (by decide +kernel) (by decide +kernel)
set_option maxRecDepth 20000 in
theorem gX3_readRoad_X3_readSemicolon : GoodIn wsX3_readRoad (wsV RX3 56 RX3 yX3_readSemicolon wsX3_readSemicolon) := goodIn_app (goodIn_of _ (by decide +kernel)) ggX3_readRoad_X3_readSemicolon
set_option maxRecDepth 20000 in
theorem ggX3_readRoad_X1_addRoad : GoodIn wsX3_readRoad wsX1_addRoad := goodIn_r _ [97, 98, 99, 100, 101, 102, 103, 104, 105, 106, 107, 108, 109, 110, 111, 112, 113, 114, 115] (by decide +kernel) (by decide +kernel)
set_option maxRecDepth 20000 in
theorem gX3_readRoad_X1_addRoad : GoodIn wsX3_readRoad (wsV RX3 67 RX1 yX1_addRoad wsX1_addRoad) := goodIn_app (goodIn_of _ (by decide +kernel)) ggX3_readRoad_X1_addRoad
theorem dX3_readRoad_0 : decode cX3_readRoad 0 = .ok (.aload_n 1, 1) := by decide +kernel
theorem dX3_readRoad_1 : decode cX3_readRoad 1 = .ok (.getfield 64, 3) := by decide +kernel
theorem dX3_readRoad_4 : decode cX3_readRoad 4 = .ok (.bipush 10, 2) := by decide +kernel
theorem dX3_readRoad_6 : decode cX3_readRoad 6 = .ok (.if_icmp .lt 5, 3) := by decide +kernel
theorem dX3_readRoad_9 : decode cX3_readRoad 9 = .ok (.iconst 0, 1) := by decide +kernel
theorem dX3_readRoad_10 : decode cX3_readRoad 10 = .ok (.ireturn, 1) := by decide +kernel
theorem dX3_readRoad_11 : decode cX3_readRoad 11 = .ok (.aload_n 0, 1) := by decide +kernel
theorem dX3_readRoad_12 : decode cX3_readRoad 12 = .ok (.iconst 0, 1) := by decide +kernel
theorem dX3_readRoad_13 : decode cX3_readRoad 13 = .ok (.aload_n 1, 1) := by decide +kernel
theorem dX3_readRoad_14 : decode cX3_readRoad 14 = .ok (.getfield 49, 3) := by decide +kernel
theorem dX3_readRoad_17 : decode cX3_readRoad 17 = .ok (.iconst 1, 1) := by decide +kernel
theorem dX3_readRoad_18 : decode cX3_readRoad 18 = .ok (.isub, 1) := by decide +kernel
theorem dX3_readRoad_19 : decode cX3_readRoad 19 = .ok (.invokevirtual 52, 3) := by decide +kernel
theorem dX3_readRoad_22 : decode cX3_readRoad 22 = .ok (.ifCond .ne 5, 3) := by decide +kernel
theorem dX3_readRoad_25 : decode cX3_readRoad 25 = .ok (.iconst 0, 1) := by decide +kernel
theorem dX3_readRoad_26 : decode cX3_readRoad 26 = .ok (.ireturn, 1) := by decide +kernel
theorem dX3_readRoad_27 : decode cX3_readRoad 27 = .ok (.aload_n 0, 1) := by decide +kernel
theorem dX3_readRoad_28 : decode cX3_readRoad 28 = .ok (.getfield 22, 3) := by decide +kernel
theorem dX3_readRoad_31 : decode cX3_readRoad 31 = .ok (.istore_n 2, 1) := by decide +kernel
theorem dX3_readRoad_32 : decode cX3_readRoad 32 = .ok (.aload_n 0, 1) := by decide +kernel
theorem dX3_readRoad_33 : decode cX3_readRoad 33 = .ok (.iconst 0, 1) := by decide +kernel
theorem dX3_readRoad_34 : decode cX3_readRoad 34 = .ok (.aload_n 1, 1) := by decide +kernel
theorem dX3_readRoad_35 : decode cX3_readRoad 35 = .ok (.getfield 49, 3) := by decide +kernel
theorem dX3_readRoad_38 : decode cX3_readRoad 38 = .ok (.iconst 1, 1) := by decide +kernel
theorem dX3_readRoad_39 : decode cX3_readRoad 39 = .ok (.isub, 1) := by decide +kernel
theorem dX3_readRoad_40 : decode cX3_readRoad 40 = .ok (.invokevirtual 52, 3) := by decide +kernel
theorem dX3_readRoad_43 : decode cX3_readRoad 43 = .ok (.ifCond .eq 11, 3) := by decide +kernel
theorem dX3_readRoad_46 : decode cX3_readRoad 46 = .ok (.aload_n 0, 1) := by decide +kernel
theorem dX3_readRoad_47 : decode cX3_readRoad 47 = .ok (.getfield 22, 3) := by decide +kernel
theorem dX3_readRoad_50 : decode cX3_readRoad 50 = .ok (.iload_n 2, 1) := by decide +kernel
theorem dX3_readRoad_51 : decode cX3_readRoad 51 = .ok (.if_icmp .ne 5, 3) := by decide +kernel
theorem dX3_readRoad_54 : decode cX3_readRoad 54 = .ok (.iconst 0, 1) := by decide +kernel
theorem dX3_readRoad_55 : decode cX3_readRoad 55 = .ok (.ireturn, 1) := by decide +kernel
theorem dX3_readRoad_56 : decode cX3_readRoad 56 = .ok (.aload_n 0, 1) := by decide +kernel
theorem dX3_readRoad_57 : decode cX3_readRoad 57 = .ok (.getfield 22, 3) := by decide +kernel
theorem dX3_readRoad_60 : decode cX3_readRoad 60 = .ok (.istore_n 3, 1) := by decide +kernel
theorem dX3_readRoad_61 : decode cX3_readRoad 61 = .ok (.aload_n 0, 1) := by decide +kernel
theorem dX3_readRoad_62 : decode cX3_readRoad 62 = .ok (.iconst 1, 1) := by decide +kernel
theorem dX3_readRoad_63 : decode cX3_readRoad 63 = .ok (.bipush 30, 2) := by decide +kernel
theorem dX3_readRoad_65 : decode cX3_readRoad 65 = .ok (.invokevirtual 52, 3) := by decide +kernel
theorem dX3_readRoad_68 : decode cX3_readRoad 68 = .ok (.ifCond .ne 5, 3) := by decide +kernel
theorem dX3_readRoad_71 : decode cX3_readRoad 71 = .ok (.iconst 0, 1) := by decide +kernel
theorem dX3_readRoad_72 : decode cX3_readRoad 72 = .ok (.ireturn, 1) := by decide +kernel
theorem dX3_readRoad_73 : decode cX3_readRoad 73 = .ok (.aload_n 0, 1) := by decide +kernel
theorem dX3_readRoad_74 : decode cX3_readRoad 74 = .ok (.getfield 22, 3) := by decide +kernel
theorem dX3_readRoad_77 : decode cX3_readRoad 77 = .ok (.istore 4, 2) := by decide +kernel
theorem dX3_readRoad_79 : decode cX3_readRoad 79 = .ok (.aload_n 0, 1) := by decide +kernel
theorem dX3_readRoad_80 : decode cX3_readRoad 80 = .ok (.invokevirtual 56, 3) := by decide +kernel
theorem dX3_readRoad_83 : decode cX3_readRoad 83 = .ok (.ifCond .ne 5, 3) := by decide +kernel
theorem dX3_readRoad_86 : decode cX3_readRoad 86 = .ok (.iconst 0, 1) := by decide +kernel
theorem dX3_readRoad_87 : decode cX3_readRoad 87 = .ok (.ireturn, 1) := by decide +kernel
theorem dX3_readRoad_88 : decode cX3_readRoad 88 = .ok (.aload_n 1, 1) := by decide +kernel
theorem dX3_readRoad_89 : decode cX3_readRoad 89 = .ok (.iload_n 2, 1) := by decide +kernel
theorem dX3_readRoad_90 : decode cX3_readRoad 90 = .ok (.iload_n 3, 1) := by decide +kernel
theorem dX3_readRoad_91 : decode cX3_readRoad 91 = .ok (.iload 4, 2) := by decide +kernel
theorem dX3_readRoad_93 : decode cX3_readRoad 93 = .ok (.invokevirtual 67, 3) := by decide +kernel
theorem dX3_readRoad_96 : decode cX3_readRoad 96 = .ok (.iconst 1, 1) := by decide +kernel
theorem dX3_readRoad_97 : decode cX3_readRoad 97 = .ok (.ireturn, 1) := by decide +kernel
set_option maxRecDepth 20000 in
theorem ggX3_readStop_X3_readNumber : GoodIn wsX3_readStop wsX3_readNumber := goodIn_r _ [8, 9, 3, 10, 11, 12, 7, 13, 14, 15, 16, 17, 18, 19, 20, 21, 22, 23, 24, 25, 26, 27, 28, 29, 30, 31, 32, 33, 34, 35, 36, 37, 38, 39, 40, 41, 42, 43, 44, 45, 46, 47, 48, 49, 50, 51, 52, 53, 54, 55, 56, 57, 58, 59, 60, 61, 62, 63, 64, 65, 66, 67, 68, 69, 70, 71, 72, 73, 74, 75, 76, 77, 78, 79, 80, 81, 82, 83, 84, 85, 86, 87, 88, 146, 147, 148, 149, 150, 151] (by decide +kernel) (by decide +kernel)
set_option maxRecDepth 20000 in
theorem gX3_readStop_X3_readNumber : GoodIn wsX3_readStop (wsV RX3 52 RX3 yX3_readNumber wsX3_readNumber) := goodIn_app (goodIn_of _ (by decide +kernel)) ggX3_readStop_X3_readNumber
set_option maxRecDepth 20000 in
theorem ggX3_readStop_X1_canStopNext : GoodIn wsX3_readStop wsX1_canStopNext := goodIn_r _ [93, 94, 95, 96, 97, 92, 98, 99, 100, 101, 102, 103, 104, 105, 106, 107, 108, 109, 110, 111, 132, 133, 134, 135, 136, 137, 138, 139, 140, 141, 142, 143, 144, 145] (by decide +kernel) (by decide +kernel)
set_option maxRecDepth 20000 in
theorem gX3_readStop_X1_canStopNext : GoodIn wsX3_readStop (wsV RX3 74 RX1 yX1_canStopNext wsX1_canStopNext) := goodIn_app (goodIn_of _ (by decide +kernel)) ggX3_readStop_X1_canStopNext
set_option maxRecDepth 20000 in
theorem ggX3_readStop_X3_readSemicolon : GoodIn wsX3_readStop wsX3_readSemicolon := goodIn_r _ [115, 9, 10, 11, 12, 7, 13, 14, 15, 16, 3, 17, 18, 19, 20, 21, 22, 23, 24, 25, 26, 27, 28, 29, 30, 31, 32, 33, 34, 35, 36, 37, 38, 39, 40, 41, 42, 43, 44, 45, 46, 47, 48, 49, 50, 51, 52, 53, 54, 55, 56, 57, 58, 59, 60, 61, 62, 63, 64, 65, 66, 67, 68, 69, 70, 71, 72, 73, 74, 75, 76, 77, 78, 79, 80, 81, 82, 83, 84, 85, 86, 87, 88, 146, 147, 148, 149, 150, 151] (by decide +kernel) (by decide +kernel)
set_option maxRecDepth 20000 in
theorem gX3_readStop_X3_readSemicolon : GoodIn wsX3_readStop (wsV RX3 56 RX3 yX3_readSemicolon wsX3_readSemicolon) := goodIn_app (goodIn_of _ (by decide +kernel)) ggX3_readStop_X3_readSemicolon
set_option maxRecDepth 20000 in
theorem ggX3_readStop_X1_addStop : GoodIn wsX3_readStop wsX1_addStop := goodIn_r _ [119, 94, 104, 120, 121, 122, 123, 100, 101, 102, 92, 103, 105, 106, 107, 108, 109, 110, 111, 124, 125, 126, 127, 128, 129, 130, 131, 132, 133, 134, 135, 136, 137, 138, 139, 140, 141, 142, 143, 144, 145] (by decide +kernel) (by decide +kernel)
set_option maxRecDepth 20000 in
theorem gX3_readStop_X1_addStop : GoodIn wsX3_readStop (wsV RX3 78 RX1 yX1_addStop wsX1_addStop) := goodIn_app (goodIn_of _ (by decide +kernel)) ggX3_readStop_X1_addStop
theorem dX3_readStop_0 : decode cX3_readStop 0 = .ok (.aload_n 1, 1) := by decide +kernel
theorem dX3_readStop_1 : decode cX3_readStop 1 = .ok (.getfield 71, 3) := by decide +kernel
theorem dX3_readStop_4 : decode cX3_readStop 4 = .ok (.bipush 10, 2) := by decide +kernel
theorem dX3_readStop_6 : decode cX3_readStop 6 = .ok (.if_icmp .lt 5, 3) := by decide +kernel
theorem dX3_readStop_9 : decode cX3_readStop 9 = .ok (.iconst 0, 1) := by decide +kernel
theorem dX3_readStop_10 : decode cX3_readStop 10 = .ok (.ireturn, 1) := by decide +kernel
theorem dX3_readStop_11 : decode cX3_readStop 11 = .ok (.aload_n 0, 1) := by decide +kernel
theorem dX3_readStop_12 : decode cX3_readStop 12 = .ok (.iconst 0, 1) := by decide +kernel
theorem dX3_readStop_13 : decode cX3_readStop 13 = .ok (.aload_n 1, 1) := by decide +kernel
theorem dX3_readStop_14 : decode cX3_readStop 14 = .ok (.getfield 49, 3) := by decide +kernel
theorem dX3_readStop_17 : decode cX3_readStop 17 = .ok (.iconst 1, 1) := by decide +kernel
theorem dX3_readStop_18 : decode cX3_readStop 18 = .ok (.isub, 1) := by decide +kernel
theorem dX3_readStop_19 : decode cX3_readStop 19 = .ok (.invokevirtual 52, 3) := by decide +kernel
theorem dX3_readStop_22 : decode cX3_readStop 22 = .ok (.ifCond .eq 14, 3) := by decide +kernel
theorem dX3_readStop_25 : decode cX3_readStop 25 = .ok (.aload_n 1, 1) := by decide +kernel
theorem dX3_readStop_26 : decode cX3_readStop 26 = .ok (.aload_n 0, 1) := by decide +kernel
theorem dX3_readStop_27 : decode cX3_readStop 27 = .ok (.getfield 22, 3) := by decide +kernel
theorem dX3_readStop_30 : decode cX3_readStop 30 = .ok (.invokevirtual 74, 3) := by decide +kernel
theorem dX3_readStop_33 : decode cX3_readStop 33 = .ok (.ifCond .ne 5, 3) := by decide +kernel
theorem dX3_readStop_36 : decode cX3_readStop 36 = .ok (.iconst 0, 1) := by decide +kernel
theorem dX3_readStop_37 : decode cX3_readStop 37 = .ok (.ireturn, 1) := by decide +kernel
theorem dX3_readStop_38 : decode cX3_readStop 38 = .ok (.aload_n 0, 1) := by decide +kernel
theorem dX3_readStop_39 : decode cX3_readStop 39 = .ok (.getfield 22, 3) := by decide +kernel
theorem dX3_readStop_42 : decode cX3_readStop 42 = .ok (.istore_n 2, 1) := by decide +kernel
theorem dX3_readStop_43 : decode cX3_readStop 43 = .ok (.aload_n 0, 1) := by decide +kernel
theorem dX3_readStop_44 : decode cX3_readStop 44 = .ok (.iconst 0, 1) := by decide +kernel
theorem dX3_readStop_45 : decode cX3_readStop 45 = .ok (.bipush 9, 2) := by decide +kernel
theorem dX3_readStop_47 : decode cX3_readStop 47 = .ok (.invokevirtual 52, 3) := by decide +kernel
theorem dX3_readStop_50 : decode cX3_readStop 50 = .ok (.ifCond .ne 5, 3) := by decide +kernel
theorem dX3_readStop_53 : decode cX3_readStop 53 = .ok (.iconst 0, 1) := by decide +kernel
theorem dX3_readStop_54 : decode cX3_readStop 54 = .ok (.ireturn, 1) := by decide +kernel
theorem dX3_readStop_55 : decode cX3_readStop 55 = .ok (.aload_n 0, 1) := by decide +kernel
theorem dX3_readStop_56 : decode cX3_readStop 56 = .ok (.getfield 22, 3) := by decide +kernel
theorem dX3_readStop_59 : decode cX3_readStop 59 = .ok (.istore_n 3, 1) := by decide +kernel
theorem dX3_readStop_60 : decode cX3_readStop 60 = .ok (.aload_n 0, 1) := by decide +kernel
theorem dX3_readStop_61 : decode cX3_readStop 61 = .ok (.invokevirtual 56, 3) := by decide +kernel
theorem dX3_readStop_64 : decode cX3_readStop 64 = .ok (.ifCond .ne 5, 3) := by decide +kernel
theorem dX3_readStop_67 : decode cX3_readStop 67 = .ok (.iconst 0, 1) := by decide +kernel
theorem dX3_readStop_68 : decode cX3_readStop 68 = .ok (.ireturn, 1) := by decide +kernel
theorem dX3_readStop_69 : decode cX3_readStop 69 = .ok (.aload_n 1, 1) := by decide +kernel
theorem dX3_readStop_70 : decode cX3_readStop 70 = .ok (.iload_n 2, 1) := by decide +kernel
theorem dX3_readStop_71 : decode cX3_readStop 71 = .ok (.iload_n 3, 1) := by decide +kernel
theorem dX3_readStop_72 : decode cX3_readStop 72 = .ok (.invokevirtual 78, 3) := by decide +kernel
theorem dX3_readStop_75 : decode cX3_readStop 75 = .ok (.iconst 1, 1) := by decide +kernel
theorem dX3_readStop_76 : decode cX3_readStop 76 = .ok (.ireturn, 1) := by decide +kernel
set_option maxRecDepth 20000 in
theorem ggX3_readNumber_X3_next : GoodIn wsX3_readNumber wsX3_next := goodIn_r _ [7, 8, 9, 10, 1, 2, 11, 12, 13, 6, 14, 15, 16, 17, 18, 19, 20, 21, 22, 23, 24, 25, 26, 27, 28, 29, 30, 31, 32, 33, 34, 35, 36, 37, 38, 39, 40, 41, 42, 43, 44, 45, 46, 47, 48, 49, 50, 51, 52, 53, 54, 55, 56, 57, 58, 59, 60, 61, 62, 63, 64, 65, 66, 67, 68, 69, 70, 71, 72, 73, 74, 75, 76, 77, 78, 79, 80, 81, 82, 83, 84, 85, 86, 87, 88] (by decide +kernel) (by decide +kernel)
set_option maxRecDepth 20000 in
theorem gX3_readNumber_X3_next : GoodIn wsX3_readNumber (wsV RX3 36 RX3 yX3_next wsX3_next) := goodIn_app (goodIn_of _ (by decide +kernel)) ggX3_readNumber_X3_next
theorem dX3_readNumber_0 : decode cX3_readNumber 0 = .ok (.aload_n 0, 1) := by decide +kernel
theorem dX3_readNumber_1 : decode cX3_readNumber 1 = .ok (.invokevirtual 36, 3) := by decide +kernel
theorem dX3_readNumber_4 : decode cX3_readNumber 4 = .ok (.aload_n 0, 1) := by decide +kernel
theorem dX3_readNumber_5 : decode cX3_readNumber 5 = .ok (.getfield 19, 3) := by decide +kernel
theorem dX3_readNumber_8 : decode cX3_readNumber 8 = .ok (.iconst 4, 1) := by decide +kernel
theorem dX3_readNumber_9 : decode cX3_readNumber 9 = .ok (.if_icmp .ne 23, 3) := by decide +kernel
theorem dX3_readNumber_12 : decode cX3_readNumber 12 = .ok (.aload_n 0, 1) := by decide +kernel
theorem dX3_readNumber_13 : decode cX3_readNumber 13 = .ok (.getfield 22, 3) := by decide +kernel
theorem dX3_readNumber_16 : decode cX3_readNumber 16 = .ok (.iload_n 1, 1) := by decide +kernel
theorem dX3_readNumber_17 : decode cX3_readNumber 17 = .ok (.if_icmp .lt 15, 3) := by decide +kernel
theorem dX3_readNumber_20 : decode cX3_readNumber 20 = .ok (.aload_n 0, 1) := by decide +kernel
theorem dX3_readNumber_21 : decode cX3_readNumber 21 = .ok (.getfield 22, 3) := by decide +kernel
theorem dX3_readNumber_24 : decode cX3_readNumber 24 = .ok (.iload_n 2, 1) := by decide +kernel
theorem dX3_readNumber_25 : decode cX3_readNumber 25 = .ok (.if_icmp .gt 7, 3) := by decide +kernel
theorem dX3_readNumber_28 : decode cX3_readNumber 28 = .ok (.iconst 1, 1) := by decide +kernel
theorem dX3_readNumber_29 : decode cX3_readNumber 29 = .ok (.goto 4, 3) := by decide +kernel
theorem dX3_readNumber_32 : decode cX3_readNumber 32 = .ok (.iconst 0, 1) := by decide +kernel
theorem dX3_readNumber_33 : decode cX3_readNumber 33 = .ok (.ireturn, 1) := by decide +kernel
set_option maxRecDepth 20000 in
theorem ggX3_readSemicolon_X3_next : GoodIn wsX3_readSemicolon wsX3_next := goodIn_r _ [6, 7, 8, 9, 1, 10, 11, 12, 13, 5, 14, 15, 16, 17, 18, 19, 20, 21, 22, 23, 24, 25, 26, 27, 28, 29, 30, 31, 32, 33, 34, 35, 36, 37, 38, 39, 40, 41, 42, 43, 44, 45, 46, 47, 48, 49, 50, 51, 52, 53, 54, 55, 56, 57, 58, 59, 60, 61, 62, 63, 64, 65, 66, 67, 68, 69, 70, 71, 72, 73, 74, 75, 76, 77, 78, 79, 80, 81, 82, 83, 84, 85, 86, 87, 88] (by decide +kernel) (by decide +kernel)
set_option maxRecDepth 20000 in
theorem gX3_readSemicolon_X3_next : GoodIn wsX3_readSemicolon (wsV RX3 36 RX3 yX3_next wsX3_next) := goodIn_app (goodIn_of _ (by decide +kernel)) ggX3_readSemicolon_X3_next
theorem dX3_readSemicolon_0 : decode cX3_readSemicolon 0 = .ok (.aload_n 0, 1) := by decide +kernel
theorem dX3_readSemicolon_1 : decode cX3_readSemicolon 1 = .ok (.invokevirtual 36, 3) := by decide +kernel
theorem dX3_readSemicolon_4 : decode cX3_readSemicolon 4 = .ok (.aload_n 0, 1) := by decide +kernel
theorem dX3_readSemicolon_5 : decode cX3_readSemicolon 5 = .ok (.getfield 19, 3) := by decide +kernel
theorem dX3_readSemicolon_8 : decode cX3_readSemicolon 8 = .ok (.iconst 5, 1) := by decide +kernel
theorem dX3_readSemicolon_9 : decode cX3_readSemicolon 9 = .ok (.if_icmp .eq 5, 3) := by decide +kernel
theorem dX3_readSemicolon_12 : decode cX3_readSemicolon 12 = .ok (.iconst 0, 1) := by decide +kernel
theorem dX3_readSemicolon_13 : decode cX3_readSemicolon 13 = .ok (.ireturn, 1) := by decide +kernel
theorem dX3_readSemicolon_14 : decode cX3_readSemicolon 14 = .ok (.aload_n 0, 1) := by decide +kernel
theorem dX3_readSemicolon_15 : decode cX3_readSemicolon 15 = .ok (.invokevirtual 36, 3) := by decide +kernel
theorem dX3_readSemicolon_18 : decode cX3_readSemicolon 18 = .ok (.iconst 1, 1) := by decide +kernel
theorem dX3_readSemicolon_19 : decode cX3_readSemicolon 19 = .ok (.ireturn, 1) := by decide +kernel
set_option maxRecDepth 20000 in
theorem ggX3_next_X3_byteAt : GoodIn wsX3_next wsX3_byteAt := goodIn_r _ [10, 3, 11, 79, 80, 81, 82, 83, 84] (by decide +kernel) (by decide +kernel)
set_option maxRecDepth 20000 in
theorem gX3_next_X3_byteAt : GoodIn wsX3_next (wsV RX3 82 RX3 yX3_byteAt wsX3_byteAt) := goodIn_app (goodIn_of _ (by decide +kernel)) ggX3_next_X3_byteAt
set_option maxRecDepth 20000 in
theorem ggX3_next_X3_isLetter : GoodIn wsX3_next wsX3_isLetter := goodIn_r _ [14] (by decide +kernel) (by decide +kernel)
set_option maxRecDepth 20000 in
theorem gX3_next_X3_isLetter : GoodIn wsX3_next (va_wsS RX3 86 yX3_isLetter wsX3_isLetter) := goodIn_app (goodIn_of _ (by decide +kernel)) ggX3_next_X3_isLetter
set_option maxRecDepth 20000 in
theorem ggX3_next_X3_kindOfWord : GoodIn wsX3_next wsX3_kindOfWord := goodIn_r _ [18, 19, 20, 21, 9, 22, 1, 2, 23, 24, 25, 26, 27, 28, 29, 30, 31, 32, 33, 34, 6, 7, 8, 10, 3, 11, 35, 36, 37, 38, 39, 40, 41, 42, 43, 44, 45, 46, 47, 48, 49, 50, 51, 52, 53, 54, 55, 56, 57, 58, 59, 60, 61, 62, 63, 64, 65, 66, 67, 68, 69, 70, 71, 79, 80, 81, 82, 83, 84] (by decide +kernel) (by decide +kernel)
set_option maxRecDepth 20000 in
theorem gX3_next_X3_kindOfWord : GoodIn wsX3_next (wsV RX3 89 RX3 yX3_kindOfWord wsX3_kindOfWord) := goodIn_app (goodIn_of _ (by decide +kernel)) ggX3_next_X3_kindOfWord
set_option maxRecDepth 20000 in
theorem ggX3_next_X3_isDigit : GoodIn wsX3_next wsX3_isDigit := goodIn_r _ [74] (by decide +kernel) (by decide +kernel)
set_option maxRecDepth 20000 in
theorem gX3_next_X3_isDigit : GoodIn wsX3_next (va_wsS RX3 93 yX3_isDigit wsX3_isDigit) := goodIn_app (goodIn_of _ (by decide +kernel)) ggX3_next_X3_isDigit
set_option maxRecDepth 20000 in
theorem ggX3_next_X3_numberOfDigits : GoodIn wsX3_next wsX3_numberOfDigits := goodIn_r _ [78, 1, 2, 6, 7, 8, 9, 10, 3, 11, 79, 80, 81, 82, 83, 84] (by decide +kernel) (by decide +kernel)
set_option maxRecDepth 20000 in
theorem gX3_next_X3_numberOfDigits : GoodIn wsX3_next (wsV RX3 96 RX3 yX3_numberOfDigits wsX3_numberOfDigits) := goodIn_app (goodIn_of _ (by decide +kernel)) ggX3_next_X3_numberOfDigits
theorem dX3_next_0 : decode cX3_next 0 = .ok (.aload_n 0, 1) := by decide +kernel
theorem dX3_next_1 : decode cX3_next 1 = .ok (.aload_n 0, 1) := by decide +kernel
theorem dX3_next_2 : decode cX3_next 2 = .ok (.getfield 28, 3) := by decide +kernel
theorem dX3_next_5 : decode cX3_next 5 = .ok (.putfield 25, 3) := by decide +kernel
theorem dX3_next_8 : decode cX3_next 8 = .ok (.aload_n 0, 1) := by decide +kernel
theorem dX3_next_9 : decode cX3_next 9 = .ok (.getfield 25, 3) := by decide +kernel
theorem dX3_next_12 : decode cX3_next 12 = .ok (.aload_n 0, 1) := by decide +kernel
theorem dX3_next_13 : decode cX3_next 13 = .ok (.getfield 15, 3) := by decide +kernel
theorem dX3_next_16 : decode cX3_next 16 = .ok (.if_icmp .ge 29, 3) := by decide +kernel
theorem dX3_next_19 : decode cX3_next 19 = .ok (.aload_n 0, 1) := by decide +kernel
theorem dX3_next_20 : decode cX3_next 20 = .ok (.aload_n 0, 1) := by decide +kernel
theorem dX3_next_21 : decode cX3_next 21 = .ok (.getfield 25, 3) := by decide +kernel
theorem dX3_next_24 : decode cX3_next 24 = .ok (.invokevirtual 82, 3) := by decide +kernel
theorem dX3_next_27 : decode cX3_next 27 = .ok (.bipush 32, 2) := by decide +kernel
theorem dX3_next_29 : decode cX3_next 29 = .ok (.if_icmp .ne 16, 3) := by decide +kernel
theorem dX3_next_32 : decode cX3_next 32 = .ok (.aload_n 0, 1) := by decide +kernel
theorem dX3_next_33 : decode cX3_next 33 = .ok (.dup, 1) := by decide +kernel
theorem dX3_next_34 : decode cX3_next 34 = .ok (.getfield 25, 3) := by decide +kernel
theorem dX3_next_37 : decode cX3_next 37 = .ok (.iconst 1, 1) := by decide +kernel
theorem dX3_next_38 : decode cX3_next 38 = .ok (.iadd, 1) := by decide +kernel
theorem dX3_next_39 : decode cX3_next 39 = .ok (.putfield 25, 3) := by decide +kernel
theorem dX3_next_42 : decode cX3_next 42 = .ok (.goto (-34), 3) := by decide +kernel
theorem dX3_next_45 : decode cX3_next 45 = .ok (.aload_n 0, 1) := by decide +kernel
theorem dX3_next_46 : decode cX3_next 46 = .ok (.aload_n 0, 1) := by decide +kernel
theorem dX3_next_47 : decode cX3_next 47 = .ok (.getfield 25, 3) := by decide +kernel
theorem dX3_next_50 : decode cX3_next 50 = .ok (.putfield 28, 3) := by decide +kernel
theorem dX3_next_53 : decode cX3_next 53 = .ok (.aload_n 0, 1) := by decide +kernel
theorem dX3_next_54 : decode cX3_next 54 = .ok (.getfield 25, 3) := by decide +kernel
theorem dX3_next_57 : decode cX3_next 57 = .ok (.aload_n 0, 1) := by decide +kernel
theorem dX3_next_58 : decode cX3_next 58 = .ok (.getfield 15, 3) := by decide +kernel
theorem dX3_next_61 : decode cX3_next 61 = .ok (.if_icmp .lt 11, 3) := by decide +kernel
theorem dX3_next_64 : decode cX3_next 64 = .ok (.aload_n 0, 1) := by decide +kernel
theorem dX3_next_65 : decode cX3_next 65 = .ok (.iconst 0, 1) := by decide +kernel
theorem dX3_next_66 : decode cX3_next 66 = .ok (.putfield 19, 3) := by decide +kernel
theorem dX3_next_69 : decode cX3_next 69 = .ok (.goto 181, 3) := by decide +kernel
theorem dX3_next_72 : decode cX3_next 72 = .ok (.aload_n 0, 1) := by decide +kernel
theorem dX3_next_73 : decode cX3_next 73 = .ok (.aload_n 0, 1) := by decide +kernel
theorem dX3_next_74 : decode cX3_next 74 = .ok (.getfield 25, 3) := by decide +kernel
theorem dX3_next_77 : decode cX3_next 77 = .ok (.invokevirtual 82, 3) := by decide +kernel
theorem dX3_next_80 : decode cX3_next 80 = .ok (.invokestatic 86, 3) := by decide +kernel
theorem dX3_next_83 : decode cX3_next 83 = .ok (.ifCond .eq 52, 3) := by decide +kernel
theorem dX3_next_86 : decode cX3_next 86 = .ok (.aload_n 0, 1) := by decide +kernel
theorem dX3_next_87 : decode cX3_next 87 = .ok (.getfield 28, 3) := by decide +kernel
theorem dX3_next_90 : decode cX3_next 90 = .ok (.aload_n 0, 1) := by decide +kernel
theorem dX3_next_91 : decode cX3_next 91 = .ok (.getfield 15, 3) := by decide +kernel
theorem dX3_next_94 : decode cX3_next 94 = .ok (.if_icmp .ge 30, 3) := by decide +kernel
theorem dX3_next_97 : decode cX3_next 97 = .ok (.aload_n 0, 1) := by decide +kernel
theorem dX3_next_98 : decode cX3_next 98 = .ok (.aload_n 0, 1) := by decide +kernel
theorem dX3_next_99 : decode cX3_next 99 = .ok (.getfield 28, 3) := by decide +kernel
theorem dX3_next_102 : decode cX3_next 102 = .ok (.invokevirtual 82, 3) := by decide +kernel
theorem dX3_next_105 : decode cX3_next 105 = .ok (.invokestatic 86, 3) := by decide +kernel
theorem dX3_next_108 : decode cX3_next 108 = .ok (.ifCond .eq 16, 3) := by decide +kernel
theorem dX3_next_111 : decode cX3_next 111 = .ok (.aload_n 0, 1) := by decide +kernel
theorem dX3_next_112 : decode cX3_next 112 = .ok (.dup, 1) := by decide +kernel
theorem dX3_next_113 : decode cX3_next 113 = .ok (.getfield 28, 3) := by decide +kernel
theorem dX3_next_116 : decode cX3_next 116 = .ok (.iconst 1, 1) := by decide +kernel
theorem dX3_next_117 : decode cX3_next 117 = .ok (.iadd, 1) := by decide +kernel
theorem dX3_next_118 : decode cX3_next 118 = .ok (.putfield 28, 3) := by decide +kernel
theorem dX3_next_121 : decode cX3_next 121 = .ok (.goto (-35), 3) := by decide +kernel
theorem dX3_next_124 : decode cX3_next 124 = .ok (.aload_n 0, 1) := by decide +kernel
theorem dX3_next_125 : decode cX3_next 125 = .ok (.aload_n 0, 1) := by decide +kernel
theorem dX3_next_126 : decode cX3_next 126 = .ok (.invokevirtual 89, 3) := by decide +kernel
theorem dX3_next_129 : decode cX3_next 129 = .ok (.putfield 19, 3) := by decide +kernel
theorem dX3_next_132 : decode cX3_next 132 = .ok (.goto 118, 3) := by decide +kernel
theorem dX3_next_135 : decode cX3_next 135 = .ok (.aload_n 0, 1) := by decide +kernel
theorem dX3_next_136 : decode cX3_next 136 = .ok (.aload_n 0, 1) := by decide +kernel
theorem dX3_next_137 : decode cX3_next 137 = .ok (.getfield 25, 3) := by decide +kernel
theorem dX3_next_140 : decode cX3_next 140 = .ok (.invokevirtual 82, 3) := by decide +kernel
theorem dX3_next_143 : decode cX3_next 143 = .ok (.invokestatic 93, 3) := by decide +kernel
theorem dX3_next_146 : decode cX3_next 146 = .ok (.ifCond .eq 71, 3) := by decide +kernel
theorem dX3_next_149 : decode cX3_next 149 = .ok (.aload_n 0, 1) := by decide +kernel
theorem dX3_next_150 : decode cX3_next 150 = .ok (.getfield 28, 3) := by decide +kernel
theorem dX3_next_153 : decode cX3_next 153 = .ok (.aload_n 0, 1) := by decide +kernel
theorem dX3_next_154 : decode cX3_next 154 = .ok (.getfield 15, 3) := by decide +kernel
theorem dX3_next_157 : decode cX3_next 157 = .ok (.if_icmp .ge 30, 3) := by decide +kernel
theorem dX3_next_160 : decode cX3_next 160 = .ok (.aload_n 0, 1) := by decide +kernel
theorem dX3_next_161 : decode cX3_next 161 = .ok (.aload_n 0, 1) := by decide +kernel
theorem dX3_next_162 : decode cX3_next 162 = .ok (.getfield 28, 3) := by decide +kernel
theorem dX3_next_165 : decode cX3_next 165 = .ok (.invokevirtual 82, 3) := by decide +kernel
theorem dX3_next_168 : decode cX3_next 168 = .ok (.invokestatic 93, 3) := by decide +kernel
theorem dX3_next_171 : decode cX3_next 171 = .ok (.ifCond .eq 16, 3) := by decide +kernel
theorem dX3_next_174 : decode cX3_next 174 = .ok (.aload_n 0, 1) := by decide +kernel
theorem dX3_next_175 : decode cX3_next 175 = .ok (.dup, 1) := by decide +kernel
theorem dX3_next_176 : decode cX3_next 176 = .ok (.getfield 28, 3) := by decide +kernel
theorem dX3_next_179 : decode cX3_next 179 = .ok (.iconst 1, 1) := by decide +kernel
theorem dX3_next_180 : decode cX3_next 180 = .ok (.iadd, 1) := by decide +kernel
theorem dX3_next_181 : decode cX3_next 181 = .ok (.putfield 28, 3) := by decide +kernel
theorem dX3_next_184 : decode cX3_next 184 = .ok (.goto (-35), 3) := by decide +kernel
theorem dX3_next_187 : decode cX3_next 187 = .ok (.aload_n 0, 1) := by decide +kernel
theorem dX3_next_188 : decode cX3_next 188 = .ok (.aload_n 0, 1) := by decide +kernel
theorem dX3_next_189 : decode cX3_next 189 = .ok (.invokevirtual 96, 3) := by decide +kernel
theorem dX3_next_192 : decode cX3_next 192 = .ok (.putfield 22, 3) := by decide +kernel
theorem dX3_next_195 : decode cX3_next 195 = .ok (.aload_n 0, 1) := by decide +kernel
theorem dX3_next_196 : decode cX3_next 196 = .ok (.aload_n 0, 1) := by decide +kernel
theorem dX3_next_197 : decode cX3_next 197 = .ok (.getfield 22, 3) := by decide +kernel
theorem dX3_next_200 : decode cX3_next 200 = .ok (.bipush (-9), 2) := by decide +kernel
theorem dX3_next_202 : decode cX3_next 202 = .ok (.if_icmp .ne 8, 3) := by decide +kernel
theorem dX3_next_205 : decode cX3_next 205 = .ok (.bipush 6, 2) := by decide +kernel
theorem dX3_next_207 : decode cX3_next 207 = .ok (.goto 4, 3) := by decide +kernel
theorem dX3_next_210 : decode cX3_next 210 = .ok (.iconst 4, 1) := by decide +kernel
theorem dX3_next_211 : decode cX3_next 211 = .ok (.putfield 19, 3) := by decide +kernel
theorem dX3_next_214 : decode cX3_next 214 = .ok (.goto 36, 3) := by decide +kernel
theorem dX3_next_217 : decode cX3_next 217 = .ok (.aload_n 0, 1) := by decide +kernel
theorem dX3_next_218 : decode cX3_next 218 = .ok (.dup, 1) := by decide +kernel
theorem dX3_next_219 : decode cX3_next 219 = .ok (.getfield 28, 3) := by decide +kernel
theorem dX3_next_222 : decode cX3_next 222 = .ok (.iconst 1, 1) := by decide +kernel
theorem dX3_next_223 : decode cX3_next 223 = .ok (.iadd, 1) := by decide +kernel
theorem dX3_next_224 : decode cX3_next 224 = .ok (.putfield 28, 3) := by decide +kernel
theorem dX3_next_227 : decode cX3_next 227 = .ok (.aload_n 0, 1) := by decide +kernel
theorem dX3_next_228 : decode cX3_next 228 = .ok (.aload_n 0, 1) := by decide +kernel
theorem dX3_next_229 : decode cX3_next 229 = .ok (.aload_n 0, 1) := by decide +kernel
theorem dX3_next_230 : decode cX3_next 230 = .ok (.getfield 25, 3) := by decide +kernel
theorem dX3_next_233 : decode cX3_next 233 = .ok (.invokevirtual 82, 3) := by decide +kernel
theorem dX3_next_236 : decode cX3_next 236 = .ok (.bipush 59, 2) := by decide +kernel
theorem dX3_next_238 : decode cX3_next 238 = .ok (.if_icmp .ne 7, 3) := by decide +kernel
theorem dX3_next_241 : decode cX3_next 241 = .ok (.iconst 5, 1) := by decide +kernel
theorem dX3_next_242 : decode cX3_next 242 = .ok (.goto 5, 3) := by decide +kernel
theorem dX3_next_245 : decode cX3_next 245 = .ok (.bipush 6, 2) := by decide +kernel
theorem dX3_next_247 : decode cX3_next 247 = .ok (.putfield 19, 3) := by decide +kernel
theorem dX3_next_250 : decode cX3_next 250 = .ok (.return_, 1) := by decide +kernel
set_option maxRecDepth 20000 in
theorem ggX3_kindOfWord_X3_isWord : GoodIn wsX3_kindOfWord wsX3_isWord := goodIn_r _ [5, 6, 7, 8, 9, 10, 11, 12, 13, 14, 15, 16, 17, 18, 19, 20, 21, 22, 4, 23, 24, 25, 26, 27, 28, 29, 30, 31, 32, 33, 34, 35, 36, 37, 38, 39, 40, 41, 42, 43, 44, 45, 46, 47, 48, 49, 50, 51, 52, 53, 54, 55, 56, 57, 58, 59, 60, 61, 62, 63, 64, 65, 66, 67, 68] (by decide +kernel) (by decide +kernel)
set_option maxRecDepth 20000 in
theorem gX3_kindOfWord_X3_isWord : GoodIn wsX3_kindOfWord (wsV RX3 101 RX3 yX3_isWord wsX3_isWord) := goodIn_app (goodIn_of _ (by decide +kernel)) ggX3_kindOfWord_X3_isWord
theorem dX3_kindOfWord_0 : decode cX3_kindOfWord 0 = .ok (.aload_n 0, 1) := by decide +kernel
theorem dX3_kindOfWord_1 : decode cX3_kindOfWord 1 = .ok (.ldc 99, 2) := by decide +kernel
theorem dX3_kindOfWord_3 : decode cX3_kindOfWord 3 = .ok (.invokevirtual 101, 3) := by decide +kernel
theorem dX3_kindOfWord_6 : decode cX3_kindOfWord 6 = .ok (.ifCond .eq 5, 3) := by decide +kernel
theorem dX3_kindOfWord_9 : decode cX3_kindOfWord 9 = .ok (.iconst 1, 1) := by decide +kernel
theorem dX3_kindOfWord_10 : decode cX3_kindOfWord 10 = .ok (.ireturn, 1) := by decide +kernel
theorem dX3_kindOfWord_11 : decode cX3_kindOfWord 11 = .ok (.aload_n 0, 1) := by decide +kernel
theorem dX3_kindOfWord_12 : decode cX3_kindOfWord 12 = .ok (.ldc 105, 2) := by decide +kernel
theorem dX3_kindOfWord_14 : decode cX3_kindOfWord 14 = .ok (.invokevirtual 101, 3) := by decide +kernel
theorem dX3_kindOfWord_17 : decode cX3_kindOfWord 17 = .ok (.ifCond .eq 5, 3) := by decide +kernel
theorem dX3_kindOfWord_20 : decode cX3_kindOfWord 20 = .ok (.iconst 2, 1) := by decide +kernel
theorem dX3_kindOfWord_21 : decode cX3_kindOfWord 21 = .ok (.ireturn, 1) := by decide +kernel
theorem dX3_kindOfWord_22 : decode cX3_kindOfWord 22 = .ok (.aload_n 0, 1) := by decide +kernel
theorem dX3_kindOfWord_23 : decode cX3_kindOfWord 23 = .ok (.ldc 107, 2) := by decide +kernel
theorem dX3_kindOfWord_25 : decode cX3_kindOfWord 25 = .ok (.invokevirtual 101, 3) := by decide +kernel
theorem dX3_kindOfWord_28 : decode cX3_kindOfWord 28 = .ok (.ifCond .eq 5, 3) := by decide +kernel
theorem dX3_kindOfWord_31 : decode cX3_kindOfWord 31 = .ok (.iconst 3, 1) := by decide +kernel
theorem dX3_kindOfWord_32 : decode cX3_kindOfWord 32 = .ok (.ireturn, 1) := by decide +kernel
theorem dX3_kindOfWord_33 : decode cX3_kindOfWord 33 = .ok (.bipush 6, 2) := by decide +kernel
theorem dX3_kindOfWord_35 : decode cX3_kindOfWord 35 = .ok (.ireturn, 1) := by decide +kernel
set_option maxRecDepth 20000 in
theorem ggX3_isWord_J0_length_8abf5 : GoodIn wsX3_isWord wsJ0_length_8abf5 := goodIn_r _ [7, 8, 9, 10, 11, 6, 12, 13, 14] (by decide +kernel) (by decide +kernel)
set_option maxRecDepth 20000 in
theorem gX3_isWord_J0_length_8abf5 : GoodIn wsX3_isWord (wsV RX3 109 RJ0 yJ0_length_8abf5 wsJ0_length_8abf5) := goodIn_app (goodIn_of _ (by decide +kernel)) ggX3_isWord_J0_length_8abf5
set_option maxRecDepth 20000 in
theorem ggX3_isWord_X3_byteAt : GoodIn wsX3_isWord wsX3_byteAt := goodIn_r _ [19, 20, 21, 59, 60, 61, 62, 63, 64] (by decide +kernel) (by decide +kernel)
set_option maxRecDepth 20000 in
theorem gX3_isWord_X3_byteAt : GoodIn wsX3_isWord (wsV RX3 82 RX3 yX3_byteAt wsX3_byteAt) := goodIn_app (goodIn_of _ (by decide +kernel)) ggX3_isWord_X3_byteAt
set_option maxRecDepth 20000 in
theorem ggX3_isWord_J0_charAt_5068e : GoodIn wsX3_isWord wsJ0_charAt_5068e := goodIn_r _ [25, 8, 26, 27, 28, 6, 29, 13, 14, 30, 31, 32, 33, 34, 35, 36, 37, 38, 39, 40, 41, 42, 43, 44, 45, 46, 47, 48, 49, 50, 51, 52, 53, 54, 55, 56, 57, 58] (by decide +kernel) (by decide +kernel)
set_option maxRecDepth 20000 in
theorem gX3_isWord_J0_charAt_5068e : GoodIn wsX3_isWord (wsV RX3 113 RJ0 yJ0_charAt_5068e wsJ0_charAt_5068e) := goodIn_app (goodIn_of _ (by decide +kernel)) ggX3_isWord_J0_charAt_5068e
theorem dX3_isWord_0 : decode cX3_isWord 0 = .ok (.aload_n 0, 1) := by decide +kernel
theorem dX3_isWord_1 : decode cX3_isWord 1 = .ok (.getfield 28, 3) := by decide +kernel
theorem dX3_isWord_4 : decode cX3_isWord 4 = .ok (.aload_n 0, 1) := by decide +kernel
theorem dX3_isWord_5 : decode cX3_isWord 5 = .ok (.getfield 25, 3) := by decide +kernel
theorem dX3_isWord_8 : decode cX3_isWord 8 = .ok (.isub, 1) := by decide +kernel
theorem dX3_isWord_9 : decode cX3_isWord 9 = .ok (.aload_n 1, 1) := by decide +kernel
theorem dX3_isWord_10 : decode cX3_isWord 10 = .ok (.invokevirtual 109, 3) := by decide +kernel
theorem dX3_isWord_13 : decode cX3_isWord 13 = .ok (.if_icmp .eq 5, 3) := by decide +kernel
theorem dX3_isWord_16 : decode cX3_isWord 16 = .ok (.iconst 0, 1) := by decide +kernel
theorem dX3_isWord_17 : decode cX3_isWord 17 = .ok (.ireturn, 1) := by decide +kernel
theorem dX3_isWord_18 : decode cX3_isWord 18 = .ok (.iconst 0, 1) := by decide +kernel
theorem dX3_isWord_19 : decode cX3_isWord 19 = .ok (.istore_n 2, 1) := by decide +kernel
theorem dX3_isWord_20 : decode cX3_isWord 20 = .ok (.iload_n 2, 1) := by decide +kernel
theorem dX3_isWord_21 : decode cX3_isWord 21 = .ok (.aload_n 1, 1) := by decide +kernel
theorem dX3_isWord_22 : decode cX3_isWord 22 = .ok (.invokevirtual 109, 3) := by decide +kernel
theorem dX3_isWord_25 : decode cX3_isWord 25 = .ok (.if_icmp .ge 29, 3) := by decide +kernel
theorem dX3_isWord_28 : decode cX3_isWord 28 = .ok (.aload_n 0, 1) := by decide +kernel
theorem dX3_isWord_29 : decode cX3_isWord 29 = .ok (.aload_n 0, 1) := by decide +kernel
theorem dX3_isWord_30 : decode cX3_isWord 30 = .ok (.getfield 25, 3) := by decide +kernel
theorem dX3_isWord_33 : decode cX3_isWord 33 = .ok (.iload_n 2, 1) := by decide +kernel
theorem dX3_isWord_34 : decode cX3_isWord 34 = .ok (.iadd, 1) := by decide +kernel
theorem dX3_isWord_35 : decode cX3_isWord 35 = .ok (.invokevirtual 82, 3) := by decide +kernel
theorem dX3_isWord_38 : decode cX3_isWord 38 = .ok (.aload_n 1, 1) := by decide +kernel
theorem dX3_isWord_39 : decode cX3_isWord 39 = .ok (.iload_n 2, 1) := by decide +kernel
theorem dX3_isWord_40 : decode cX3_isWord 40 = .ok (.invokevirtual 113, 3) := by decide +kernel
theorem dX3_isWord_43 : decode cX3_isWord 43 = .ok (.if_icmp .eq 5, 3) := by decide +kernel
theorem dX3_isWord_46 : decode cX3_isWord 46 = .ok (.iconst 0, 1) := by decide +kernel
theorem dX3_isWord_47 : decode cX3_isWord 47 = .ok (.ireturn, 1) := by decide +kernel
theorem dX3_isWord_48 : decode cX3_isWord 48 = .ok (.iinc 2 1, 3) := by decide +kernel
theorem dX3_isWord_51 : decode cX3_isWord 51 = .ok (.goto (-31), 3) := by decide +kernel
theorem dX3_isWord_54 : decode cX3_isWord 54 = .ok (.iconst 1, 1) := by decide +kernel
theorem dX3_isWord_55 : decode cX3_isWord 55 = .ok (.ireturn, 1) := by decide +kernel
set_option maxRecDepth 20000 in
theorem ggX3_numberOfDigits_X3_byteAt : GoodIn wsX3_numberOfDigits wsX3_byteAt := goodIn_r _ [7, 8, 9, 10, 11, 12, 13, 14, 15] (by decide +kernel) (by decide +kernel)
set_option maxRecDepth 20000 in
theorem gX3_numberOfDigits_X3_byteAt : GoodIn wsX3_numberOfDigits (wsV RX3 82 RX3 yX3_byteAt wsX3_byteAt) := goodIn_app (goodIn_of _ (by decide +kernel)) ggX3_numberOfDigits_X3_byteAt
theorem dX3_numberOfDigits_0 : decode cX3_numberOfDigits 0 = .ok (.aload_n 0, 1) := by decide +kernel
theorem dX3_numberOfDigits_1 : decode cX3_numberOfDigits 1 = .ok (.getfield 28, 3) := by decide +kernel
theorem dX3_numberOfDigits_4 : decode cX3_numberOfDigits 4 = .ok (.aload_n 0, 1) := by decide +kernel
theorem dX3_numberOfDigits_5 : decode cX3_numberOfDigits 5 = .ok (.getfield 25, 3) := by decide +kernel
theorem dX3_numberOfDigits_8 : decode cX3_numberOfDigits 8 = .ok (.isub, 1) := by decide +kernel
theorem dX3_numberOfDigits_9 : decode cX3_numberOfDigits 9 = .ok (.istore_n 1, 1) := by decide +kernel
theorem dX3_numberOfDigits_10 : decode cX3_numberOfDigits 10 = .ok (.iload_n 1, 1) := by decide +kernel
theorem dX3_numberOfDigits_11 : decode cX3_numberOfDigits 11 = .ok (.iconst 1, 1) := by decide +kernel
theorem dX3_numberOfDigits_12 : decode cX3_numberOfDigits 12 = .ok (.if_icmp .ne 15, 3) := by decide +kernel
theorem dX3_numberOfDigits_15 : decode cX3_numberOfDigits 15 = .ok (.aload_n 0, 1) := by decide +kernel
theorem dX3_numberOfDigits_16 : decode cX3_numberOfDigits 16 = .ok (.aload_n 0, 1) := by decide +kernel
theorem dX3_numberOfDigits_17 : decode cX3_numberOfDigits 17 = .ok (.getfield 25, 3) := by decide +kernel
theorem dX3_numberOfDigits_20 : decode cX3_numberOfDigits 20 = .ok (.invokevirtual 82, 3) := by decide +kernel
theorem dX3_numberOfDigits_23 : decode cX3_numberOfDigits 23 = .ok (.bipush 48, 2) := by decide +kernel
theorem dX3_numberOfDigits_25 : decode cX3_numberOfDigits 25 = .ok (.isub, 1) := by decide +kernel
theorem dX3_numberOfDigits_26 : decode cX3_numberOfDigits 26 = .ok (.ireturn, 1) := by decide +kernel
theorem dX3_numberOfDigits_27 : decode cX3_numberOfDigits 27 = .ok (.iload_n 1, 1) := by decide +kernel
theorem dX3_numberOfDigits_28 : decode cX3_numberOfDigits 28 = .ok (.iconst 2, 1) := by decide +kernel
theorem dX3_numberOfDigits_29 : decode cX3_numberOfDigits 29 = .ok (.if_icmp .ne 16, 3) := by decide +kernel
theorem dX3_numberOfDigits_32 : decode cX3_numberOfDigits 32 = .ok (.aload_n 0, 1) := by decide +kernel
theorem dX3_numberOfDigits_33 : decode cX3_numberOfDigits 33 = .ok (.aload_n 0, 1) := by decide +kernel
theorem dX3_numberOfDigits_34 : decode cX3_numberOfDigits 34 = .ok (.getfield 25, 3) := by decide +kernel
theorem dX3_numberOfDigits_37 : decode cX3_numberOfDigits 37 = .ok (.invokevirtual 82, 3) := by decide +kernel
theorem dX3_numberOfDigits_40 : decode cX3_numberOfDigits 40 = .ok (.bipush 48, 2) := by decide +kernel
theorem dX3_numberOfDigits_42 : decode cX3_numberOfDigits 42 = .ok (.if_icmp .ne 6, 3) := by decide +kernel
theorem dX3_numberOfDigits_45 : decode cX3_numberOfDigits 45 = .ok (.bipush (-9), 2) := by decide +kernel
theorem dX3_numberOfDigits_47 : decode cX3_numberOfDigits 47 = .ok (.ireturn, 1) := by decide +kernel
theorem dX3_numberOfDigits_48 : decode cX3_numberOfDigits 48 = .ok (.bipush 10, 2) := by decide +kernel
theorem dX3_numberOfDigits_50 : decode cX3_numberOfDigits 50 = .ok (.aload_n 0, 1) := by decide +kernel
theorem dX3_numberOfDigits_51 : decode cX3_numberOfDigits 51 = .ok (.aload_n 0, 1) := by decide +kernel
theorem dX3_numberOfDigits_52 : decode cX3_numberOfDigits 52 = .ok (.getfield 25, 3) := by decide +kernel
theorem dX3_numberOfDigits_55 : decode cX3_numberOfDigits 55 = .ok (.invokevirtual 82, 3) := by decide +kernel
theorem dX3_numberOfDigits_58 : decode cX3_numberOfDigits 58 = .ok (.bipush 48, 2) := by decide +kernel
theorem dX3_numberOfDigits_60 : decode cX3_numberOfDigits 60 = .ok (.isub, 1) := by decide +kernel
theorem dX3_numberOfDigits_61 : decode cX3_numberOfDigits 61 = .ok (.imul, 1) := by decide +kernel
theorem dX3_numberOfDigits_62 : decode cX3_numberOfDigits 62 = .ok (.aload_n 0, 1) := by decide +kernel
theorem dX3_numberOfDigits_63 : decode cX3_numberOfDigits 63 = .ok (.aload_n 0, 1) := by decide +kernel
theorem dX3_numberOfDigits_64 : decode cX3_numberOfDigits 64 = .ok (.getfield 25, 3) := by decide +kernel
theorem dX3_numberOfDigits_67 : decode cX3_numberOfDigits 67 = .ok (.iconst 1, 1) := by decide +kernel
theorem dX3_numberOfDigits_68 : decode cX3_numberOfDigits 68 = .ok (.iadd, 1) := by decide +kernel
theorem dX3_numberOfDigits_69 : decode cX3_numberOfDigits 69 = .ok (.invokevirtual 82, 3) := by decide +kernel
theorem dX3_numberOfDigits_72 : decode cX3_numberOfDigits 72 = .ok (.iadd, 1) := by decide +kernel
theorem dX3_numberOfDigits_73 : decode cX3_numberOfDigits 73 = .ok (.bipush 48, 2) := by decide +kernel
theorem dX3_numberOfDigits_75 : decode cX3_numberOfDigits 75 = .ok (.isub, 1) := by decide +kernel
theorem dX3_numberOfDigits_76 : decode cX3_numberOfDigits 76 = .ok (.ireturn, 1) := by decide +kernel
theorem dX3_isLetter_0 : decode cX3_isLetter 0 = .ok (.iload_n 0, 1) := by decide +kernel
theorem dX3_isLetter_1 : decode cX3_isLetter 1 = .ok (.bipush 97, 2) := by decide +kernel
theorem dX3_isLetter_3 : decode cX3_isLetter 3 = .ok (.if_icmp .lt 13, 3) := by decide +kernel
theorem dX3_isLetter_6 : decode cX3_isLetter 6 = .ok (.iload_n 0, 1) := by decide +kernel
theorem dX3_isLetter_7 : decode cX3_isLetter 7 = .ok (.bipush 122, 2) := by decide +kernel
theorem dX3_isLetter_9 : decode cX3_isLetter 9 = .ok (.if_icmp .gt 7, 3) := by decide +kernel
theorem dX3_isLetter_12 : decode cX3_isLetter 12 = .ok (.iconst 1, 1) := by decide +kernel
theorem dX3_isLetter_13 : decode cX3_isLetter 13 = .ok (.goto 4, 3) := by decide +kernel
theorem dX3_isLetter_16 : decode cX3_isLetter 16 = .ok (.iconst 0, 1) := by decide +kernel
theorem dX3_isLetter_17 : decode cX3_isLetter 17 = .ok (.ireturn, 1) := by decide +kernel
theorem dX3_isDigit_0 : decode cX3_isDigit 0 = .ok (.iload_n 0, 1) := by decide +kernel
theorem dX3_isDigit_1 : decode cX3_isDigit 1 = .ok (.bipush 48, 2) := by decide +kernel
theorem dX3_isDigit_3 : decode cX3_isDigit 3 = .ok (.if_icmp .lt 13, 3) := by decide +kernel
theorem dX3_isDigit_6 : decode cX3_isDigit 6 = .ok (.iload_n 0, 1) := by decide +kernel
theorem dX3_isDigit_7 : decode cX3_isDigit 7 = .ok (.bipush 57, 2) := by decide +kernel
theorem dX3_isDigit_9 : decode cX3_isDigit 9 = .ok (.if_icmp .gt 7, 3) := by decide +kernel
theorem dX3_isDigit_12 : decode cX3_isDigit 12 = .ok (.iconst 1, 1) := by decide +kernel
theorem dX3_isDigit_13 : decode cX3_isDigit 13 = .ok (.goto 4, 3) := by decide +kernel
theorem dX3_isDigit_16 : decode cX3_isDigit 16 = .ok (.iconst 0, 1) := by decide +kernel
theorem dX3_isDigit_17 : decode cX3_isDigit 17 = .ok (.ireturn, 1) := by decide +kernel
theorem dX3_byteAt_0 : decode cX3_byteAt 0 = .ok (.iload_n 1, 1) := by decide +kernel
theorem dX3_byteAt_1 : decode cX3_byteAt 1 = .ok (.ifCond .lt 27, 3) := by decide +kernel
theorem dX3_byteAt_4 : decode cX3_byteAt 4 = .ok (.iload_n 1, 1) := by decide +kernel
theorem dX3_byteAt_5 : decode cX3_byteAt 5 = .ok (.aload_n 0, 1) := by decide +kernel
theorem dX3_byteAt_6 : decode cX3_byteAt 6 = .ok (.getfield 15, 3) := by decide +kernel
theorem dX3_byteAt_9 : decode cX3_byteAt 9 = .ok (.if_icmp .ge 19, 3) := by decide +kernel
theorem dX3_byteAt_12 : decode cX3_byteAt 12 = .ok (.iload_n 1, 1) := by decide +kernel
theorem dX3_byteAt_13 : decode cX3_byteAt 13 = .ok (.sipush 300, 3) := by decide +kernel
theorem dX3_byteAt_16 : decode cX3_byteAt 16 = .ok (.if_icmp .ge 12, 3) := by decide +kernel
theorem dX3_byteAt_19 : decode cX3_byteAt 19 = .ok (.aload_n 0, 1) := by decide +kernel
theorem dX3_byteAt_20 : decode cX3_byteAt 20 = .ok (.getfield 9, 3) := by decide +kernel
theorem dX3_byteAt_23 : decode cX3_byteAt 23 = .ok (.iload_n 1, 1) := by decide +kernel
theorem dX3_byteAt_24 : decode cX3_byteAt 24 = .ok (.iaload, 1) := by decide +kernel
theorem dX3_byteAt_25 : decode cX3_byteAt 25 = .ok (.goto 5, 3) := by decide +kernel
theorem dX3_byteAt_28 : decode cX3_byteAt 28 = .ok (.bipush (-9), 2) := by decide +kernel
theorem dX3_byteAt_30 : decode cX3_byteAt 30 = .ok (.ireturn, 1) := by decide +kernel
set_option maxRecDepth 20000 in
theorem ggX4_init_X3_init : GoodIn wsX4_init wsX3_init := goodIn_r _ [25, 26, 2, 3, 27, 28, 29, 30, 31, 32, 33, 68, 69, 70, 71, 72, 73] (by decide +kernel) (by decide +kernel)
set_option maxRecDepth 20000 in
theorem gX4_init_X3_init_n11 : GoodIn wsX4_init (wsX3_init) := ggX4_init_X3_init
set_option maxRecDepth 20000 in
theorem ggX4_init_X1_init : GoodIn wsX4_init wsX1_init := goodIn_r _ [35, 36, 2, 3, 37, 27, 38, 39, 40, 41, 42, 43, 44, 45, 46, 47, 48, 49, 50, 82, 83, 84, 85, 86, 87, 88, 89, 90, 91, 92, 93, 94, 95] (by decide +kernel) (by decide +kernel)
set_option maxRecDepth 20000 in
theorem gX4_init_X1_init_n18 : GoodIn wsX4_init (wsX1_init) := ggX4_init_X1_init
set_option maxRecDepth 20000 in
theorem ggX4_init_X0_init : GoodIn wsX4_init wsX0_init := goodIn_r _ [52, 53, 2, 3, 27, 54, 55, 56, 57, 58, 96, 97, 98, 99] (by decide +kernel) (by decide +kernel)
set_option maxRecDepth 20000 in
theorem gX4_init_X0_init_n28 : GoodIn wsX4_init (wsX0_init) := ggX4_init_X0_init
set_option maxRecDepth 20000 in
theorem ggX4_init_X2_init : GoodIn wsX4_init wsX2_init := goodIn_r _ [60, 61, 2, 3, 62, 63, 27, 64, 65, 66, 67, 100, 101, 102, 103, 104, 105] (by decide +kernel) (by decide +kernel)
set_option maxRecDepth 20000 in
theorem gX4_init_X2_init_n35 : GoodIn wsX4_init (wsX2_init) := ggX4_init_X2_init
theorem dX4_init_0 : decode cX4_init 0 = .ok (.aload_n 0, 1) := by decide +kernel
theorem dX4_init_1 : decode cX4_init 1 = .ok (.invokespecial 3, 3) := by decide +kernel
theorem dX4_init_4 : decode cX4_init 4 = .ok (.aload_n 0, 1) := by decide +kernel
theorem dX4_init_5 : decode cX4_init 5 = .ok (.new 9, 3) := by decide +kernel
theorem dX4_init_8 : decode cX4_init 8 = .ok (.dup, 1) := by decide +kernel
theorem dX4_init_9 : decode cX4_init 9 = .ok (.invokespecial 11, 3) := by decide +kernel
theorem dX4_init_12 : decode cX4_init 12 = .ok (.putfield 12, 3) := by decide +kernel
theorem dX4_init_15 : decode cX4_init 15 = .ok (.aload_n 0, 1) := by decide +kernel
theorem dX4_init_16 : decode cX4_init 16 = .ok (.new 16, 3) := by decide +kernel
theorem dX4_init_19 : decode cX4_init 19 = .ok (.dup, 1) := by decide +kernel
theorem dX4_init_20 : decode cX4_init 20 = .ok (.invokespecial 18, 3) := by decide +kernel
theorem dX4_init_23 : decode cX4_init 23 = .ok (.putfield 19, 3) := by decide +kernel
theorem dX4_init_26 : decode cX4_init 26 = .ok (.aload_n 0, 1) := by decide +kernel
theorem dX4_init_27 : decode cX4_init 27 = .ok (.new 16, 3) := by decide +kernel
theorem dX4_init_30 : decode cX4_init 30 = .ok (.dup, 1) := by decide +kernel
theorem dX4_init_31 : decode cX4_init 31 = .ok (.invokespecial 18, 3) := by decide +kernel
theorem dX4_init_34 : decode cX4_init 34 = .ok (.putfield 23, 3) := by decide +kernel
theorem dX4_init_37 : decode cX4_init 37 = .ok (.aload_n 0, 1) := by decide +kernel
theorem dX4_init_38 : decode cX4_init 38 = .ok (.new 26, 3) := by decide +kernel
theorem dX4_init_41 : decode cX4_init 41 = .ok (.dup, 1) := by decide +kernel
theorem dX4_init_42 : decode cX4_init 42 = .ok (.invokespecial 28, 3) := by decide +kernel
theorem dX4_init_45 : decode cX4_init 45 = .ok (.putfield 29, 3) := by decide +kernel
theorem dX4_init_48 : decode cX4_init 48 = .ok (.aload_n 0, 1) := by decide +kernel
theorem dX4_init_49 : decode cX4_init 49 = .ok (.new 33, 3) := by decide +kernel
theorem dX4_init_52 : decode cX4_init 52 = .ok (.dup, 1) := by decide +kernel
theorem dX4_init_53 : decode cX4_init 53 = .ok (.invokespecial 35, 3) := by decide +kernel
theorem dX4_init_56 : decode cX4_init 56 = .ok (.putfield 36, 3) := by decide +kernel
theorem dX4_init_59 : decode cX4_init 59 = .ok (.aload_n 0, 1) := by decide +kernel
theorem dX4_init_60 : decode cX4_init 60 = .ok (.new 33, 3) := by decide +kernel
theorem dX4_init_63 : decode cX4_init 63 = .ok (.dup, 1) := by decide +kernel
theorem dX4_init_64 : decode cX4_init 64 = .ok (.invokespecial 35, 3) := by decide +kernel
theorem dX4_init_67 : decode cX4_init 67 = .ok (.putfield 40, 3) := by decide +kernel
theorem dX4_init_70 : decode cX4_init 70 = .ok (.aload_n 0, 1) := by decide +kernel
theorem dX4_init_71 : decode cX4_init 71 = .ok (.new 33, 3) := by decide +kernel
theorem dX4_init_74 : decode cX4_init 74 = .ok (.dup, 1) := by decide +kernel
theorem dX4_init_75 : decode cX4_init 75 = .ok (.invokespecial 35, 3) := by decide +kernel
theorem dX4_init_78 : decode cX4_init 78 = .ok (.putfield 43, 3) := by decide +kernel
theorem dX4_init_81 : decode cX4_init 81 = .ok (.aload_n 0, 1) := by decide +kernel
theorem dX4_init_82 : decode cX4_init 82 = .ok (.lconst 0, 1) := by decide +kernel
theorem dX4_init_83 : decode cX4_init 83 = .ok (.putfield 46, 3) := by decide +kernel
theorem dX4_init_86 : decode cX4_init 86 = .ok (.return_, 1) := by decide +kernel
set_option maxRecDepth 20000 in
theorem ggX4_type_X3_append : GoodIn wsX4_type wsX3_append := goodIn_r _ [7, 8, 9, 18, 19, 20, 21, 22, 23] (by decide +kernel) (by decide +kernel)
set_option maxRecDepth 20000 in
theorem gX4_type_X3_append : GoodIn wsX4_type (wsV RX4 54 RX3 yX3_append wsX3_append) := goodIn_app (goodIn_of _ (by decide +kernel)) ggX4_type_X3_append
theorem dX4_type_0 : decode cX4_type 0 = .ok (.iload_n 3, 1) := by decide +kernel
theorem dX4_type_1 : decode cX4_type 1 = .ok (.iconst 1, 1) := by decide +kernel
theorem dX4_type_2 : decode cX4_type 2 = .ok (.if_icmp .lt 9, 3) := by decide +kernel
theorem dX4_type_5 : decode cX4_type 5 = .ok (.iload_n 3, 1) := by decide +kernel
theorem dX4_type_6 : decode cX4_type 6 = .ok (.bipush 8, 2) := by decide +kernel
theorem dX4_type_8 : decode cX4_type 8 = .ok (.if_icmp .le 5, 3) := by decide +kernel
theorem dX4_type_11 : decode cX4_type 11 = .ok (.iconst (-1), 1) := by decide +kernel
theorem dX4_type_12 : decode cX4_type 12 = .ok (.ireturn, 1) := by decide +kernel
theorem dX4_type_13 : decode cX4_type 13 = .ok (.aload_n 0, 1) := by decide +kernel
theorem dX4_type_14 : decode cX4_type 14 = .ok (.getfield 12, 3) := by decide +kernel
theorem dX4_type_17 : decode cX4_type 17 = .ok (.getfield 50, 3) := by decide +kernel
theorem dX4_type_20 : decode cX4_type 20 = .ok (.iload_n 3, 1) := by decide +kernel
theorem dX4_type_21 : decode cX4_type 21 = .ok (.iadd, 1) := by decide +kernel
theorem dX4_type_22 : decode cX4_type 22 = .ok (.sipush 300, 3) := by decide +kernel
theorem dX4_type_25 : decode cX4_type 25 = .ok (.if_icmp .le 6, 3) := by decide +kernel
theorem dX4_type_28 : decode cX4_type 28 = .ok (.bipush (-3), 2) := by decide +kernel
theorem dX4_type_30 : decode cX4_type 30 = .ok (.ireturn, 1) := by decide +kernel
theorem dX4_type_31 : decode cX4_type 31 = .ok (.iload_n 3, 1) := by decide +kernel
theorem dX4_type_32 : decode cX4_type 32 = .ok (.iconst 1, 1) := by decide +kernel
theorem dX4_type_33 : decode cX4_type 33 = .ok (.isub, 1) := by decide +kernel
theorem dX4_type_34 : decode cX4_type 34 = .ok (.istore 4, 2) := by decide +kernel
theorem dX4_type_36 : decode cX4_type 36 = .ok (.iload 4, 2) := by decide +kernel
theorem dX4_type_38 : decode cX4_type 38 = .ok (.ifCond .lt 28, 3) := by decide +kernel
theorem dX4_type_41 : decode cX4_type 41 = .ok (.aload_n 0, 1) := by decide +kernel
theorem dX4_type_42 : decode cX4_type 42 = .ok (.getfield 12, 3) := by decide +kernel
theorem dX4_type_45 : decode cX4_type 45 = .ok (.lload_n 1, 1) := by decide +kernel
theorem dX4_type_46 : decode cX4_type 46 = .ok (.bipush 8, 2) := by decide +kernel
theorem dX4_type_48 : decode cX4_type 48 = .ok (.iload 4, 2) := by decide +kernel
theorem dX4_type_50 : decode cX4_type 50 = .ok (.imul, 1) := by decide +kernel
theorem dX4_type_51 : decode cX4_type 51 = .ok (.lushr, 1) := by decide +kernel
theorem dX4_type_52 : decode cX4_type 52 = .ok (.l2i, 1) := by decide +kernel
theorem dX4_type_53 : decode cX4_type 53 = .ok (.sipush 255, 3) := by decide +kernel
theorem dX4_type_56 : decode cX4_type 56 = .ok (.iand, 1) := by decide +kernel
theorem dX4_type_57 : decode cX4_type 57 = .ok (.invokevirtual 54, 3) := by decide +kernel
theorem dX4_type_60 : decode cX4_type 60 = .ok (.iinc 4 (-1), 3) := by decide +kernel
theorem dX4_type_63 : decode cX4_type 63 = .ok (.goto (-27), 3) := by decide +kernel
theorem dX4_type_66 : decode cX4_type 66 = .ok (.aload_n 0, 1) := by decide +kernel
theorem dX4_type_67 : decode cX4_type 67 = .ok (.getfield 12, 3) := by decide +kernel
theorem dX4_type_70 : decode cX4_type 70 = .ok (.getfield 50, 3) := by decide +kernel
theorem dX4_type_73 : decode cX4_type 73 = .ok (.ireturn, 1) := by decide +kernel
theorem dX4_clear_0 : decode cX4_clear 0 = .ok (.aload_n 0, 1) := by decide +kernel
theorem dX4_clear_1 : decode cX4_clear 1 = .ok (.getfield 12, 3) := by decide +kernel
theorem dX4_clear_4 : decode cX4_clear 4 = .ok (.getfield 50, 3) := by decide +kernel
theorem dX4_clear_7 : decode cX4_clear 7 = .ok (.istore_n 1, 1) := by decide +kernel
theorem dX4_clear_8 : decode cX4_clear 8 = .ok (.aload_n 0, 1) := by decide +kernel
theorem dX4_clear_9 : decode cX4_clear 9 = .ok (.getfield 12, 3) := by decide +kernel
theorem dX4_clear_12 : decode cX4_clear 12 = .ok (.iconst 0, 1) := by decide +kernel
theorem dX4_clear_13 : decode cX4_clear 13 = .ok (.putfield 50, 3) := by decide +kernel
theorem dX4_clear_16 : decode cX4_clear 16 = .ok (.iload_n 1, 1) := by decide +kernel
theorem dX4_clear_17 : decode cX4_clear 17 = .ok (.ireturn, 1) := by decide +kernel
set_option maxRecDepth 20000 in
theorem ggX4_land_X3_readAll : GoodIn wsX4_land wsX3_readAll := goodIn_r _ [13, 14, 15, 16, 17, 18, 19, 20, 21, 22, 23, 24, 25, 26, 12, 27, 28, 29, 30, 31, 32, 33, 34, 35, 36, 37, 38, 39, 40, 41, 42, 43, 44, 45, 46, 47, 48, 49, 50, 51, 52, 53, 54, 55, 56, 57, 58, 59, 60, 61, 62, 63, 64, 65, 66, 67, 68, 69, 70, 71, 72, 73, 74, 75, 76, 77, 78, 79, 80, 81, 82, 83, 84, 85, 86, 87, 88, 89, 90, 91, 92, 93, 94, 95, 96, 97, 98, 99, 100, 101, 102, 103, 104, 105, 106, 107, 108, 109, 110, 111, 112, 113, 114, 115, 116, 117, 118, 119, 120, 121, 122, 123, 124, 125, 126, 127, 128, 129, 130, 131, 132, 133, 134, 135, 136, 137, 138, 139, 140, 141, 142, 143, 144, 145, 146, 147, 148, 149, 150, 151, 152, 153, 154, 155, 156, 157, 158, 159, 160, 161, 162, 163, 164, 165, 166, 167, 168, 169, 213, 214, 215, 216, 217, 218, 219, 220, 221, 222, 223, 224, 225, 226, 227, 228, 229, 230, 231, 232] (by decide +kernel) (by decide +kernel)
set_option maxRecDepth 20000 in
theorem gX4_land_X3_readAll : GoodIn wsX4_land (wsV RX4 58 RX3 yX3_readAll wsX3_readAll) := goodIn_app (goodIn_of _ (by decide +kernel)) ggX4_land_X3_readAll
set_option maxRecDepth 20000 in
theorem ggX4_land_X1_measure : GoodIn wsX4_land wsX1_measure := goodIn_r _ [173, 21, 174, 175, 176, 19, 177, 178, 22, 130, 131, 132, 179, 180, 181, 182, 142, 143, 144, 145, 183, 184, 185, 186, 187, 188, 189, 190, 191, 192, 193, 194, 195, 196, 219, 220, 221, 222, 223, 224, 225, 226, 227, 228, 229, 230, 231, 232] (by decide +kernel) (by decide +kernel)
set_option maxRecDepth 20000 in
theorem gX4_land_X1_measure : GoodIn wsX4_land (wsV RX4 65 RX1 yX1_measure wsX1_measure) := goodIn_app (goodIn_of _ (by decide +kernel)) ggX4_land_X1_measure
set_option maxRecDepth 20000 in
theorem ggX4_land_X2_reset : GoodIn wsX4_land wsX2_reset := goodIn_r _ [201, 202, 203, 204, 233, 234, 235, 236, 237, 238] (by decide +kernel) (by decide +kernel)
set_option maxRecDepth 20000 in
theorem gX4_land_X2_reset : GoodIn wsX4_land (wsV RX4 68 RX2 yX2_reset wsX2_reset) := goodIn_app (goodIn_of _ (by decide +kernel)) ggX4_land_X2_reset
theorem dX4_land_0 : decode cX4_land 0 = .ok (.aload_n 0, 1) := by decide +kernel
theorem dX4_land_1 : decode cX4_land 1 = .ok (.getfield 12, 3) := by decide +kernel
theorem dX4_land_4 : decode cX4_land 4 = .ok (.aload_n 0, 1) := by decide +kernel
theorem dX4_land_5 : decode cX4_land 5 = .ok (.getfield 23, 3) := by decide +kernel
theorem dX4_land_8 : decode cX4_land 8 = .ok (.invokevirtual 58, 3) := by decide +kernel
theorem dX4_land_11 : decode cX4_land 11 = .ok (.istore_n 1, 1) := by decide +kernel
theorem dX4_land_12 : decode cX4_land 12 = .ok (.iload_n 1, 1) := by decide +kernel
theorem dX4_land_13 : decode cX4_land 13 = .ok (.bipush (-9), 2) := by decide +kernel
theorem dX4_land_15 : decode cX4_land 15 = .ok (.if_icmp .ne 14, 3) := by decide +kernel
theorem dX4_land_18 : decode cX4_land 18 = .ok (.bipush (-10), 2) := by decide +kernel
theorem dX4_land_20 : decode cX4_land 20 = .ok (.aload_n 0, 1) := by decide +kernel
theorem dX4_land_21 : decode cX4_land 21 = .ok (.getfield 12, 3) := by decide +kernel
theorem dX4_land_24 : decode cX4_land 24 = .ok (.getfield 62, 3) := by decide +kernel
theorem dX4_land_27 : decode cX4_land 27 = .ok (.isub, 1) := by decide +kernel
theorem dX4_land_28 : decode cX4_land 28 = .ok (.ireturn, 1) := by decide +kernel
theorem dX4_land_29 : decode cX4_land 29 = .ok (.aload_n 0, 1) := by decide +kernel
theorem dX4_land_30 : decode cX4_land 30 = .ok (.getfield 19, 3) := by decide +kernel
theorem dX4_land_33 : decode cX4_land 33 = .ok (.astore_n 2, 1) := by decide +kernel
theorem dX4_land_34 : decode cX4_land 34 = .ok (.aload_n 0, 1) := by decide +kernel
theorem dX4_land_35 : decode cX4_land 35 = .ok (.aload_n 0, 1) := by decide +kernel
theorem dX4_land_36 : decode cX4_land 36 = .ok (.getfield 23, 3) := by decide +kernel
theorem dX4_land_39 : decode cX4_land 39 = .ok (.putfield 19, 3) := by decide +kernel
theorem dX4_land_42 : decode cX4_land 42 = .ok (.aload_n 0, 1) := by decide +kernel
theorem dX4_land_43 : decode cX4_land 43 = .ok (.aload_n 2, 1) := by decide +kernel
theorem dX4_land_44 : decode cX4_land 44 = .ok (.putfield 23, 3) := by decide +kernel
theorem dX4_land_47 : decode cX4_land 47 = .ok (.aload_n 0, 1) := by decide +kernel
theorem dX4_land_48 : decode cX4_land 48 = .ok (.getfield 19, 3) := by decide +kernel
theorem dX4_land_51 : decode cX4_land 51 = .ok (.invokevirtual 65, 3) := by decide +kernel
theorem dX4_land_54 : decode cX4_land 54 = .ok (.aload_n 0, 1) := by decide +kernel
theorem dX4_land_55 : decode cX4_land 55 = .ok (.getfield 12, 3) := by decide +kernel
theorem dX4_land_58 : decode cX4_land 58 = .ok (.iconst 0, 1) := by decide +kernel
theorem dX4_land_59 : decode cX4_land 59 = .ok (.putfield 50, 3) := by decide +kernel
theorem dX4_land_62 : decode cX4_land 62 = .ok (.aload_n 0, 1) := by decide +kernel
theorem dX4_land_63 : decode cX4_land 63 = .ok (.getfield 36, 3) := by decide +kernel
theorem dX4_land_66 : decode cX4_land 66 = .ok (.invokevirtual 68, 3) := by decide +kernel
theorem dX4_land_69 : decode cX4_land 69 = .ok (.aload_n 0, 1) := by decide +kernel
theorem dX4_land_70 : decode cX4_land 70 = .ok (.getfield 40, 3) := by decide +kernel
theorem dX4_land_73 : decode cX4_land 73 = .ok (.invokevirtual 68, 3) := by decide +kernel
theorem dX4_land_76 : decode cX4_land 76 = .ok (.aload_n 0, 1) := by decide +kernel
theorem dX4_land_77 : decode cX4_land 77 = .ok (.getfield 43, 3) := by decide +kernel
theorem dX4_land_80 : decode cX4_land 80 = .ok (.invokevirtual 68, 3) := by decide +kernel
theorem dX4_land_83 : decode cX4_land 83 = .ok (.iload_n 1, 1) := by decide +kernel
theorem dX4_land_84 : decode cX4_land 84 = .ok (.ireturn, 1) := by decide +kernel
set_option maxRecDepth 20000 in
theorem ggX4_town_X1_isTown : GoodIn wsX4_town wsX1_isTown := goodIn_r _ [6, 7, 35, 36, 37, 38, 39, 40, 41, 42, 43, 44, 45, 46, 47, 48] (by decide +kernel) (by decide +kernel)
set_option maxRecDepth 20000 in
theorem gX4_town_X1_isTown : GoodIn wsX4_town (wsV RX4 71 RX1 yX1_isTown wsX1_isTown) := goodIn_app (goodIn_of _ (by decide +kernel)) ggX4_town_X1_isTown
set_option maxRecDepth 20000 in
theorem ggX4_town_X1_bidOf : GoodIn wsX4_town wsX1_bidOf := goodIn_r _ [11, 12, 13, 3, 4, 5, 6, 7, 35, 36, 37, 38, 39, 40, 41, 42, 43, 44, 45, 46, 47, 48] (by decide +kernel) (by decide +kernel)
set_option maxRecDepth 20000 in
theorem gX4_town_X1_bidOf : GoodIn wsX4_town (wsV RX4 75 RX1 yX1_bidOf wsX1_bidOf) := goodIn_app (goodIn_of _ (by decide +kernel)) ggX4_town_X1_bidOf
set_option maxRecDepth 20000 in
theorem ggX4_town_X1_roadsOf : GoodIn wsX4_town wsX1_roadsOf := goodIn_r _ [17, 18, 19, 20, 35, 36, 37, 38, 39, 40, 41, 42, 43, 44, 45, 46, 47, 48] (by decide +kernel) (by decide +kernel)
set_option maxRecDepth 20000 in
theorem gX4_town_X1_roadsOf : GoodIn wsX4_town (wsV RX4 79 RX1 yX1_roadsOf wsX1_roadsOf) := goodIn_app (goodIn_of _ (by decide +kernel)) ggX4_town_X1_roadsOf
set_option maxRecDepth 20000 in
theorem ggX4_town_X1_stopsOf : GoodIn wsX4_town wsX1_stopsOf := goodIn_r _ [24, 25, 26, 35, 36, 37, 38, 39, 40, 41, 42, 43, 44, 45, 46, 47, 48] (by decide +kernel) (by decide +kernel)
set_option maxRecDepth 20000 in
theorem gX4_town_X1_stopsOf : GoodIn wsX4_town (wsV RX4 82 RX1 yX1_stopsOf wsX1_stopsOf) := goodIn_app (goodIn_of _ (by decide +kernel)) ggX4_town_X1_stopsOf
theorem dX4_town_0 : decode cX4_town 0 = .ok (.aload_n 0, 1) := by decide +kernel
theorem dX4_town_1 : decode cX4_town 1 = .ok (.getfield 19, 3) := by decide +kernel
theorem dX4_town_4 : decode cX4_town 4 = .ok (.iload_n 1, 1) := by decide +kernel
theorem dX4_town_5 : decode cX4_town 5 = .ok (.invokevirtual 71, 3) := by decide +kernel
theorem dX4_town_8 : decode cX4_town 8 = .ok (.ifCond .ne 5, 3) := by decide +kernel
theorem dX4_town_11 : decode cX4_town 11 = .ok (.iconst (-1), 1) := by decide +kernel
theorem dX4_town_12 : decode cX4_town 12 = .ok (.ireturn, 1) := by decide +kernel
theorem dX4_town_13 : decode cX4_town 13 = .ok (.iload_n 2, 1) := by decide +kernel
theorem dX4_town_14 : decode cX4_town 14 = .ok (.tableswitch 53 0 2 #[26, 35, 44], 26) := by decide +kernel
theorem dX4_town_40 : decode cX4_town 40 = .ok (.aload_n 0, 1) := by decide +kernel
theorem dX4_town_41 : decode cX4_town 41 = .ok (.getfield 19, 3) := by decide +kernel
theorem dX4_town_44 : decode cX4_town 44 = .ok (.iload_n 1, 1) := by decide +kernel
theorem dX4_town_45 : decode cX4_town 45 = .ok (.invokevirtual 75, 3) := by decide +kernel
theorem dX4_town_48 : decode cX4_town 48 = .ok (.ireturn, 1) := by decide +kernel
theorem dX4_town_49 : decode cX4_town 49 = .ok (.aload_n 0, 1) := by decide +kernel
theorem dX4_town_50 : decode cX4_town 50 = .ok (.getfield 19, 3) := by decide +kernel
theorem dX4_town_53 : decode cX4_town 53 = .ok (.iload_n 1, 1) := by decide +kernel
theorem dX4_town_54 : decode cX4_town 54 = .ok (.invokevirtual 79, 3) := by decide +kernel
theorem dX4_town_57 : decode cX4_town 57 = .ok (.ireturn, 1) := by decide +kernel
theorem dX4_town_58 : decode cX4_town 58 = .ok (.aload_n 0, 1) := by decide +kernel
theorem dX4_town_59 : decode cX4_town 59 = .ok (.getfield 19, 3) := by decide +kernel
theorem dX4_town_62 : decode cX4_town 62 = .ok (.iload_n 1, 1) := by decide +kernel
theorem dX4_town_63 : decode cX4_town 63 = .ok (.invokevirtual 82, 3) := by decide +kernel
theorem dX4_town_66 : decode cX4_town 66 = .ok (.ireturn, 1) := by decide +kernel
theorem dX4_town_67 : decode cX4_town 67 = .ok (.iconst (-1), 1) := by decide +kernel
theorem dX4_town_68 : decode cX4_town 68 = .ok (.ireturn, 1) := by decide +kernel
set_option maxRecDepth 20000 in
theorem ggX4_road_X1_isRoad : GoodIn wsX4_road wsX1_isRoad := goodIn_r _ [9, 10, 19, 20, 21, 22, 23, 24, 25, 26, 27, 28, 29, 30, 31, 32] (by decide +kernel) (by decide +kernel)
set_option maxRecDepth 20000 in
theorem gX4_road_X1_isRoad : GoodIn wsX4_road (wsV RX4 85 RX1 yX1_isRoad wsX1_isRoad) := goodIn_app (goodIn_of _ (by decide +kernel)) ggX4_road_X1_isRoad
theorem dX4_road_0 : decode cX4_road 0 = .ok (.aload_n 0, 1) := by decide +kernel
theorem dX4_road_1 : decode cX4_road 1 = .ok (.getfield 19, 3) := by decide +kernel
theorem dX4_road_4 : decode cX4_road 4 = .ok (.iload_n 1, 1) := by decide +kernel
theorem dX4_road_5 : decode cX4_road 5 = .ok (.invokevirtual 85, 3) := by decide +kernel
theorem dX4_road_8 : decode cX4_road 8 = .ok (.ifCond .ne 5, 3) := by decide +kernel
theorem dX4_road_11 : decode cX4_road 11 = .ok (.iconst (-1), 1) := by decide +kernel
theorem dX4_road_12 : decode cX4_road 12 = .ok (.ireturn, 1) := by decide +kernel
theorem dX4_road_13 : decode cX4_road 13 = .ok (.iload_n 2, 1) := by decide +kernel
theorem dX4_road_14 : decode cX4_road 14 = .ok (.tableswitch 56 0 2 #[26, 36, 46], 26) := by decide +kernel
theorem dX4_road_40 : decode cX4_road 40 = .ok (.aload_n 0, 1) := by decide +kernel
theorem dX4_road_41 : decode cX4_road 41 = .ok (.getfield 19, 3) := by decide +kernel
theorem dX4_road_44 : decode cX4_road 44 = .ok (.getfield 88, 3) := by decide +kernel
theorem dX4_road_47 : decode cX4_road 47 = .ok (.iload_n 1, 1) := by decide +kernel
theorem dX4_road_48 : decode cX4_road 48 = .ok (.iaload, 1) := by decide +kernel
theorem dX4_road_49 : decode cX4_road 49 = .ok (.ireturn, 1) := by decide +kernel
theorem dX4_road_50 : decode cX4_road 50 = .ok (.aload_n 0, 1) := by decide +kernel
theorem dX4_road_51 : decode cX4_road 51 = .ok (.getfield 19, 3) := by decide +kernel
theorem dX4_road_54 : decode cX4_road 54 = .ok (.getfield 92, 3) := by decide +kernel
theorem dX4_road_57 : decode cX4_road 57 = .ok (.iload_n 1, 1) := by decide +kernel
theorem dX4_road_58 : decode cX4_road 58 = .ok (.iaload, 1) := by decide +kernel
theorem dX4_road_59 : decode cX4_road 59 = .ok (.ireturn, 1) := by decide +kernel
theorem dX4_road_60 : decode cX4_road 60 = .ok (.aload_n 0, 1) := by decide +kernel
theorem dX4_road_61 : decode cX4_road 61 = .ok (.getfield 19, 3) := by decide +kernel
theorem dX4_road_64 : decode cX4_road 64 = .ok (.getfield 95, 3) := by decide +kernel
theorem dX4_road_67 : decode cX4_road 67 = .ok (.iload_n 1, 1) := by decide +kernel
theorem dX4_road_68 : decode cX4_road 68 = .ok (.iaload, 1) := by decide +kernel
theorem dX4_road_69 : decode cX4_road 69 = .ok (.ireturn, 1) := by decide +kernel
theorem dX4_road_70 : decode cX4_road 70 = .ok (.iconst (-1), 1) := by decide +kernel
theorem dX4_road_71 : decode cX4_road 71 = .ok (.ireturn, 1) := by decide +kernel
set_option maxRecDepth 20000 in
theorem ggX4_stop_X1_isStop : GoodIn wsX4_stop wsX1_isStop := goodIn_r _ [9, 10, 26, 27, 28, 29, 30, 31, 32, 33, 34, 35, 36, 37, 38, 39] (by decide +kernel) (by decide +kernel)
set_option maxRecDepth 20000 in
theorem gX4_stop_X1_isStop : GoodIn wsX4_stop (wsV RX4 98 RX1 yX1_isStop wsX1_isStop) := goodIn_app (goodIn_of _ (by decide +kernel)) ggX4_stop_X1_isStop
set_option maxRecDepth 20000 in
theorem ggX4_stop_X1_leaves : GoodIn wsX4_stop wsX1_leaves := goodIn_r _ [14, 15, 16, 17, 6, 7, 8, 9, 10, 26, 27, 28, 29, 30, 31, 32, 33, 34, 35, 36, 37, 38, 39] (by decide +kernel) (by decide +kernel)
set_option maxRecDepth 20000 in
theorem gX4_stop_X1_leaves : GoodIn wsX4_stop (wsV RX4 110 RX1 yX1_leaves wsX1_leaves) := goodIn_app (goodIn_of _ (by decide +kernel)) ggX4_stop_X1_leaves
theorem dX4_stop_0 : decode cX4_stop 0 = .ok (.aload_n 0, 1) := by decide +kernel
theorem dX4_stop_1 : decode cX4_stop 1 = .ok (.getfield 19, 3) := by decide +kernel
theorem dX4_stop_4 : decode cX4_stop 4 = .ok (.iload_n 1, 1) := by decide +kernel
theorem dX4_stop_5 : decode cX4_stop 5 = .ok (.invokevirtual 98, 3) := by decide +kernel
theorem dX4_stop_8 : decode cX4_stop 8 = .ok (.ifCond .ne 5, 3) := by decide +kernel
theorem dX4_stop_11 : decode cX4_stop 11 = .ok (.iconst (-1), 1) := by decide +kernel
theorem dX4_stop_12 : decode cX4_stop 12 = .ok (.ireturn, 1) := by decide +kernel
theorem dX4_stop_13 : decode cX4_stop 13 = .ok (.iload_n 2, 1) := by decide +kernel
theorem dX4_stop_14 : decode cX4_stop 14 = .ok (.tableswitch 69 0 3 #[30, 40, 50, 60], 30) := by decide +kernel
theorem dX4_stop_44 : decode cX4_stop 44 = .ok (.aload_n 0, 1) := by decide +kernel
theorem dX4_stop_45 : decode cX4_stop 45 = .ok (.getfield 19, 3) := by decide +kernel
theorem dX4_stop_48 : decode cX4_stop 48 = .ok (.getfield 101, 3) := by decide +kernel
theorem dX4_stop_51 : decode cX4_stop 51 = .ok (.iload_n 1, 1) := by decide +kernel
theorem dX4_stop_52 : decode cX4_stop 52 = .ok (.iaload, 1) := by decide +kernel
theorem dX4_stop_53 : decode cX4_stop 53 = .ok (.ireturn, 1) := by decide +kernel
theorem dX4_stop_54 : decode cX4_stop 54 = .ok (.aload_n 0, 1) := by decide +kernel
theorem dX4_stop_55 : decode cX4_stop 55 = .ok (.getfield 19, 3) := by decide +kernel
theorem dX4_stop_58 : decode cX4_stop 58 = .ok (.getfield 104, 3) := by decide +kernel
theorem dX4_stop_61 : decode cX4_stop 61 = .ok (.iload_n 1, 1) := by decide +kernel
theorem dX4_stop_62 : decode cX4_stop 62 = .ok (.iaload, 1) := by decide +kernel
theorem dX4_stop_63 : decode cX4_stop 63 = .ok (.ireturn, 1) := by decide +kernel
theorem dX4_stop_64 : decode cX4_stop 64 = .ok (.aload_n 0, 1) := by decide +kernel
theorem dX4_stop_65 : decode cX4_stop 65 = .ok (.getfield 19, 3) := by decide +kernel
theorem dX4_stop_68 : decode cX4_stop 68 = .ok (.getfield 107, 3) := by decide +kernel
theorem dX4_stop_71 : decode cX4_stop 71 = .ok (.iload_n 1, 1) := by decide +kernel
theorem dX4_stop_72 : decode cX4_stop 72 = .ok (.iaload, 1) := by decide +kernel
theorem dX4_stop_73 : decode cX4_stop 73 = .ok (.ireturn, 1) := by decide +kernel
theorem dX4_stop_74 : decode cX4_stop 74 = .ok (.aload_n 0, 1) := by decide +kernel
theorem dX4_stop_75 : decode cX4_stop 75 = .ok (.getfield 19, 3) := by decide +kernel
theorem dX4_stop_78 : decode cX4_stop 78 = .ok (.iload_n 1, 1) := by decide +kernel
theorem dX4_stop_79 : decode cX4_stop 79 = .ok (.invokevirtual 110, 3) := by decide +kernel
theorem dX4_stop_82 : decode cX4_stop 82 = .ok (.ireturn, 1) := by decide +kernel
theorem dX4_stop_83 : decode cX4_stop 83 = .ok (.iconst (-1), 1) := by decide +kernel
theorem dX4_stop_84 : decode cX4_stop 84 = .ok (.ireturn, 1) := by decide +kernel
set_option maxRecDepth 20000 in
theorem ggX4_far_X1_isTown : GoodIn wsX4_far wsX1_isTown := goodIn_r _ [6, 7, 22, 23, 24, 25, 26, 27, 28, 29, 30, 31, 32, 33, 34, 35] (by decide +kernel) (by decide +kernel)
set_option maxRecDepth 20000 in
theorem gX4_far_X1_isTown : GoodIn wsX4_far (wsV RX4 71 RX1 yX1_isTown wsX1_isTown) := goodIn_app (goodIn_of _ (by decide +kernel)) ggX4_far_X1_isTown
set_option maxRecDepth 20000 in
theorem ggX4_far_X1_distance : GoodIn wsX4_far wsX1_distance := goodIn_r _ [11, 12, 13, 3, 4, 5, 6, 7, 22, 23, 24, 25, 26, 27, 28, 29, 30, 31, 32, 33, 34, 35] (by decide +kernel) (by decide +kernel)
set_option maxRecDepth 20000 in
theorem gX4_far_X1_distance : GoodIn wsX4_far (wsV RX4 113 RX1 yX1_distance wsX1_distance) := goodIn_app (goodIn_of _ (by decide +kernel)) ggX4_far_X1_distance
theorem dX4_far_0 : decode cX4_far 0 = .ok (.aload_n 0, 1) := by decide +kernel
theorem dX4_far_1 : decode cX4_far 1 = .ok (.getfield 19, 3) := by decide +kernel
theorem dX4_far_4 : decode cX4_far 4 = .ok (.iload_n 1, 1) := by decide +kernel
theorem dX4_far_5 : decode cX4_far 5 = .ok (.invokevirtual 71, 3) := by decide +kernel
theorem dX4_far_8 : decode cX4_far 8 = .ok (.ifCond .eq 14, 3) := by decide +kernel
theorem dX4_far_11 : decode cX4_far 11 = .ok (.aload_n 0, 1) := by decide +kernel
theorem dX4_far_12 : decode cX4_far 12 = .ok (.getfield 19, 3) := by decide +kernel
theorem dX4_far_15 : decode cX4_far 15 = .ok (.iload_n 2, 1) := by decide +kernel
theorem dX4_far_16 : decode cX4_far 16 = .ok (.invokevirtual 71, 3) := by decide +kernel
theorem dX4_far_19 : decode cX4_far 19 = .ok (.ifCond .ne 5, 3) := by decide +kernel
theorem dX4_far_22 : decode cX4_far 22 = .ok (.iconst (-1), 1) := by decide +kernel
theorem dX4_far_23 : decode cX4_far 23 = .ok (.ireturn, 1) := by decide +kernel
theorem dX4_far_24 : decode cX4_far 24 = .ok (.aload_n 0, 1) := by decide +kernel
theorem dX4_far_25 : decode cX4_far 25 = .ok (.getfield 19, 3) := by decide +kernel
theorem dX4_far_28 : decode cX4_far 28 = .ok (.iload_n 1, 1) := by decide +kernel
theorem dX4_far_29 : decode cX4_far 29 = .ok (.iload_n 2, 1) := by decide +kernel
theorem dX4_far_30 : decode cX4_far 30 = .ok (.invokevirtual 113, 3) := by decide +kernel
theorem dX4_far_33 : decode cX4_far 33 = .ok (.ireturn, 1) := by decide +kernel
set_option maxRecDepth 20000 in
theorem ggX4_where_X4_isHour : GoodIn wsX4_where wsX4_isHour := goodIn_r _ [5] (by decide +kernel) (by decide +kernel)
set_option maxRecDepth 20000 in
theorem gX4_where_X4_isHour : GoodIn wsX4_where (va_wsS RX4 117 yX4_isHour wsX4_isHour) := goodIn_app (goodIn_of _ (by decide +kernel)) ggX4_where_X4_isHour
set_option maxRecDepth 20000 in
theorem ggX4_where_X1_townAt : GoodIn wsX4_where wsX1_townAt := goodIn_r _ [10, 11, 12, 13, 9, 14, 15, 16, 17, 18, 19, 20, 21, 22, 23, 24, 25, 26, 27, 28, 29, 30, 31, 32, 33, 34, 35, 36, 37, 38, 56, 57, 58, 59, 60, 61, 62, 63, 64, 65, 66, 67, 68, 69] (by decide +kernel) (by decide +kernel)
set_option maxRecDepth 20000 in
theorem gX4_where_X1_townAt : GoodIn wsX4_where (wsV RX4 120 RX1 yX1_townAt wsX1_townAt) := goodIn_app (goodIn_of _ (by decide +kernel)) ggX4_where_X1_townAt
set_option maxRecDepth 20000 in
theorem ggX4_where_X1_roadAt : GoodIn wsX4_where wsX1_roadAt := goodIn_r _ [42, 11, 12, 13, 9, 14, 15, 16, 17, 18, 19, 20, 21, 22, 23, 24, 25, 26, 27, 28, 29, 30, 31, 32, 33, 34, 35, 36, 37, 38, 56, 57, 58, 59, 60, 61, 62, 63, 64, 65, 66, 67, 68, 69] (by decide +kernel) (by decide +kernel)
set_option maxRecDepth 20000 in
theorem gX4_where_X1_roadAt : GoodIn wsX4_where (wsV RX4 123 RX1 yX1_roadAt wsX1_roadAt) := goodIn_app (goodIn_of _ (by decide +kernel)) ggX4_where_X1_roadAt
set_option maxRecDepth 20000 in
theorem ggX4_where_X1_goneAt : GoodIn wsX4_where wsX1_goneAt := goodIn_r _ [46, 11, 12, 13, 9, 14, 15, 16, 17, 18, 19, 20, 21, 22, 23, 24, 25, 26, 27, 28, 29, 30, 31, 32, 33, 34, 35, 36, 37, 38, 56, 57, 58, 59, 60, 61, 62, 63, 64, 65, 66, 67, 68, 69] (by decide +kernel) (by decide +kernel)
set_option maxRecDepth 20000 in
theorem gX4_where_X1_goneAt : GoodIn wsX4_where (wsV RX4 126 RX1 yX1_goneAt wsX1_goneAt) := goodIn_app (goodIn_of _ (by decide +kernel)) ggX4_where_X1_goneAt
set_option maxRecDepth 20000 in
theorem ggX4_where_X1_lastCome : GoodIn wsX4_where wsX1_lastCome := goodIn_r _ [22, 23, 24, 56, 57, 58, 59, 60, 61, 62, 63, 64, 65, 66, 67, 68, 69] (by decide +kernel) (by decide +kernel)
set_option maxRecDepth 20000 in
theorem gX4_where_X1_lastCome : GoodIn wsX4_where (wsV RX4 129 RX1 yX1_lastCome wsX1_lastCome) := goodIn_app (goodIn_of _ (by decide +kernel)) ggX4_where_X1_lastCome
theorem dX4_where_0 : decode cX4_where 0 = .ok (.iload_n 1, 1) := by decide +kernel
theorem dX4_where_1 : decode cX4_where 1 = .ok (.invokestatic 117, 3) := by decide +kernel
theorem dX4_where_4 : decode cX4_where 4 = .ok (.ifCond .ne 5, 3) := by decide +kernel
theorem dX4_where_7 : decode cX4_where 7 = .ok (.iconst (-1), 1) := by decide +kernel
theorem dX4_where_8 : decode cX4_where 8 = .ok (.ireturn, 1) := by decide +kernel
theorem dX4_where_9 : decode cX4_where 9 = .ok (.iload_n 2, 1) := by decide +kernel
theorem dX4_where_10 : decode cX4_where 10 = .ok (.tableswitch 68 0 3 #[30, 39, 48, 57], 30) := by decide +kernel
theorem dX4_where_40 : decode cX4_where 40 = .ok (.aload_n 0, 1) := by decide +kernel
theorem dX4_where_41 : decode cX4_where 41 = .ok (.getfield 19, 3) := by decide +kernel
theorem dX4_where_44 : decode cX4_where 44 = .ok (.iload_n 1, 1) := by decide +kernel
theorem dX4_where_45 : decode cX4_where 45 = .ok (.invokevirtual 120, 3) := by decide +kernel
theorem dX4_where_48 : decode cX4_where 48 = .ok (.ireturn, 1) := by decide +kernel
theorem dX4_where_49 : decode cX4_where 49 = .ok (.aload_n 0, 1) := by decide +kernel
theorem dX4_where_50 : decode cX4_where 50 = .ok (.getfield 19, 3) := by decide +kernel
theorem dX4_where_53 : decode cX4_where 53 = .ok (.iload_n 1, 1) := by decide +kernel
theorem dX4_where_54 : decode cX4_where 54 = .ok (.invokevirtual 123, 3) := by decide +kernel
theorem dX4_where_57 : decode cX4_where 57 = .ok (.ireturn, 1) := by decide +kernel
theorem dX4_where_58 : decode cX4_where 58 = .ok (.aload_n 0, 1) := by decide +kernel
theorem dX4_where_59 : decode cX4_where 59 = .ok (.getfield 19, 3) := by decide +kernel
theorem dX4_where_62 : decode cX4_where 62 = .ok (.iload_n 1, 1) := by decide +kernel
theorem dX4_where_63 : decode cX4_where 63 = .ok (.invokevirtual 126, 3) := by decide +kernel
theorem dX4_where_66 : decode cX4_where 66 = .ok (.ireturn, 1) := by decide +kernel
theorem dX4_where_67 : decode cX4_where 67 = .ok (.aload_n 0, 1) := by decide +kernel
theorem dX4_where_68 : decode cX4_where 68 = .ok (.getfield 19, 3) := by decide +kernel
theorem dX4_where_71 : decode cX4_where 71 = .ok (.iload_n 1, 1) := by decide +kernel
theorem dX4_where_72 : decode cX4_where 72 = .ok (.invokevirtual 129, 3) := by decide +kernel
theorem dX4_where_75 : decode cX4_where 75 = .ok (.iconst 1, 1) := by decide +kernel
theorem dX4_where_76 : decode cX4_where 76 = .ok (.iadd, 1) := by decide +kernel
theorem dX4_where_77 : decode cX4_where 77 = .ok (.ireturn, 1) := by decide +kernel
theorem dX4_where_78 : decode cX4_where 78 = .ok (.iconst (-1), 1) := by decide +kernel
theorem dX4_where_79 : decode cX4_where 79 = .ok (.ireturn, 1) := by decide +kernel
set_option maxRecDepth 20000 in
theorem ggX4_off_X1_isTown : GoodIn wsX4_off wsX1_isTown := goodIn_r _ [6, 7, 67, 68, 69, 70, 71, 72, 73, 74, 75, 76, 77, 78, 79, 80] (by decide +kernel) (by decide +kernel)
set_option maxRecDepth 20000 in
theorem gX4_off_X1_isTown : GoodIn wsX4_off (wsV RX4 71 RX1 yX1_isTown wsX1_isTown) := goodIn_app (goodIn_of _ (by decide +kernel)) ggX4_off_X1_isTown
set_option maxRecDepth 20000 in
theorem ggX4_off_X4_isHour : GoodIn wsX4_off wsX4_isHour := goodIn_r _ [11] (by decide +kernel) (by decide +kernel)
set_option maxRecDepth 20000 in
theorem gX4_off_X4_isHour : GoodIn wsX4_off (va_wsS RX4 117 yX4_isHour wsX4_isHour) := goodIn_app (goodIn_of _ (by decide +kernel)) ggX4_off_X4_isHour
set_option maxRecDepth 20000 in
theorem ggX4_off_X1_distanceAt : GoodIn wsX4_off wsX1_distanceAt := goodIn_r _ [15, 16, 17, 18, 5, 19, 20, 21, 22, 23, 24, 25, 26, 27, 28, 29, 30, 31, 32, 33, 34, 35, 36, 37, 38, 39, 40, 41, 42, 43, 44, 45, 46, 47, 48, 49, 50, 51, 52, 53, 54, 55, 56, 57, 58, 3, 4, 6, 7, 67, 68, 69, 70, 71, 72, 73, 74, 75, 76, 77, 78, 79, 80] (by decide +kernel) (by decide +kernel)
set_option maxRecDepth 20000 in
theorem gX4_off_X1_distanceAt : GoodIn wsX4_off (wsV RX4 132 RX1 yX1_distanceAt wsX1_distanceAt) := goodIn_app (goodIn_of _ (by decide +kernel)) ggX4_off_X1_distanceAt
theorem dX4_off_0 : decode cX4_off 0 = .ok (.aload_n 0, 1) := by decide +kernel
theorem dX4_off_1 : decode cX4_off 1 = .ok (.getfield 19, 3) := by decide +kernel
theorem dX4_off_4 : decode cX4_off 4 = .ok (.iload_n 1, 1) := by decide +kernel
theorem dX4_off_5 : decode cX4_off 5 = .ok (.invokevirtual 71, 3) := by decide +kernel
theorem dX4_off_8 : decode cX4_off 8 = .ok (.ifCond .eq 10, 3) := by decide +kernel
theorem dX4_off_11 : decode cX4_off 11 = .ok (.iload_n 2, 1) := by decide +kernel
theorem dX4_off_12 : decode cX4_off 12 = .ok (.invokestatic 117, 3) := by decide +kernel
theorem dX4_off_15 : decode cX4_off 15 = .ok (.ifCond .ne 5, 3) := by decide +kernel
theorem dX4_off_18 : decode cX4_off 18 = .ok (.iconst (-1), 1) := by decide +kernel
theorem dX4_off_19 : decode cX4_off 19 = .ok (.ireturn, 1) := by decide +kernel
theorem dX4_off_20 : decode cX4_off 20 = .ok (.aload_n 0, 1) := by decide +kernel
theorem dX4_off_21 : decode cX4_off 21 = .ok (.getfield 19, 3) := by decide +kernel
theorem dX4_off_24 : decode cX4_off 24 = .ok (.iload_n 1, 1) := by decide +kernel
theorem dX4_off_25 : decode cX4_off 25 = .ok (.iload_n 2, 1) := by decide +kernel
theorem dX4_off_26 : decode cX4_off 26 = .ok (.invokevirtual 132, 3) := by decide +kernel
theorem dX4_off_29 : decode cX4_off 29 = .ok (.ireturn, 1) := by decide +kernel
set_option maxRecDepth 20000 in
theorem ggX4_clock_X1_isTown : GoodIn wsX4_clock wsX1_isTown := goodIn_r _ [6, 7, 73, 74, 75, 76, 77, 78, 79, 80, 81, 82, 83, 84, 85, 86] (by decide +kernel) (by decide +kernel)
set_option maxRecDepth 20000 in
theorem gX4_clock_X1_isTown : GoodIn wsX4_clock (wsV RX4 71 RX1 yX1_isTown wsX1_isTown) := goodIn_app (goodIn_of _ (by decide +kernel)) ggX4_clock_X1_isTown
set_option maxRecDepth 20000 in
theorem ggX4_clock_X4_isHour : GoodIn wsX4_clock wsX4_isHour := goodIn_r _ [11] (by decide +kernel) (by decide +kernel)
set_option maxRecDepth 20000 in
theorem gX4_clock_X4_isHour : GoodIn wsX4_clock (va_wsS RX4 117 yX4_isHour wsX4_isHour) := goodIn_app (goodIn_of _ (by decide +kernel)) ggX4_clock_X4_isHour
set_option maxRecDepth 20000 in
theorem ggX4_clock_X1_clockAt : GoodIn wsX4_clock wsX1_clockAt := goodIn_r _ [15, 16, 17, 18, 5, 19, 20, 21, 22, 23, 24, 25, 26, 27, 28, 29, 30, 31, 32, 33, 34, 35, 36, 37, 38, 39, 40, 41, 42, 43, 44, 45, 46, 47, 48, 49, 50, 51, 52, 53, 54, 55, 56, 57, 58, 59, 60, 61, 62, 3, 4, 6, 7, 63, 10, 64, 73, 74, 75, 76, 77, 78, 79, 80, 81, 82, 83, 84, 85, 86] (by decide +kernel) (by decide +kernel)
set_option maxRecDepth 20000 in
theorem gX4_clock_X1_clockAt : GoodIn wsX4_clock (wsV RX4 135 RX1 yX1_clockAt wsX1_clockAt) := goodIn_app (goodIn_of _ (by decide +kernel)) ggX4_clock_X1_clockAt
theorem dX4_clock_0 : decode cX4_clock 0 = .ok (.aload_n 0, 1) := by decide +kernel
theorem dX4_clock_1 : decode cX4_clock 1 = .ok (.getfield 19, 3) := by decide +kernel
theorem dX4_clock_4 : decode cX4_clock 4 = .ok (.iload_n 1, 1) := by decide +kernel
theorem dX4_clock_5 : decode cX4_clock 5 = .ok (.invokevirtual 71, 3) := by decide +kernel
theorem dX4_clock_8 : decode cX4_clock 8 = .ok (.ifCond .eq 10, 3) := by decide +kernel
theorem dX4_clock_11 : decode cX4_clock 11 = .ok (.iload_n 2, 1) := by decide +kernel
theorem dX4_clock_12 : decode cX4_clock 12 = .ok (.invokestatic 117, 3) := by decide +kernel
theorem dX4_clock_15 : decode cX4_clock 15 = .ok (.ifCond .ne 5, 3) := by decide +kernel
theorem dX4_clock_18 : decode cX4_clock 18 = .ok (.iconst (-1), 1) := by decide +kernel
theorem dX4_clock_19 : decode cX4_clock 19 = .ok (.ireturn, 1) := by decide +kernel
theorem dX4_clock_20 : decode cX4_clock 20 = .ok (.aload_n 0, 1) := by decide +kernel
theorem dX4_clock_21 : decode cX4_clock 21 = .ok (.getfield 19, 3) := by decide +kernel
theorem dX4_clock_24 : decode cX4_clock 24 = .ok (.iload_n 1, 1) := by decide +kernel
theorem dX4_clock_25 : decode cX4_clock 25 = .ok (.iload_n 2, 1) := by decide +kernel
theorem dX4_clock_26 : decode cX4_clock 26 = .ok (.invokevirtual 135, 3) := by decide +kernel
theorem dX4_clock_29 : decode cX4_clock 29 = .ok (.ireturn, 1) := by decide +kernel
set_option maxRecDepth 20000 in
theorem ggX4_light_X1_isTown : GoodIn wsX4_light wsX1_isTown := goodIn_r _ [6, 7, 73, 74, 75, 76, 77, 78, 79, 80, 81, 82, 83, 84, 85, 86] (by decide +kernel) (by decide +kernel)
set_option maxRecDepth 20000 in
theorem gX4_light_X1_isTown : GoodIn wsX4_light (wsV RX4 71 RX1 yX1_isTown wsX1_isTown) := goodIn_app (goodIn_of _ (by decide +kernel)) ggX4_light_X1_isTown
set_option maxRecDepth 20000 in
theorem ggX4_light_X4_isHour : GoodIn wsX4_light wsX4_isHour := goodIn_r _ [11] (by decide +kernel) (by decide +kernel)
set_option maxRecDepth 20000 in
theorem gX4_light_X4_isHour : GoodIn wsX4_light (va_wsS RX4 117 yX4_isHour wsX4_isHour) := goodIn_app (goodIn_of _ (by decide +kernel)) ggX4_light_X4_isHour
set_option maxRecDepth 20000 in
theorem ggX4_light_X1_clockAt : GoodIn wsX4_light wsX1_clockAt := goodIn_r _ [15, 16, 17, 18, 5, 19, 20, 21, 22, 23, 24, 25, 26, 27, 28, 29, 30, 31, 32, 33, 34, 35, 36, 37, 38, 39, 40, 41, 42, 43, 44, 45, 46, 47, 48, 49, 50, 51, 52, 53, 54, 55, 56, 57, 58, 59, 60, 61, 62, 3, 4, 6, 7, 63, 10, 64, 73, 74, 75, 76, 77, 78, 79, 80, 81, 82, 83, 84, 85, 86] (by decide +kernel) (by decide +kernel)
set_option maxRecDepth 20000 in
theorem gX4_light_X1_clockAt : GoodIn wsX4_light (wsV RX4 135 RX1 yX1_clockAt wsX1_clockAt) := goodIn_app (goodIn_of _ (by decide +kernel)) ggX4_light_X1_clockAt
theorem dX4_light_0 : decode cX4_light 0 = .ok (.aload_n 0, 1) := by decide +kernel
theorem dX4_light_1 : decode cX4_light 1 = .ok (.getfield 19, 3) := by decide +kernel
theorem dX4_light_4 : decode cX4_light 4 = .ok (.iload_n 1, 1) := by decide +kernel
theorem dX4_light_5 : decode cX4_light 5 = .ok (.invokevirtual 71, 3) := by decide +kernel
theorem dX4_light_8 : decode cX4_light 8 = .ok (.ifCond .eq 10, 3) := by decide +kernel
theorem dX4_light_11 : decode cX4_light 11 = .ok (.iload_n 2, 1) := by decide +kernel
theorem dX4_light_12 : decode cX4_light 12 = .ok (.invokestatic 117, 3) := by decide +kernel
theorem dX4_light_15 : decode cX4_light 15 = .ok (.ifCond .ne 5, 3) := by decide +kernel
theorem dX4_light_18 : decode cX4_light 18 = .ok (.iconst (-1), 1) := by decide +kernel
theorem dX4_light_19 : decode cX4_light 19 = .ok (.ireturn, 1) := by decide +kernel
theorem dX4_light_20 : decode cX4_light 20 = .ok (.iconst 0, 1) := by decide +kernel
theorem dX4_light_21 : decode cX4_light 21 = .ok (.istore_n 3, 1) := by decide +kernel
theorem dX4_light_22 : decode cX4_light 22 = .ok (.iconst 0, 1) := by decide +kernel
theorem dX4_light_23 : decode cX4_light 23 = .ok (.istore 4, 2) := by decide +kernel
theorem dX4_light_25 : decode cX4_light 25 = .ok (.iload 4, 2) := by decide +kernel
theorem dX4_light_27 : decode cX4_light 27 = .ok (.bipush 24, 2) := by decide +kernel
theorem dX4_light_29 : decode cX4_light 29 = .ok (.if_icmp .ge 54, 3) := by decide +kernel
theorem dX4_light_32 : decode cX4_light 32 = .ok (.iload_n 2, 1) := by decide +kernel
theorem dX4_light_33 : decode cX4_light 33 = .ok (.iload 4, 2) := by decide +kernel
theorem dX4_light_35 : decode cX4_light 35 = .ok (.iadd, 1) := by decide +kernel
theorem dX4_light_36 : decode cX4_light 36 = .ok (.sipush 999, 3) := by decide +kernel
theorem dX4_light_39 : decode cX4_light 39 = .ok (.if_icmp .gt 44, 3) := by decide +kernel
theorem dX4_light_42 : decode cX4_light 42 = .ok (.aload_n 0, 1) := by decide +kernel
theorem dX4_light_43 : decode cX4_light 43 = .ok (.getfield 19, 3) := by decide +kernel
theorem dX4_light_46 : decode cX4_light 46 = .ok (.iload_n 1, 1) := by decide +kernel
theorem dX4_light_47 : decode cX4_light 47 = .ok (.iload_n 2, 1) := by decide +kernel
theorem dX4_light_48 : decode cX4_light 48 = .ok (.iload 4, 2) := by decide +kernel
theorem dX4_light_50 : decode cX4_light 50 = .ok (.iadd, 1) := by decide +kernel
theorem dX4_light_51 : decode cX4_light 51 = .ok (.invokevirtual 135, 3) := by decide +kernel
theorem dX4_light_54 : decode cX4_light 54 = .ok (.istore 5, 2) := by decide +kernel
theorem dX4_light_56 : decode cX4_light 56 = .ok (.iload 5, 2) := by decide +kernel
theorem dX4_light_58 : decode cX4_light 58 = .ok (.bipush 6, 2) := by decide +kernel
theorem dX4_light_60 : decode cX4_light 60 = .ok (.if_icmp .lt 17, 3) := by decide +kernel
theorem dX4_light_63 : decode cX4_light 63 = .ok (.iload 5, 2) := by decide +kernel
theorem dX4_light_65 : decode cX4_light 65 = .ok (.bipush 17, 2) := by decide +kernel
theorem dX4_light_67 : decode cX4_light 67 = .ok (.if_icmp .gt 10, 3) := by decide +kernel
theorem dX4_light_70 : decode cX4_light 70 = .ok (.iload_n 3, 1) := by decide +kernel
theorem dX4_light_71 : decode cX4_light 71 = .ok (.iconst 1, 1) := by decide +kernel
theorem dX4_light_72 : decode cX4_light 72 = .ok (.iload 4, 2) := by decide +kernel
theorem dX4_light_74 : decode cX4_light 74 = .ok (.ishl, 1) := by decide +kernel
theorem dX4_light_75 : decode cX4_light 75 = .ok (.ior, 1) := by decide +kernel
theorem dX4_light_76 : decode cX4_light 76 = .ok (.istore_n 3, 1) := by decide +kernel
theorem dX4_light_77 : decode cX4_light 77 = .ok (.iinc 4 1, 3) := by decide +kernel
theorem dX4_light_80 : decode cX4_light 80 = .ok (.goto (-55), 3) := by decide +kernel
theorem dX4_light_83 : decode cX4_light 83 = .ok (.iload_n 3, 1) := by decide +kernel
theorem dX4_light_84 : decode cX4_light 84 = .ok (.ireturn, 1) := by decide +kernel
set_option maxRecDepth 20000 in
theorem ggX4_pace_X1_isTown : GoodIn wsX4_pace wsX1_isTown := goodIn_r _ [7, 8, 75, 76, 77, 78, 79, 80, 81, 82, 83, 84, 85, 86, 87, 88] (by decide +kernel) (by decide +kernel)
set_option maxRecDepth 20000 in
theorem gX4_pace_X1_isTown : GoodIn wsX4_pace (wsV RX4 71 RX1 yX1_isTown wsX1_isTown) := goodIn_app (goodIn_of _ (by decide +kernel)) ggX4_pace_X1_isTown
set_option maxRecDepth 20000 in
theorem ggX4_pace_X1_clockAt : GoodIn wsX4_pace wsX1_clockAt := goodIn_r _ [12, 13, 14, 15, 6, 16, 17, 18, 19, 20, 21, 22, 23, 24, 25, 26, 27, 28, 29, 30, 31, 32, 33, 34, 35, 36, 37, 38, 39, 40, 41, 42, 43, 44, 45, 46, 47, 48, 49, 50, 51, 52, 53, 54, 55, 56, 57, 58, 59, 4, 5, 7, 8, 60, 61, 62, 75, 76, 77, 78, 79, 80, 81, 82, 83, 84, 85, 86, 87, 88] (by decide +kernel) (by decide +kernel)
set_option maxRecDepth 20000 in
theorem gX4_pace_X1_clockAt : GoodIn wsX4_pace (wsV RX4 135 RX1 yX1_clockAt wsX1_clockAt) := goodIn_app (goodIn_of _ (by decide +kernel)) ggX4_pace_X1_clockAt
set_option maxRecDepth 20000 in
theorem ggX4_pace_J9_floorMod_7cf53 : GoodIn wsX4_pace wsJ9_floorMod_7cf53 := goodIn_r _ [66] (by decide +kernel) (by decide +kernel)
set_option maxRecDepth 20000 in
theorem gX4_pace_J9_floorMod_7cf53 : GoodIn wsX4_pace (va_wsS RX4 139 yJ9_floorMod_7cf53 wsJ9_floorMod_7cf53) := goodIn_app (goodIn_of _ (by decide +kernel)) ggX4_pace_J9_floorMod_7cf53
theorem dX4_pace_0 : decode cX4_pace 0 = .ok (.aload_n 0, 1) := by decide +kernel
theorem dX4_pace_1 : decode cX4_pace 1 = .ok (.getfield 19, 3) := by decide +kernel
theorem dX4_pace_4 : decode cX4_pace 4 = .ok (.iload_n 1, 1) := by decide +kernel
theorem dX4_pace_5 : decode cX4_pace 5 = .ok (.invokevirtual 71, 3) := by decide +kernel
theorem dX4_pace_8 : decode cX4_pace 8 = .ok (.ifCond .eq 14, 3) := by decide +kernel
theorem dX4_pace_11 : decode cX4_pace 11 = .ok (.iload_n 2, 1) := by decide +kernel
theorem dX4_pace_12 : decode cX4_pace 12 = .ok (.ifCond .lt 10, 3) := by decide +kernel
theorem dX4_pace_15 : decode cX4_pace 15 = .ok (.iload_n 2, 1) := by decide +kernel
theorem dX4_pace_16 : decode cX4_pace 16 = .ok (.sipush 999, 3) := by decide +kernel
theorem dX4_pace_19 : decode cX4_pace 19 = .ok (.if_icmp .lt 6, 3) := by decide +kernel
theorem dX4_pace_22 : decode cX4_pace 22 = .ok (.ldc 138, 2) := by decide +kernel
theorem dX4_pace_24 : decode cX4_pace 24 = .ok (.ireturn, 1) := by decide +kernel
theorem dX4_pace_25 : decode cX4_pace 25 = .ok (.aload_n 0, 1) := by decide +kernel
theorem dX4_pace_26 : decode cX4_pace 26 = .ok (.getfield 19, 3) := by decide +kernel
theorem dX4_pace_29 : decode cX4_pace 29 = .ok (.iload_n 1, 1) := by decide +kernel
theorem dX4_pace_30 : decode cX4_pace 30 = .ok (.iload_n 2, 1) := by decide +kernel
theorem dX4_pace_31 : decode cX4_pace 31 = .ok (.invokevirtual 135, 3) := by decide +kernel
theorem dX4_pace_34 : decode cX4_pace 34 = .ok (.istore_n 3, 1) := by decide +kernel
theorem dX4_pace_35 : decode cX4_pace 35 = .ok (.aload_n 0, 1) := by decide +kernel
theorem dX4_pace_36 : decode cX4_pace 36 = .ok (.getfield 19, 3) := by decide +kernel
theorem dX4_pace_39 : decode cX4_pace 39 = .ok (.iload_n 1, 1) := by decide +kernel
theorem dX4_pace_40 : decode cX4_pace 40 = .ok (.iload_n 2, 1) := by decide +kernel
theorem dX4_pace_41 : decode cX4_pace 41 = .ok (.iconst 1, 1) := by decide +kernel
theorem dX4_pace_42 : decode cX4_pace 42 = .ok (.iadd, 1) := by decide +kernel
theorem dX4_pace_43 : decode cX4_pace 43 = .ok (.invokevirtual 135, 3) := by decide +kernel
theorem dX4_pace_46 : decode cX4_pace 46 = .ok (.istore 4, 2) := by decide +kernel
theorem dX4_pace_48 : decode cX4_pace 48 = .ok (.iload_n 3, 1) := by decide +kernel
theorem dX4_pace_49 : decode cX4_pace 49 = .ok (.bipush (-9), 2) := by decide +kernel
theorem dX4_pace_51 : decode cX4_pace 51 = .ok (.if_icmp .eq 10, 3) := by decide +kernel
theorem dX4_pace_54 : decode cX4_pace 54 = .ok (.iload 4, 2) := by decide +kernel
theorem dX4_pace_56 : decode cX4_pace 56 = .ok (.bipush (-9), 2) := by decide +kernel
theorem dX4_pace_58 : decode cX4_pace 58 = .ok (.if_icmp .ne 6, 3) := by decide +kernel
theorem dX4_pace_61 : decode cX4_pace 61 = .ok (.bipush (-9), 2) := by decide +kernel
theorem dX4_pace_63 : decode cX4_pace 63 = .ok (.ireturn, 1) := by decide +kernel
theorem dX4_pace_64 : decode cX4_pace 64 = .ok (.iload 4, 2) := by decide +kernel
theorem dX4_pace_66 : decode cX4_pace 66 = .ok (.iload_n 3, 1) := by decide +kernel
theorem dX4_pace_67 : decode cX4_pace 67 = .ok (.isub, 1) := by decide +kernel
theorem dX4_pace_68 : decode cX4_pace 68 = .ok (.bipush 12, 2) := by decide +kernel
theorem dX4_pace_70 : decode cX4_pace 70 = .ok (.iadd, 1) := by decide +kernel
theorem dX4_pace_71 : decode cX4_pace 71 = .ok (.bipush 24, 2) := by decide +kernel
theorem dX4_pace_73 : decode cX4_pace 73 = .ok (.invokestatic 139, 3) := by decide +kernel
theorem dX4_pace_76 : decode cX4_pace 76 = .ok (.bipush 12, 2) := by decide +kernel
theorem dX4_pace_78 : decode cX4_pace 78 = .ok (.isub, 1) := by decide +kernel
theorem dX4_pace_79 : decode cX4_pace 79 = .ok (.ireturn, 1) := by decide +kernel
set_option maxRecDepth 20000 in
theorem ggX4_early_X1_isTown : GoodIn wsX4_early wsX1_isTown := goodIn_r _ [6, 7, 74, 75, 76, 77, 78, 79, 80, 81, 82, 83, 84, 85, 86, 87] (by decide +kernel) (by decide +kernel)
set_option maxRecDepth 20000 in
theorem gX4_early_X1_isTown : GoodIn wsX4_early (wsV RX4 71 RX1 yX1_isTown wsX1_isTown) := goodIn_app (goodIn_of _ (by decide +kernel)) ggX4_early_X1_isTown
set_option maxRecDepth 20000 in
theorem ggX4_early_X4_isHour : GoodIn wsX4_early wsX4_isHour := goodIn_r _ [11] (by decide +kernel) (by decide +kernel)
set_option maxRecDepth 20000 in
theorem gX4_early_X4_isHour : GoodIn wsX4_early (va_wsS RX4 117 yX4_isHour wsX4_isHour) := goodIn_app (goodIn_of _ (by decide +kernel)) ggX4_early_X4_isHour
set_option maxRecDepth 20000 in
theorem ggX4_early_X1_distance : GoodIn wsX4_early wsX1_distance := goodIn_r _ [15, 16, 17, 3, 4, 5, 6, 7, 74, 75, 76, 77, 78, 79, 80, 81, 82, 83, 84, 85, 86, 87] (by decide +kernel) (by decide +kernel)
set_option maxRecDepth 20000 in
theorem gX4_early_X1_distance : GoodIn wsX4_early (wsV RX4 113 RX1 yX1_distance wsX1_distance) := goodIn_app (goodIn_of _ (by decide +kernel)) ggX4_early_X1_distance
set_option maxRecDepth 20000 in
theorem ggX4_early_X1_clockAt : GoodIn wsX4_early wsX1_clockAt := goodIn_r _ [21, 22, 23, 24, 5, 25, 26, 27, 28, 29, 30, 31, 32, 33, 34, 35, 36, 37, 38, 39, 40, 41, 42, 43, 44, 45, 46, 47, 48, 49, 50, 51, 52, 53, 54, 55, 56, 57, 58, 59, 60, 61, 62, 63, 13, 14, 15, 16, 17, 3, 4, 6, 7, 64, 10, 65, 74, 75, 76, 77, 78, 79, 80, 81, 82, 83, 84, 85, 86, 87] (by decide +kernel) (by decide +kernel)
set_option maxRecDepth 20000 in
theorem gX4_early_X1_clockAt : GoodIn wsX4_early (wsV RX4 135 RX1 yX1_clockAt wsX1_clockAt) := goodIn_app (goodIn_of _ (by decide +kernel)) ggX4_early_X1_clockAt
theorem dX4_early_0 : decode cX4_early 0 = .ok (.aload_n 0, 1) := by decide +kernel
theorem dX4_early_1 : decode cX4_early 1 = .ok (.getfield 19, 3) := by decide +kernel
theorem dX4_early_4 : decode cX4_early 4 = .ok (.iload_n 1, 1) := by decide +kernel
theorem dX4_early_5 : decode cX4_early 5 = .ok (.invokevirtual 71, 3) := by decide +kernel
theorem dX4_early_8 : decode cX4_early 8 = .ok (.ifCond .eq 26, 3) := by decide +kernel
theorem dX4_early_11 : decode cX4_early 11 = .ok (.aload_n 0, 1) := by decide +kernel
theorem dX4_early_12 : decode cX4_early 12 = .ok (.getfield 19, 3) := by decide +kernel
theorem dX4_early_15 : decode cX4_early 15 = .ok (.iload_n 2, 1) := by decide +kernel
theorem dX4_early_16 : decode cX4_early 16 = .ok (.invokevirtual 71, 3) := by decide +kernel
theorem dX4_early_19 : decode cX4_early 19 = .ok (.ifCond .eq 15, 3) := by decide +kernel
theorem dX4_early_22 : decode cX4_early 22 = .ok (.iload_n 1, 1) := by decide +kernel
theorem dX4_early_23 : decode cX4_early 23 = .ok (.iload_n 2, 1) := by decide +kernel
theorem dX4_early_24 : decode cX4_early 24 = .ok (.if_icmp .eq 10, 3) := by decide +kernel
theorem dX4_early_27 : decode cX4_early 27 = .ok (.iload_n 3, 1) := by decide +kernel
theorem dX4_early_28 : decode cX4_early 28 = .ok (.invokestatic 117, 3) := by decide +kernel
theorem dX4_early_31 : decode cX4_early 31 = .ok (.ifCond .ne 5, 3) := by decide +kernel
theorem dX4_early_34 : decode cX4_early 34 = .ok (.iconst (-1), 1) := by decide +kernel
theorem dX4_early_35 : decode cX4_early 35 = .ok (.ireturn, 1) := by decide +kernel
theorem dX4_early_36 : decode cX4_early 36 = .ok (.aload_n 0, 1) := by decide +kernel
theorem dX4_early_37 : decode cX4_early 37 = .ok (.getfield 19, 3) := by decide +kernel
theorem dX4_early_40 : decode cX4_early 40 = .ok (.iload_n 1, 1) := by decide +kernel
theorem dX4_early_41 : decode cX4_early 41 = .ok (.iload_n 2, 1) := by decide +kernel
theorem dX4_early_42 : decode cX4_early 42 = .ok (.invokevirtual 113, 3) := by decide +kernel
theorem dX4_early_45 : decode cX4_early 45 = .ok (.istore 4, 2) := by decide +kernel
theorem dX4_early_47 : decode cX4_early 47 = .ok (.iload 4, 2) := by decide +kernel
theorem dX4_early_49 : decode cX4_early 49 = .ok (.bipush (-9), 2) := by decide +kernel
theorem dX4_early_51 : decode cX4_early 51 = .ok (.if_icmp .ne 5, 3) := by decide +kernel
theorem dX4_early_54 : decode cX4_early 54 = .ok (.iconst 0, 1) := by decide +kernel
theorem dX4_early_55 : decode cX4_early 55 = .ok (.ireturn, 1) := by decide +kernel
theorem dX4_early_56 : decode cX4_early 56 = .ok (.iconst 0, 1) := by decide +kernel
theorem dX4_early_57 : decode cX4_early 57 = .ok (.istore 5, 2) := by decide +kernel
theorem dX4_early_59 : decode cX4_early 59 = .ok (.iconst 0, 1) := by decide +kernel
theorem dX4_early_60 : decode cX4_early 60 = .ok (.istore 6, 2) := by decide +kernel
theorem dX4_early_62 : decode cX4_early 62 = .ok (.iload 6, 2) := by decide +kernel
theorem dX4_early_64 : decode cX4_early 64 = .ok (.bipush 24, 2) := by decide +kernel
theorem dX4_early_66 : decode cX4_early 66 = .ok (.if_icmp .ge 80, 3) := by decide +kernel
theorem dX4_early_69 : decode cX4_early 69 = .ok (.iload_n 3, 1) := by decide +kernel
theorem dX4_early_70 : decode cX4_early 70 = .ok (.iload 6, 2) := by decide +kernel
theorem dX4_early_72 : decode cX4_early 72 = .ok (.iadd, 1) := by decide +kernel
theorem dX4_early_73 : decode cX4_early 73 = .ok (.sipush 999, 3) := by decide +kernel
theorem dX4_early_76 : decode cX4_early 76 = .ok (.if_icmp .gt 70, 3) := by decide +kernel
theorem dX4_early_79 : decode cX4_early 79 = .ok (.aload_n 0, 1) := by decide +kernel
theorem dX4_early_80 : decode cX4_early 80 = .ok (.getfield 19, 3) := by decide +kernel
theorem dX4_early_83 : decode cX4_early 83 = .ok (.iload_n 1, 1) := by decide +kernel
theorem dX4_early_84 : decode cX4_early 84 = .ok (.iload_n 3, 1) := by decide +kernel
theorem dX4_early_85 : decode cX4_early 85 = .ok (.iload 6, 2) := by decide +kernel
theorem dX4_early_87 : decode cX4_early 87 = .ok (.iadd, 1) := by decide +kernel
theorem dX4_early_88 : decode cX4_early 88 = .ok (.invokevirtual 135, 3) := by decide +kernel
theorem dX4_early_91 : decode cX4_early 91 = .ok (.istore 7, 2) := by decide +kernel
theorem dX4_early_93 : decode cX4_early 93 = .ok (.aload_n 0, 1) := by decide +kernel
theorem dX4_early_94 : decode cX4_early 94 = .ok (.getfield 19, 3) := by decide +kernel
theorem dX4_early_97 : decode cX4_early 97 = .ok (.iload_n 2, 1) := by decide +kernel
theorem dX4_early_98 : decode cX4_early 98 = .ok (.iload_n 3, 1) := by decide +kernel
theorem dX4_early_99 : decode cX4_early 99 = .ok (.iload 6, 2) := by decide +kernel
theorem dX4_early_101 : decode cX4_early 101 = .ok (.iadd, 1) := by decide +kernel
theorem dX4_early_102 : decode cX4_early 102 = .ok (.iload 4, 2) := by decide +kernel
theorem dX4_early_104 : decode cX4_early 104 = .ok (.iadd, 1) := by decide +kernel
theorem dX4_early_105 : decode cX4_early 105 = .ok (.invokevirtual 135, 3) := by decide +kernel
theorem dX4_early_108 : decode cX4_early 108 = .ok (.istore 8, 2) := by decide +kernel
theorem dX4_early_110 : decode cX4_early 110 = .ok (.iload 7, 2) := by decide +kernel
theorem dX4_early_112 : decode cX4_early 112 = .ok (.bipush (-9), 2) := by decide +kernel
theorem dX4_early_114 : decode cX4_early 114 = .ok (.if_icmp .eq 26, 3) := by decide +kernel
theorem dX4_early_117 : decode cX4_early 117 = .ok (.iload 8, 2) := by decide +kernel
theorem dX4_early_119 : decode cX4_early 119 = .ok (.bipush (-9), 2) := by decide +kernel
theorem dX4_early_121 : decode cX4_early 121 = .ok (.if_icmp .eq 19, 3) := by decide +kernel
theorem dX4_early_124 : decode cX4_early 124 = .ok (.iload 8, 2) := by decide +kernel
theorem dX4_early_126 : decode cX4_early 126 = .ok (.iload 7, 2) := by decide +kernel
theorem dX4_early_128 : decode cX4_early 128 = .ok (.if_icmp .ge 12, 3) := by decide +kernel
theorem dX4_early_131 : decode cX4_early 131 = .ok (.iload 5, 2) := by decide +kernel
theorem dX4_early_133 : decode cX4_early 133 = .ok (.iconst 1, 1) := by decide +kernel
theorem dX4_early_134 : decode cX4_early 134 = .ok (.iload 6, 2) := by decide +kernel
theorem dX4_early_136 : decode cX4_early 136 = .ok (.ishl, 1) := by decide +kernel
theorem dX4_early_137 : decode cX4_early 137 = .ok (.ior, 1) := by decide +kernel
theorem dX4_early_138 : decode cX4_early 138 = .ok (.istore 5, 2) := by decide +kernel
theorem dX4_early_140 : decode cX4_early 140 = .ok (.iinc 6 1, 3) := by decide +kernel
theorem dX4_early_143 : decode cX4_early 143 = .ok (.goto (-81), 3) := by decide +kernel
theorem dX4_early_146 : decode cX4_early 146 = .ok (.iload 5, 2) := by decide +kernel
theorem dX4_early_148 : decode cX4_early 148 = .ok (.ireturn, 1) := by decide +kernel
set_option maxRecDepth 20000 in
theorem ggX4_meets_X1_isTown : GoodIn wsX4_meets wsX1_isTown := goodIn_r _ [10, 11, 77, 78, 79, 80, 81, 82, 83, 84, 85, 86, 87, 88, 89, 90] (by decide +kernel) (by decide +kernel)
set_option maxRecDepth 20000 in
theorem gX4_meets_X1_isTown : GoodIn wsX4_meets (wsV RX4 71 RX1 yX1_isTown wsX1_isTown) := goodIn_app (goodIn_of _ (by decide +kernel)) ggX4_meets_X1_isTown
set_option maxRecDepth 20000 in
theorem ggX4_meets_X4_isStart : GoodIn wsX4_meets wsX4_isStart := goodIn_r _ [15] (by decide +kernel) (by decide +kernel)
set_option maxRecDepth 20000 in
theorem gX4_meets_X4_isStart : GoodIn wsX4_meets (va_wsS RX4 144 yX4_isStart wsX4_isStart) := goodIn_app (goodIn_of _ (by decide +kernel)) ggX4_meets_X4_isStart
set_option maxRecDepth 20000 in
theorem ggX4_meets_X1_distance : GoodIn wsX4_meets wsX1_distance := goodIn_r _ [19, 20, 21, 7, 8, 9, 10, 11, 77, 78, 79, 80, 81, 82, 83, 84, 85, 86, 87, 88, 89, 90] (by decide +kernel) (by decide +kernel)
set_option maxRecDepth 20000 in
theorem gX4_meets_X1_distance : GoodIn wsX4_meets (wsV RX4 113 RX1 yX1_distance wsX1_distance) := goodIn_app (goodIn_of _ (by decide +kernel)) ggX4_meets_X1_distance
set_option maxRecDepth 20000 in
theorem ggX4_meets_X1_clockAt : GoodIn wsX4_meets wsX1_clockAt := goodIn_r _ [25, 26, 27, 28, 9, 29, 30, 31, 32, 33, 34, 35, 36, 37, 38, 39, 40, 41, 42, 43, 44, 45, 46, 47, 48, 49, 50, 51, 52, 53, 54, 55, 56, 57, 58, 59, 60, 61, 62, 63, 64, 4, 65, 66, 17, 18, 19, 20, 21, 7, 8, 10, 11, 67, 14, 68, 77, 78, 79, 80, 81, 82, 83, 84, 85, 86, 87, 88, 89, 90] (by decide +kernel) (by decide +kernel)
set_option maxRecDepth 20000 in
theorem gX4_meets_X1_clockAt : GoodIn wsX4_meets (wsV RX4 135 RX1 yX1_clockAt wsX1_clockAt) := goodIn_app (goodIn_of _ (by decide +kernel)) ggX4_meets_X1_clockAt
theorem dX4_meets_0 : decode cX4_meets 0 = .ok (.aload_n 0, 1) := by decide +kernel
theorem dX4_meets_1 : decode cX4_meets 1 = .ok (.getfield 19, 3) := by decide +kernel
theorem dX4_meets_4 : decode cX4_meets 4 = .ok (.iload_n 1, 1) := by decide +kernel
theorem dX4_meets_5 : decode cX4_meets 5 = .ok (.invokevirtual 71, 3) := by decide +kernel
theorem dX4_meets_8 : decode cX4_meets 8 = .ok (.ifCond .eq 26, 3) := by decide +kernel
theorem dX4_meets_11 : decode cX4_meets 11 = .ok (.aload_n 0, 1) := by decide +kernel
theorem dX4_meets_12 : decode cX4_meets 12 = .ok (.getfield 19, 3) := by decide +kernel
theorem dX4_meets_15 : decode cX4_meets 15 = .ok (.iload_n 3, 1) := by decide +kernel
theorem dX4_meets_16 : decode cX4_meets 16 = .ok (.invokevirtual 71, 3) := by decide +kernel
theorem dX4_meets_19 : decode cX4_meets 19 = .ok (.ifCond .eq 15, 3) := by decide +kernel
theorem dX4_meets_22 : decode cX4_meets 22 = .ok (.aload_n 0, 1) := by decide +kernel
theorem dX4_meets_23 : decode cX4_meets 23 = .ok (.getfield 19, 3) := by decide +kernel
theorem dX4_meets_26 : decode cX4_meets 26 = .ok (.iload 5, 2) := by decide +kernel
theorem dX4_meets_28 : decode cX4_meets 28 = .ok (.invokevirtual 71, 3) := by decide +kernel
theorem dX4_meets_31 : decode cX4_meets 31 = .ok (.ifCond .ne 5, 3) := by decide +kernel
theorem dX4_meets_34 : decode cX4_meets 34 = .ok (.iconst (-1), 1) := by decide +kernel
theorem dX4_meets_35 : decode cX4_meets 35 = .ok (.ireturn, 1) := by decide +kernel
theorem dX4_meets_36 : decode cX4_meets 36 = .ok (.iload_n 2, 1) := by decide +kernel
theorem dX4_meets_37 : decode cX4_meets 37 = .ok (.invokestatic 144, 3) := by decide +kernel
theorem dX4_meets_40 : decode cX4_meets 40 = .ok (.ifCond .eq 22, 3) := by decide +kernel
theorem dX4_meets_43 : decode cX4_meets 43 = .ok (.iload 4, 2) := by decide +kernel
theorem dX4_meets_45 : decode cX4_meets 45 = .ok (.invokestatic 144, 3) := by decide +kernel
theorem dX4_meets_48 : decode cX4_meets 48 = .ok (.ifCond .eq 14, 3) := by decide +kernel
theorem dX4_meets_51 : decode cX4_meets 51 = .ok (.iload 6, 2) := by decide +kernel
theorem dX4_meets_53 : decode cX4_meets 53 = .ok (.ifCond .lt 9, 3) := by decide +kernel
theorem dX4_meets_56 : decode cX4_meets 56 = .ok (.iload 6, 2) := by decide +kernel
theorem dX4_meets_58 : decode cX4_meets 58 = .ok (.iconst 1, 1) := by decide +kernel
theorem dX4_meets_59 : decode cX4_meets 59 = .ok (.if_icmp .le 5, 3) := by decide +kernel
theorem dX4_meets_62 : decode cX4_meets 62 = .ok (.iconst (-1), 1) := by decide +kernel
theorem dX4_meets_63 : decode cX4_meets 63 = .ok (.ireturn, 1) := by decide +kernel
theorem dX4_meets_64 : decode cX4_meets 64 = .ok (.aload_n 0, 1) := by decide +kernel
theorem dX4_meets_65 : decode cX4_meets 65 = .ok (.getfield 19, 3) := by decide +kernel
theorem dX4_meets_68 : decode cX4_meets 68 = .ok (.iload_n 1, 1) := by decide +kernel
theorem dX4_meets_69 : decode cX4_meets 69 = .ok (.iload 5, 2) := by decide +kernel
theorem dX4_meets_71 : decode cX4_meets 71 = .ok (.invokevirtual 113, 3) := by decide +kernel
theorem dX4_meets_74 : decode cX4_meets 74 = .ok (.istore 7, 2) := by decide +kernel
theorem dX4_meets_76 : decode cX4_meets 76 = .ok (.aload_n 0, 1) := by decide +kernel
theorem dX4_meets_77 : decode cX4_meets 77 = .ok (.getfield 19, 3) := by decide +kernel
theorem dX4_meets_80 : decode cX4_meets 80 = .ok (.iload_n 3, 1) := by decide +kernel
theorem dX4_meets_81 : decode cX4_meets 81 = .ok (.iload 5, 2) := by decide +kernel
theorem dX4_meets_83 : decode cX4_meets 83 = .ok (.invokevirtual 113, 3) := by decide +kernel
theorem dX4_meets_86 : decode cX4_meets 86 = .ok (.istore 8, 2) := by decide +kernel
theorem dX4_meets_88 : decode cX4_meets 88 = .ok (.iload 7, 2) := by decide +kernel
theorem dX4_meets_90 : decode cX4_meets 90 = .ok (.bipush (-9), 2) := by decide +kernel
theorem dX4_meets_92 : decode cX4_meets 92 = .ok (.if_icmp .eq 10, 3) := by decide +kernel
theorem dX4_meets_95 : decode cX4_meets 95 = .ok (.iload 8, 2) := by decide +kernel
theorem dX4_meets_97 : decode cX4_meets 97 = .ok (.bipush (-9), 2) := by decide +kernel
theorem dX4_meets_99 : decode cX4_meets 99 = .ok (.if_icmp .ne 6, 3) := by decide +kernel
theorem dX4_meets_102 : decode cX4_meets 102 = .ok (.bipush (-9), 2) := by decide +kernel
theorem dX4_meets_104 : decode cX4_meets 104 = .ok (.ireturn, 1) := by decide +kernel
theorem dX4_meets_105 : decode cX4_meets 105 = .ok (.iload_n 2, 1) := by decide +kernel
theorem dX4_meets_106 : decode cX4_meets 106 = .ok (.iload 7, 2) := by decide +kernel
theorem dX4_meets_108 : decode cX4_meets 108 = .ok (.iadd, 1) := by decide +kernel
theorem dX4_meets_109 : decode cX4_meets 109 = .ok (.iload 4, 2) := by decide +kernel
theorem dX4_meets_111 : decode cX4_meets 111 = .ok (.iload 8, 2) := by decide +kernel
theorem dX4_meets_113 : decode cX4_meets 113 = .ok (.iadd, 1) := by decide +kernel
theorem dX4_meets_114 : decode cX4_meets 114 = .ok (.invokestatic 147, 3) := by decide +kernel
theorem dX4_meets_117 : decode cX4_meets 117 = .ok (.istore 9, 2) := by decide +kernel
theorem dX4_meets_119 : decode cX4_meets 119 = .ok (.iload 6, 2) := by decide +kernel
theorem dX4_meets_121 : decode cX4_meets 121 = .ok (.ifCond .ne 8, 3) := by decide +kernel
theorem dX4_meets_124 : decode cX4_meets 124 = .ok (.iload 9, 2) := by decide +kernel
theorem dX4_meets_126 : decode cX4_meets 126 = .ok (.goto 14, 3) := by decide +kernel
theorem dX4_meets_129 : decode cX4_meets 129 = .ok (.aload_n 0, 1) := by decide +kernel
theorem dX4_meets_130 : decode cX4_meets 130 = .ok (.getfield 19, 3) := by decide +kernel
theorem dX4_meets_133 : decode cX4_meets 133 = .ok (.iload 5, 2) := by decide +kernel
theorem dX4_meets_135 : decode cX4_meets 135 = .ok (.iload 9, 2) := by decide +kernel
theorem dX4_meets_137 : decode cX4_meets 137 = .ok (.invokevirtual 135, 3) := by decide +kernel
theorem dX4_meets_140 : decode cX4_meets 140 = .ok (.ireturn, 1) := by decide +kernel
set_option maxRecDepth 20000 in
theorem ggX4_midnights_X1_isTown : GoodIn wsX4_midnights wsX1_isTown := goodIn_r _ [6, 7, 80, 81, 82, 83, 84, 85, 86, 87, 88, 89, 90, 91, 92, 93] (by decide +kernel) (by decide +kernel)
set_option maxRecDepth 20000 in
theorem gX4_midnights_X1_isTown : GoodIn wsX4_midnights (wsV RX4 71 RX1 yX1_isTown wsX1_isTown) := goodIn_app (goodIn_of _ (by decide +kernel)) ggX4_midnights_X1_isTown
set_option maxRecDepth 20000 in
theorem ggX4_midnights_X4_isSpan : GoodIn wsX4_midnights wsX4_isSpan := goodIn_r _ [11, 12, 13, 10, 14] (by decide +kernel) (by decide +kernel)
set_option maxRecDepth 20000 in
theorem gX4_midnights_X4_isSpan : GoodIn wsX4_midnights (va_wsS RX4 150 yX4_isSpan wsX4_isSpan) := goodIn_app (goodIn_of _ (by decide +kernel)) ggX4_midnights_X4_isSpan
set_option maxRecDepth 20000 in
theorem ggX4_midnights_X1_midnightsOf : GoodIn wsX4_midnights wsX1_midnightsOf := goodIn_r _ [18, 19, 20, 21, 5, 22, 23, 24, 25, 26, 27, 28, 29, 30, 31, 32, 33, 34, 35, 36, 37, 38, 39, 40, 41, 42, 43, 44, 45, 46, 47, 48, 49, 50, 51, 52, 53, 54, 55, 56, 57, 58, 59, 60, 61, 62, 63, 64, 65, 66, 67, 68, 69, 3, 4, 6, 7, 70, 10, 71, 80, 81, 82, 83, 84, 85, 86, 87, 88, 89, 90, 91, 92, 93] (by decide +kernel) (by decide +kernel)
set_option maxRecDepth 20000 in
theorem gX4_midnights_X1_midnightsOf : GoodIn wsX4_midnights (wsV RX4 154 RX1 yX1_midnightsOf wsX1_midnightsOf) := goodIn_app (goodIn_of _ (by decide +kernel)) ggX4_midnights_X1_midnightsOf
theorem dX4_midnights_0 : decode cX4_midnights 0 = .ok (.aload_n 0, 1) := by decide +kernel
theorem dX4_midnights_1 : decode cX4_midnights 1 = .ok (.getfield 19, 3) := by decide +kernel
theorem dX4_midnights_4 : decode cX4_midnights 4 = .ok (.iload_n 1, 1) := by decide +kernel
theorem dX4_midnights_5 : decode cX4_midnights 5 = .ok (.invokevirtual 71, 3) := by decide +kernel
theorem dX4_midnights_8 : decode cX4_midnights 8 = .ok (.ifCond .eq 11, 3) := by decide +kernel
theorem dX4_midnights_11 : decode cX4_midnights 11 = .ok (.iload_n 2, 1) := by decide +kernel
theorem dX4_midnights_12 : decode cX4_midnights 12 = .ok (.iload_n 3, 1) := by decide +kernel
theorem dX4_midnights_13 : decode cX4_midnights 13 = .ok (.invokestatic 150, 3) := by decide +kernel
theorem dX4_midnights_16 : decode cX4_midnights 16 = .ok (.ifCond .ne 5, 3) := by decide +kernel
theorem dX4_midnights_19 : decode cX4_midnights 19 = .ok (.iconst (-1), 1) := by decide +kernel
theorem dX4_midnights_20 : decode cX4_midnights 20 = .ok (.ireturn, 1) := by decide +kernel
theorem dX4_midnights_21 : decode cX4_midnights 21 = .ok (.aload_n 0, 1) := by decide +kernel
theorem dX4_midnights_22 : decode cX4_midnights 22 = .ok (.getfield 19, 3) := by decide +kernel
theorem dX4_midnights_25 : decode cX4_midnights 25 = .ok (.iload_n 1, 1) := by decide +kernel
theorem dX4_midnights_26 : decode cX4_midnights 26 = .ok (.iload_n 2, 1) := by decide +kernel
theorem dX4_midnights_27 : decode cX4_midnights 27 = .ok (.iload_n 3, 1) := by decide +kernel
theorem dX4_midnights_28 : decode cX4_midnights 28 = .ok (.invokevirtual 154, 3) := by decide +kernel
theorem dX4_midnights_31 : decode cX4_midnights 31 = .ok (.ireturn, 1) := by decide +kernel
set_option maxRecDepth 20000 in
theorem ggX4_gains_X1_isTown : GoodIn wsX4_gains wsX1_isTown := goodIn_r _ [7, 8, 81, 82, 83, 84, 85, 86, 87, 88, 89, 90, 91, 92, 93, 94] (by decide +kernel) (by decide +kernel)
set_option maxRecDepth 20000 in
theorem gX4_gains_X1_isTown : GoodIn wsX4_gains (wsV RX4 71 RX1 yX1_isTown wsX1_isTown) := goodIn_app (goodIn_of _ (by decide +kernel)) ggX4_gains_X1_isTown
set_option maxRecDepth 20000 in
theorem ggX4_gains_X4_isSpan : GoodIn wsX4_gains wsX4_isSpan := goodIn_r _ [12, 13, 14, 11, 15] (by decide +kernel) (by decide +kernel)
set_option maxRecDepth 20000 in
theorem gX4_gains_X4_isSpan : GoodIn wsX4_gains (va_wsS RX4 150 yX4_isSpan wsX4_isSpan) := goodIn_app (goodIn_of _ (by decide +kernel)) ggX4_gains_X4_isSpan
set_option maxRecDepth 20000 in
theorem ggX4_gains_X1_midnightsOf : GoodIn wsX4_gains wsX1_midnightsOf := goodIn_r _ [19, 20, 21, 22, 6, 23, 24, 25, 26, 27, 28, 29, 30, 31, 32, 33, 34, 35, 36, 37, 38, 39, 40, 41, 42, 43, 44, 45, 46, 47, 48, 49, 50, 51, 52, 53, 54, 55, 56, 57, 58, 59, 60, 61, 62, 63, 64, 65, 66, 67, 68, 69, 70, 4, 5, 7, 8, 71, 11, 72, 81, 82, 83, 84, 85, 86, 87, 88, 89, 90, 91, 92, 93, 94] (by decide +kernel) (by decide +kernel)
set_option maxRecDepth 20000 in
theorem gX4_gains_X1_midnightsOf : GoodIn wsX4_gains (wsV RX4 154 RX1 yX1_midnightsOf wsX1_midnightsOf) := goodIn_app (goodIn_of _ (by decide +kernel)) ggX4_gains_X1_midnightsOf
theorem dX4_gains_0 : decode cX4_gains 0 = .ok (.aload_n 0, 1) := by decide +kernel
theorem dX4_gains_1 : decode cX4_gains 1 = .ok (.getfield 19, 3) := by decide +kernel
theorem dX4_gains_4 : decode cX4_gains 4 = .ok (.iload_n 1, 1) := by decide +kernel
theorem dX4_gains_5 : decode cX4_gains 5 = .ok (.invokevirtual 71, 3) := by decide +kernel
theorem dX4_gains_8 : decode cX4_gains 8 = .ok (.ifCond .eq 24, 3) := by decide +kernel
theorem dX4_gains_11 : decode cX4_gains 11 = .ok (.iload_n 2, 1) := by decide +kernel
theorem dX4_gains_12 : decode cX4_gains 12 = .ok (.iload_n 3, 1) := by decide +kernel
theorem dX4_gains_13 : decode cX4_gains 13 = .ok (.invokestatic 150, 3) := by decide +kernel
theorem dX4_gains_16 : decode cX4_gains 16 = .ok (.ifCond .eq 16, 3) := by decide +kernel
theorem dX4_gains_19 : decode cX4_gains 19 = .ok (.iload 4, 2) := by decide +kernel
theorem dX4_gains_21 : decode cX4_gains 21 = .ok (.iconst 1, 1) := by decide +kernel
theorem dX4_gains_22 : decode cX4_gains 22 = .ok (.if_icmp .lt 10, 3) := by decide +kernel
theorem dX4_gains_25 : decode cX4_gains 25 = .ok (.iload 4, 2) := by decide +kernel
theorem dX4_gains_27 : decode cX4_gains 27 = .ok (.bipush 99, 2) := by decide +kernel
theorem dX4_gains_29 : decode cX4_gains 29 = .ok (.if_icmp .le 6, 3) := by decide +kernel
theorem dX4_gains_32 : decode cX4_gains 32 = .ok (.ldc 138, 2) := by decide +kernel
theorem dX4_gains_34 : decode cX4_gains 34 = .ok (.ireturn, 1) := by decide +kernel
theorem dX4_gains_35 : decode cX4_gains 35 = .ok (.iload 4, 2) := by decide +kernel
theorem dX4_gains_37 : decode cX4_gains 37 = .ok (.aload_n 0, 1) := by decide +kernel
theorem dX4_gains_38 : decode cX4_gains 38 = .ok (.getfield 19, 3) := by decide +kernel
theorem dX4_gains_41 : decode cX4_gains 41 = .ok (.iload_n 1, 1) := by decide +kernel
theorem dX4_gains_42 : decode cX4_gains 42 = .ok (.iload_n 2, 1) := by decide +kernel
theorem dX4_gains_43 : decode cX4_gains 43 = .ok (.iload_n 3, 1) := by decide +kernel
theorem dX4_gains_44 : decode cX4_gains 44 = .ok (.invokevirtual 154, 3) := by decide +kernel
theorem dX4_gains_47 : decode cX4_gains 47 = .ok (.iload_n 3, 1) := by decide +kernel
theorem dX4_gains_48 : decode cX4_gains 48 = .ok (.iload_n 2, 1) := by decide +kernel
theorem dX4_gains_49 : decode cX4_gains 49 = .ok (.isub, 1) := by decide +kernel
theorem dX4_gains_50 : decode cX4_gains 50 = .ok (.bipush 24, 2) := by decide +kernel
theorem dX4_gains_52 : decode cX4_gains 52 = .ok (.idiv, 1) := by decide +kernel
theorem dX4_gains_53 : decode cX4_gains 53 = .ok (.isub, 1) := by decide +kernel
theorem dX4_gains_54 : decode cX4_gains 54 = .ok (.imul, 1) := by decide +kernel
theorem dX4_gains_55 : decode cX4_gains 55 = .ok (.ireturn, 1) := by decide +kernel
set_option maxRecDepth 20000 in
theorem ggX4_best_X1_isTown : GoodIn wsX4_best wsX1_isTown := goodIn_r _ [9, 10, 56, 57, 58, 59, 60, 61, 62, 63, 64, 65, 66, 67, 68, 69] (by decide +kernel) (by decide +kernel)
set_option maxRecDepth 20000 in
theorem gX4_best_X1_isTown : GoodIn wsX4_best (wsV RX4 71 RX1 yX1_isTown wsX1_isTown) := goodIn_app (goodIn_of _ (by decide +kernel)) ggX4_best_X1_isTown
set_option maxRecDepth 20000 in
theorem ggX4_best_X0_find : GoodIn wsX4_best wsX0_find := goodIn_r _ [15, 16, 17, 18, 19, 20, 21, 22, 8, 23, 24, 25, 6, 7, 9, 10, 26, 27, 14, 28, 29, 30, 31, 32, 33, 34, 35, 36, 37, 38, 39, 52, 53, 54, 55, 56, 57, 58, 59, 60, 61, 62, 63, 64, 65, 66, 67, 68, 69] (by decide +kernel) (by decide +kernel)
set_option maxRecDepth 20000 in
theorem gX4_best_X0_find : GoodIn wsX4_best (wsV RX4 158 RX0 yX0_find wsX0_find) := goodIn_app (goodIn_of _ (by decide +kernel)) ggX4_best_X0_find
set_option maxRecDepth 20000 in
theorem ggX4_best_X0_townOf : GoodIn wsX4_best wsX0_townOf := goodIn_r _ [43, 18, 39, 52, 53, 54, 55] (by decide +kernel) (by decide +kernel)
set_option maxRecDepth 20000 in
theorem gX4_best_X0_townOf : GoodIn wsX4_best (wsV RX4 165 RX0 yX0_townOf wsX0_townOf) := goodIn_app (goodIn_of _ (by decide +kernel)) ggX4_best_X0_townOf
theorem dX4_best_0 : decode cX4_best 0 = .ok (.aload_n 0, 1) := by decide +kernel
theorem dX4_best_1 : decode cX4_best 1 = .ok (.getfield 19, 3) := by decide +kernel
theorem dX4_best_4 : decode cX4_best 4 = .ok (.iload_n 1, 1) := by decide +kernel
theorem dX4_best_5 : decode cX4_best 5 = .ok (.invokevirtual 71, 3) := by decide +kernel
theorem dX4_best_8 : decode cX4_best 8 = .ok (.ifCond .eq 14, 3) := by decide +kernel
theorem dX4_best_11 : decode cX4_best 11 = .ok (.iload_n 2, 1) := by decide +kernel
theorem dX4_best_12 : decode cX4_best 12 = .ok (.iconst (-1), 1) := by decide +kernel
theorem dX4_best_13 : decode cX4_best 13 = .ok (.if_icmp .lt 9, 3) := by decide +kernel
theorem dX4_best_16 : decode cX4_best 16 = .ok (.iload_n 2, 1) := by decide +kernel
theorem dX4_best_17 : decode cX4_best 17 = .ok (.bipush 6, 2) := by decide +kernel
theorem dX4_best_19 : decode cX4_best 19 = .ok (.if_icmp .lt 6, 3) := by decide +kernel
theorem dX4_best_22 : decode cX4_best 22 = .ok (.ldc 138, 2) := by decide +kernel
theorem dX4_best_24 : decode cX4_best 24 = .ok (.ireturn, 1) := by decide +kernel
theorem dX4_best_25 : decode cX4_best 25 = .ok (.aload_n 0, 1) := by decide +kernel
theorem dX4_best_26 : decode cX4_best 26 = .ok (.getfield 29, 3) := by decide +kernel
theorem dX4_best_29 : decode cX4_best 29 = .ok (.aload_n 0, 1) := by decide +kernel
theorem dX4_best_30 : decode cX4_best 30 = .ok (.getfield 19, 3) := by decide +kernel
theorem dX4_best_33 : decode cX4_best 33 = .ok (.iload_n 1, 1) := by decide +kernel
theorem dX4_best_34 : decode cX4_best 34 = .ok (.invokevirtual 158, 3) := by decide +kernel
theorem dX4_best_37 : decode cX4_best 37 = .ok (.iload_n 2, 1) := by decide +kernel
theorem dX4_best_38 : decode cX4_best 38 = .ok (.iconst (-1), 1) := by decide +kernel
theorem dX4_best_39 : decode cX4_best 39 = .ok (.if_icmp .ne 13, 3) := by decide +kernel
theorem dX4_best_42 : decode cX4_best 42 = .ok (.aload_n 0, 1) := by decide +kernel
theorem dX4_best_43 : decode cX4_best 43 = .ok (.getfield 29, 3) := by decide +kernel
theorem dX4_best_46 : decode cX4_best 46 = .ok (.getfield 162, 3) := by decide +kernel
theorem dX4_best_49 : decode cX4_best 49 = .ok (.goto 11, 3) := by decide +kernel
theorem dX4_best_52 : decode cX4_best 52 = .ok (.aload_n 0, 1) := by decide +kernel
theorem dX4_best_53 : decode cX4_best 53 = .ok (.getfield 29, 3) := by decide +kernel
theorem dX4_best_56 : decode cX4_best 56 = .ok (.iload_n 2, 1) := by decide +kernel
theorem dX4_best_57 : decode cX4_best 57 = .ok (.invokevirtual 165, 3) := by decide +kernel
theorem dX4_best_60 : decode cX4_best 60 = .ok (.ireturn, 1) := by decide +kernel
set_option maxRecDepth 20000 in
theorem ggX4_saw_X1_isTown : GoodIn wsX4_saw wsX1_isTown := goodIn_r _ [8, 9, 37, 38, 39, 40, 41, 42, 43, 44, 45, 46, 47, 48, 49, 50] (by decide +kernel) (by decide +kernel)
set_option maxRecDepth 20000 in
theorem gX4_saw_X1_isTown : GoodIn wsX4_saw (wsV RX4 71 RX1 yX1_isTown wsX1_isTown) := goodIn_app (goodIn_of _ (by decide +kernel)) ggX4_saw_X1_isTown
set_option maxRecDepth 20000 in
theorem ggX4_saw_X4_isHour : GoodIn wsX4_saw wsX4_isHour := goodIn_r _ [13] (by decide +kernel) (by decide +kernel)
set_option maxRecDepth 20000 in
theorem gX4_saw_X4_isHour : GoodIn wsX4_saw (va_wsS RX4 117 yX4_isHour wsX4_isHour) := goodIn_app (goodIn_of _ (by decide +kernel)) ggX4_saw_X4_isHour
set_option maxRecDepth 20000 in
theorem ggX4_saw_X2_add : GoodIn wsX4_saw wsX2_add := goodIn_r _ [18, 19, 20, 21, 22, 31, 32, 33, 34, 35, 36] (by decide +kernel) (by decide +kernel)
set_option maxRecDepth 20000 in
theorem gX4_saw_X2_add : GoodIn wsX4_saw (wsV RX4 171 RX2 yX2_add wsX2_add) := goodIn_app (goodIn_of _ (by decide +kernel)) ggX4_saw_X2_add
theorem dX4_saw_0 : decode cX4_saw 0 = .ok (.aload_n 0, 1) := by decide +kernel
theorem dX4_saw_1 : decode cX4_saw 1 = .ok (.getfield 19, 3) := by decide +kernel
theorem dX4_saw_4 : decode cX4_saw 4 = .ok (.iload_n 1, 1) := by decide +kernel
theorem dX4_saw_5 : decode cX4_saw 5 = .ok (.invokevirtual 71, 3) := by decide +kernel
theorem dX4_saw_8 : decode cX4_saw 8 = .ok (.ifCond .eq 20, 3) := by decide +kernel
theorem dX4_saw_11 : decode cX4_saw 11 = .ok (.iload_n 2, 1) := by decide +kernel
theorem dX4_saw_12 : decode cX4_saw 12 = .ok (.ifCond .lt 16, 3) := by decide +kernel
theorem dX4_saw_15 : decode cX4_saw 15 = .ok (.iload_n 2, 1) := by decide +kernel
theorem dX4_saw_16 : decode cX4_saw 16 = .ok (.bipush 24, 2) := by decide +kernel
theorem dX4_saw_18 : decode cX4_saw 18 = .ok (.if_icmp .ge 10, 3) := by decide +kernel
theorem dX4_saw_21 : decode cX4_saw 21 = .ok (.iload_n 3, 1) := by decide +kernel
theorem dX4_saw_22 : decode cX4_saw 22 = .ok (.invokestatic 117, 3) := by decide +kernel
theorem dX4_saw_25 : decode cX4_saw 25 = .ok (.ifCond .ne 5, 3) := by decide +kernel
theorem dX4_saw_28 : decode cX4_saw 28 = .ok (.iconst (-1), 1) := by decide +kernel
theorem dX4_saw_29 : decode cX4_saw 29 = .ok (.ireturn, 1) := by decide +kernel
theorem dX4_saw_30 : decode cX4_saw 30 = .ok (.aload_n 0, 1) := by decide +kernel
theorem dX4_saw_31 : decode cX4_saw 31 = .ok (.getfield 36, 3) := by decide +kernel
theorem dX4_saw_34 : decode cX4_saw 34 = .ok (.getfield 168, 3) := by decide +kernel
theorem dX4_saw_37 : decode cX4_saw 37 = .ok (.bipush 8, 2) := by decide +kernel
theorem dX4_saw_39 : decode cX4_saw 39 = .ok (.if_icmp .lt 6, 3) := by decide +kernel
theorem dX4_saw_42 : decode cX4_saw 42 = .ok (.bipush (-3), 2) := by decide +kernel
theorem dX4_saw_44 : decode cX4_saw 44 = .ok (.ireturn, 1) := by decide +kernel
theorem dX4_saw_45 : decode cX4_saw 45 = .ok (.aload_n 0, 1) := by decide +kernel
theorem dX4_saw_46 : decode cX4_saw 46 = .ok (.getfield 36, 3) := by decide +kernel
theorem dX4_saw_49 : decode cX4_saw 49 = .ok (.iload_n 1, 1) := by decide +kernel
theorem dX4_saw_50 : decode cX4_saw 50 = .ok (.iload_n 2, 1) := by decide +kernel
theorem dX4_saw_51 : decode cX4_saw 51 = .ok (.iload_n 3, 1) := by decide +kernel
theorem dX4_saw_52 : decode cX4_saw 52 = .ok (.invokevirtual 171, 3) := by decide +kernel
theorem dX4_saw_55 : decode cX4_saw 55 = .ok (.aload_n 0, 1) := by decide +kernel
theorem dX4_saw_56 : decode cX4_saw 56 = .ok (.getfield 36, 3) := by decide +kernel
theorem dX4_saw_59 : decode cX4_saw 59 = .ok (.getfield 168, 3) := by decide +kernel
theorem dX4_saw_62 : decode cX4_saw 62 = .ok (.ireturn, 1) := by decide +kernel
theorem dX4_forget_0 : decode cX4_forget 0 = .ok (.aload_n 0, 1) := by decide +kernel
theorem dX4_forget_1 : decode cX4_forget 1 = .ok (.getfield 36, 3) := by decide +kernel
theorem dX4_forget_4 : decode cX4_forget 4 = .ok (.getfield 168, 3) := by decide +kernel
theorem dX4_forget_7 : decode cX4_forget 7 = .ok (.istore_n 1, 1) := by decide +kernel
theorem dX4_forget_8 : decode cX4_forget 8 = .ok (.aload_n 0, 1) := by decide +kernel
theorem dX4_forget_9 : decode cX4_forget 9 = .ok (.getfield 36, 3) := by decide +kernel
theorem dX4_forget_12 : decode cX4_forget 12 = .ok (.iconst 0, 1) := by decide +kernel
theorem dX4_forget_13 : decode cX4_forget 13 = .ok (.putfield 168, 3) := by decide +kernel
theorem dX4_forget_16 : decode cX4_forget 16 = .ok (.iload_n 1, 1) := by decide +kernel
theorem dX4_forget_17 : decode cX4_forget 17 = .ok (.ireturn, 1) := by decide +kernel
set_option maxRecDepth 20000 in
theorem ggX4_so_X1_clockAt : GoodIn wsX4_so wsX1_clockAt := goodIn_r _ [11, 12, 13, 14, 10, 15, 16, 17, 18, 19, 20, 21, 22, 23, 24, 25, 26, 27, 28, 29, 30, 31, 32, 33, 34, 35, 36, 37, 38, 39, 40, 41, 42, 43, 44, 45, 46, 47, 48, 49, 50, 51, 52, 53, 54, 55, 56, 57, 58, 59, 60, 61, 62, 63, 64, 65, 80, 81, 82, 83, 84, 85, 86, 87, 88, 89, 90, 91, 92, 93] (by decide +kernel) (by decide +kernel)
set_option maxRecDepth 20000 in
theorem gX4_so_X1_clockAt : GoodIn wsX4_so (wsV RX4 135 RX1 yX1_clockAt wsX1_clockAt) := goodIn_app (goodIn_of _ (by decide +kernel)) ggX4_so_X1_clockAt
theorem dX4_so_0 : decode cX4_so 0 = .ok (.iconst 0, 1) := by decide +kernel
theorem dX4_so_1 : decode cX4_so 1 = .ok (.istore_n 1, 1) := by decide +kernel
theorem dX4_so_2 : decode cX4_so 2 = .ok (.iconst 0, 1) := by decide +kernel
theorem dX4_so_3 : decode cX4_so 3 = .ok (.istore_n 2, 1) := by decide +kernel
theorem dX4_so_4 : decode cX4_so 4 = .ok (.iload_n 2, 1) := by decide +kernel
theorem dX4_so_5 : decode cX4_so 5 = .ok (.aload_n 0, 1) := by decide +kernel
theorem dX4_so_6 : decode cX4_so 6 = .ok (.getfield 36, 3) := by decide +kernel
theorem dX4_so_9 : decode cX4_so 9 = .ok (.getfield 168, 3) := by decide +kernel
theorem dX4_so_12 : decode cX4_so 12 = .ok (.if_icmp .ge 52, 3) := by decide +kernel
theorem dX4_so_15 : decode cX4_so 15 = .ok (.aload_n 0, 1) := by decide +kernel
theorem dX4_so_16 : decode cX4_so 16 = .ok (.getfield 19, 3) := by decide +kernel
theorem dX4_so_19 : decode cX4_so 19 = .ok (.aload_n 0, 1) := by decide +kernel
theorem dX4_so_20 : decode cX4_so 20 = .ok (.getfield 36, 3) := by decide +kernel
theorem dX4_so_23 : decode cX4_so 23 = .ok (.getfield 175, 3) := by decide +kernel
theorem dX4_so_26 : decode cX4_so 26 = .ok (.iload_n 2, 1) := by decide +kernel
theorem dX4_so_27 : decode cX4_so 27 = .ok (.iaload, 1) := by decide +kernel
theorem dX4_so_28 : decode cX4_so 28 = .ok (.aload_n 0, 1) := by decide +kernel
theorem dX4_so_29 : decode cX4_so 29 = .ok (.getfield 36, 3) := by decide +kernel
theorem dX4_so_32 : decode cX4_so 32 = .ok (.getfield 178, 3) := by decide +kernel
theorem dX4_so_35 : decode cX4_so 35 = .ok (.iload_n 2, 1) := by decide +kernel
theorem dX4_so_36 : decode cX4_so 36 = .ok (.iaload, 1) := by decide +kernel
theorem dX4_so_37 : decode cX4_so 37 = .ok (.invokevirtual 135, 3) := by decide +kernel
theorem dX4_so_40 : decode cX4_so 40 = .ok (.aload_n 0, 1) := by decide +kernel
theorem dX4_so_41 : decode cX4_so 41 = .ok (.getfield 36, 3) := by decide +kernel
theorem dX4_so_44 : decode cX4_so 44 = .ok (.getfield 181, 3) := by decide +kernel
theorem dX4_so_47 : decode cX4_so 47 = .ok (.iload_n 2, 1) := by decide +kernel
theorem dX4_so_48 : decode cX4_so 48 = .ok (.iaload, 1) := by decide +kernel
theorem dX4_so_49 : decode cX4_so 49 = .ok (.if_icmp .ne 9, 3) := by decide +kernel
theorem dX4_so_52 : decode cX4_so 52 = .ok (.iload_n 1, 1) := by decide +kernel
theorem dX4_so_53 : decode cX4_so 53 = .ok (.iconst 1, 1) := by decide +kernel
theorem dX4_so_54 : decode cX4_so 54 = .ok (.iload_n 2, 1) := by decide +kernel
theorem dX4_so_55 : decode cX4_so 55 = .ok (.ishl, 1) := by decide +kernel
theorem dX4_so_56 : decode cX4_so 56 = .ok (.ior, 1) := by decide +kernel
theorem dX4_so_57 : decode cX4_so 57 = .ok (.istore_n 1, 1) := by decide +kernel
theorem dX4_so_58 : decode cX4_so 58 = .ok (.iinc 2 1, 3) := by decide +kernel
theorem dX4_so_61 : decode cX4_so 61 = .ok (.goto (-57), 3) := by decide +kernel
theorem dX4_so_64 : decode cX4_so 64 = .ok (.iload_n 1, 1) := by decide +kernel
theorem dX4_so_65 : decode cX4_so 65 = .ok (.ireturn, 1) := by decide +kernel
set_option maxRecDepth 20000 in
theorem ggX4_stood_X4_isHour : GoodIn wsX4_stood wsX4_isHour := goodIn_r _ [4] (by decide +kernel) (by decide +kernel)
set_option maxRecDepth 20000 in
theorem gX4_stood_X4_isHour : GoodIn wsX4_stood (va_wsS RX4 117 yX4_isHour wsX4_isHour) := goodIn_app (goodIn_of _ (by decide +kernel)) ggX4_stood_X4_isHour
set_option maxRecDepth 20000 in
theorem ggX4_stood_X4_fittingPlaces : GoodIn wsX4_stood wsX4_fittingPlaces := goodIn_r _ [8, 9, 10, 11, 12, 13, 14, 3, 15, 16, 17, 18, 19, 20, 21, 22, 23, 24, 25, 26, 27, 28, 29, 30, 31, 32, 33, 34, 35, 36, 37, 38, 39, 40, 41, 42, 43, 44, 45, 46, 47, 48, 49, 50, 55, 56, 57, 58, 59, 60, 61, 62, 63, 64, 65, 66, 67, 68, 69, 70, 71, 72, 73, 74, 75, 76, 77, 78, 79, 80, 81, 82] (by decide +kernel) (by decide +kernel)
set_option maxRecDepth 20000 in
theorem gX4_stood_X4_fittingPlaces : GoodIn wsX4_stood (wsV RX4 184 RX4 yX4_fittingPlaces wsX4_fittingPlaces) := goodIn_app (goodIn_of _ (by decide +kernel)) ggX4_stood_X4_fittingPlaces
set_option maxRecDepth 20000 in
theorem ggX4_stood_X4_firstFitting : GoodIn wsX4_stood wsX4_firstFitting := goodIn_r _ [54, 9, 10, 11, 12, 13, 14, 3, 15, 16, 17, 18, 19, 20, 21, 22, 23, 24, 25, 26, 27, 28, 29, 30, 31, 32, 33, 34, 35, 36, 37, 38, 39, 40, 41, 42, 43, 44, 45, 46, 47, 48, 49, 50, 55, 56, 57, 58, 59, 60, 61, 62, 63, 64, 65, 66, 67, 68, 69, 70, 71, 72, 73, 74, 75, 76, 77, 78, 79, 80, 81, 82] (by decide +kernel) (by decide +kernel)
set_option maxRecDepth 20000 in
theorem gX4_stood_X4_firstFitting : GoodIn wsX4_stood (wsV RX4 187 RX4 yX4_firstFitting wsX4_firstFitting) := goodIn_app (goodIn_of _ (by decide +kernel)) ggX4_stood_X4_firstFitting
theorem dX4_stood_0 : decode cX4_stood 0 = .ok (.iload_n 1, 1) := by decide +kernel
theorem dX4_stood_1 : decode cX4_stood 1 = .ok (.invokestatic 117, 3) := by decide +kernel
theorem dX4_stood_4 : decode cX4_stood 4 = .ok (.ifCond .ne 5, 3) := by decide +kernel
theorem dX4_stood_7 : decode cX4_stood 7 = .ok (.iconst (-1), 1) := by decide +kernel
theorem dX4_stood_8 : decode cX4_stood 8 = .ok (.ireturn, 1) := by decide +kernel
theorem dX4_stood_9 : decode cX4_stood 9 = .ok (.iload_n 2, 1) := by decide +kernel
theorem dX4_stood_10 : decode cX4_stood 10 = .ok (.lookupswitch 38 #[(0, 26), (1, 32)], 26) := by decide +kernel
theorem dX4_stood_36 : decode cX4_stood 36 = .ok (.aload_n 0, 1) := by decide +kernel
theorem dX4_stood_37 : decode cX4_stood 37 = .ok (.iload_n 1, 1) := by decide +kernel
theorem dX4_stood_38 : decode cX4_stood 38 = .ok (.invokevirtual 184, 3) := by decide +kernel
theorem dX4_stood_41 : decode cX4_stood 41 = .ok (.ireturn, 1) := by decide +kernel
theorem dX4_stood_42 : decode cX4_stood 42 = .ok (.aload_n 0, 1) := by decide +kernel
theorem dX4_stood_43 : decode cX4_stood 43 = .ok (.iload_n 1, 1) := by decide +kernel
theorem dX4_stood_44 : decode cX4_stood 44 = .ok (.invokevirtual 187, 3) := by decide +kernel
theorem dX4_stood_47 : decode cX4_stood 47 = .ok (.ireturn, 1) := by decide +kernel
theorem dX4_stood_48 : decode cX4_stood 48 = .ok (.iconst (-1), 1) := by decide +kernel
theorem dX4_stood_49 : decode cX4_stood 49 = .ok (.ireturn, 1) := by decide +kernel
set_option maxRecDepth 20000 in
theorem ggX4_two_X4_firstFitting : GoodIn wsX4_two wsX4_firstFitting := goodIn_r _ [8, 9, 10, 11, 12, 13, 14, 7, 15, 1, 2, 3, 16, 17, 18, 19, 20, 21, 22, 23, 24, 25, 26, 27, 28, 29, 30, 31, 32, 33, 34, 35, 36, 37, 38, 39, 40, 41, 42, 43, 44, 45, 46, 47, 48, 49, 50, 51, 52, 53, 54, 55, 62, 63, 64, 65, 66, 67, 68, 69, 70, 71, 72, 73, 74, 75, 56, 57, 58, 59, 60, 61] (by decide +kernel) (by decide +kernel)
set_option maxRecDepth 20000 in
theorem gX4_two_X4_firstFitting : GoodIn wsX4_two (wsV RX4 187 RX4 yX4_firstFitting wsX4_firstFitting) := goodIn_app (goodIn_of _ (by decide +kernel)) ggX4_two_X4_firstFitting
theorem dX4_two_0 : decode cX4_two 0 = .ok (.iconst 0, 1) := by decide +kernel
theorem dX4_two_1 : decode cX4_two 1 = .ok (.istore_n 1, 1) := by decide +kernel
theorem dX4_two_2 : decode cX4_two 2 = .ok (.iload_n 1, 1) := by decide +kernel
theorem dX4_two_3 : decode cX4_two 3 = .ok (.aload_n 0, 1) := by decide +kernel
theorem dX4_two_4 : decode cX4_two 4 = .ok (.getfield 36, 3) := by decide +kernel
theorem dX4_two_7 : decode cX4_two 7 = .ok (.getfield 168, 3) := by decide +kernel
theorem dX4_two_10 : decode cX4_two 10 = .ok (.if_icmp .ge 29, 3) := by decide +kernel
theorem dX4_two_13 : decode cX4_two 13 = .ok (.aload_n 0, 1) := by decide +kernel
theorem dX4_two_14 : decode cX4_two 14 = .ok (.aload_n 0, 1) := by decide +kernel
theorem dX4_two_15 : decode cX4_two 15 = .ok (.getfield 36, 3) := by decide +kernel
theorem dX4_two_18 : decode cX4_two 18 = .ok (.getfield 178, 3) := by decide +kernel
theorem dX4_two_21 : decode cX4_two 21 = .ok (.iload_n 1, 1) := by decide +kernel
theorem dX4_two_22 : decode cX4_two 22 = .ok (.iaload, 1) := by decide +kernel
theorem dX4_two_23 : decode cX4_two 23 = .ok (.invokevirtual 187, 3) := by decide +kernel
theorem dX4_two_26 : decode cX4_two 26 = .ok (.bipush (-9), 2) := by decide +kernel
theorem dX4_two_28 : decode cX4_two 28 = .ok (.if_icmp .ne 5, 3) := by decide +kernel
theorem dX4_two_31 : decode cX4_two 31 = .ok (.iconst 1, 1) := by decide +kernel
theorem dX4_two_32 : decode cX4_two 32 = .ok (.ireturn, 1) := by decide +kernel
theorem dX4_two_33 : decode cX4_two 33 = .ok (.iinc 1 1, 3) := by decide +kernel
theorem dX4_two_36 : decode cX4_two 36 = .ok (.goto (-34), 3) := by decide +kernel
theorem dX4_two_39 : decode cX4_two 39 = .ok (.iconst 0, 1) := by decide +kernel
theorem dX4_two_40 : decode cX4_two 40 = .ok (.ireturn, 1) := by decide +kernel
theorem dX4_go_0 : decode cX4_go 0 = .ok (.iload_n 1, 1) := by decide +kernel
theorem dX4_go_1 : decode cX4_go 1 = .ok (.iconst 1, 1) := by decide +kernel
theorem dX4_go_2 : decode cX4_go 2 = .ok (.if_icmp .lt 10, 3) := by decide +kernel
theorem dX4_go_5 : decode cX4_go 5 = .ok (.iload_n 1, 1) := by decide +kernel
theorem dX4_go_6 : decode cX4_go 6 = .ok (.sipush 999, 3) := by decide +kernel
theorem dX4_go_9 : decode cX4_go 9 = .ok (.if_icmp .le 5, 3) := by decide +kernel
theorem dX4_go_12 : decode cX4_go 12 = .ok (.iconst (-1), 1) := by decide +kernel
theorem dX4_go_13 : decode cX4_go 13 = .ok (.ireturn, 1) := by decide +kernel
theorem dX4_go_14 : decode cX4_go 14 = .ok (.aload_n 0, 1) := by decide +kernel
theorem dX4_go_15 : decode cX4_go 15 = .ok (.getfield 36, 3) := by decide +kernel
theorem dX4_go_18 : decode cX4_go 18 = .ok (.getfield 190, 3) := by decide +kernel
theorem dX4_go_21 : decode cX4_go 21 = .ok (.sipush 999, 3) := by decide +kernel
theorem dX4_go_24 : decode cX4_go 24 = .ok (.if_icmp .lt 6, 3) := by decide +kernel
theorem dX4_go_27 : decode cX4_go 27 = .ok (.bipush (-2), 2) := by decide +kernel
theorem dX4_go_29 : decode cX4_go 29 = .ok (.ireturn, 1) := by decide +kernel
theorem dX4_go_30 : decode cX4_go 30 = .ok (.aload_n 0, 1) := by decide +kernel
theorem dX4_go_31 : decode cX4_go 31 = .ok (.getfield 36, 3) := by decide +kernel
theorem dX4_go_34 : decode cX4_go 34 = .ok (.aload_n 0, 1) := by decide +kernel
theorem dX4_go_35 : decode cX4_go 35 = .ok (.getfield 36, 3) := by decide +kernel
theorem dX4_go_38 : decode cX4_go 38 = .ok (.getfield 190, 3) := by decide +kernel
theorem dX4_go_41 : decode cX4_go 41 = .ok (.iload_n 1, 1) := by decide +kernel
theorem dX4_go_42 : decode cX4_go 42 = .ok (.iadd, 1) := by decide +kernel
theorem dX4_go_43 : decode cX4_go 43 = .ok (.sipush 999, 3) := by decide +kernel
theorem dX4_go_46 : decode cX4_go 46 = .ok (.invokestatic 193, 3) := by decide +kernel
theorem dX4_go_49 : decode cX4_go 49 = .ok (.putfield 190, 3) := by decide +kernel
theorem dX4_go_52 : decode cX4_go 52 = .ok (.aload_n 0, 1) := by decide +kernel
theorem dX4_go_53 : decode cX4_go 53 = .ok (.getfield 36, 3) := by decide +kernel
theorem dX4_go_56 : decode cX4_go 56 = .ok (.getfield 190, 3) := by decide +kernel
theorem dX4_go_59 : decode cX4_go 59 = .ok (.ireturn, 1) := by decide +kernel
set_option maxRecDepth 20000 in
theorem ggX4_ill_X4_isHour : GoodIn wsX4_ill wsX4_isHour := goodIn_r _ [9] (by decide +kernel) (by decide +kernel)
set_option maxRecDepth 20000 in
theorem gX4_ill_X4_isHour : GoodIn wsX4_ill (va_wsS RX4 117 yX4_isHour wsX4_isHour) := goodIn_app (goodIn_of _ (by decide +kernel)) ggX4_ill_X4_isHour
theorem dX4_ill_0 : decode cX4_ill 0 = .ok (.iload_n 1, 1) := by decide +kernel
theorem dX4_ill_1 : decode cX4_ill 1 = .ok (.ifCond .lt 16, 3) := by decide +kernel
theorem dX4_ill_4 : decode cX4_ill 4 = .ok (.iload_n 1, 1) := by decide +kernel
theorem dX4_ill_5 : decode cX4_ill 5 = .ok (.bipush 99, 2) := by decide +kernel
theorem dX4_ill_7 : decode cX4_ill 7 = .ok (.if_icmp .gt 10, 3) := by decide +kernel
theorem dX4_ill_10 : decode cX4_ill 10 = .ok (.iload_n 2, 1) := by decide +kernel
theorem dX4_ill_11 : decode cX4_ill 11 = .ok (.invokestatic 117, 3) := by decide +kernel
theorem dX4_ill_14 : decode cX4_ill 14 = .ok (.ifCond .ne 5, 3) := by decide +kernel
theorem dX4_ill_17 : decode cX4_ill 17 = .ok (.iconst (-1), 1) := by decide +kernel
theorem dX4_ill_18 : decode cX4_ill 18 = .ok (.ireturn, 1) := by decide +kernel
theorem dX4_ill_19 : decode cX4_ill 19 = .ok (.iconst 0, 1) := by decide +kernel
theorem dX4_ill_20 : decode cX4_ill 20 = .ok (.istore_n 3, 1) := by decide +kernel
theorem dX4_ill_21 : decode cX4_ill 21 = .ok (.iconst 0, 1) := by decide +kernel
theorem dX4_ill_22 : decode cX4_ill 22 = .ok (.istore 4, 2) := by decide +kernel
theorem dX4_ill_24 : decode cX4_ill 24 = .ok (.iload 4, 2) := by decide +kernel
theorem dX4_ill_26 : decode cX4_ill 26 = .ok (.aload_n 0, 1) := by decide +kernel
theorem dX4_ill_27 : decode cX4_ill 27 = .ok (.getfield 19, 3) := by decide +kernel
theorem dX4_ill_30 : decode cX4_ill 30 = .ok (.getfield 196, 3) := by decide +kernel
theorem dX4_ill_33 : decode cX4_ill 33 = .ok (.if_icmp .ge 56, 3) := by decide +kernel
theorem dX4_ill_36 : decode cX4_ill 36 = .ok (.aload_n 0, 1) := by decide +kernel
theorem dX4_ill_37 : decode cX4_ill 37 = .ok (.getfield 19, 3) := by decide +kernel
theorem dX4_ill_40 : decode cX4_ill 40 = .ok (.getfield 107, 3) := by decide +kernel
theorem dX4_ill_43 : decode cX4_ill 43 = .ok (.iload 4, 2) := by decide +kernel
theorem dX4_ill_45 : decode cX4_ill 45 = .ok (.iaload, 1) := by decide +kernel
theorem dX4_ill_46 : decode cX4_ill 46 = .ok (.aload_n 0, 1) := by decide +kernel
theorem dX4_ill_47 : decode cX4_ill 47 = .ok (.getfield 36, 3) := by decide +kernel
theorem dX4_ill_50 : decode cX4_ill 50 = .ok (.getfield 190, 3) := by decide +kernel
theorem dX4_ill_53 : decode cX4_ill 53 = .ok (.if_icmp .le 7, 3) := by decide +kernel
theorem dX4_ill_56 : decode cX4_ill 56 = .ok (.iload_n 1, 1) := by decide +kernel
theorem dX4_ill_57 : decode cX4_ill 57 = .ok (.goto 4, 3) := by decide +kernel
theorem dX4_ill_60 : decode cX4_ill 60 = .ok (.iconst 0, 1) := by decide +kernel
theorem dX4_ill_61 : decode cX4_ill 61 = .ok (.istore 5, 2) := by decide +kernel
theorem dX4_ill_63 : decode cX4_ill 63 = .ok (.aload_n 0, 1) := by decide +kernel
theorem dX4_ill_64 : decode cX4_ill 64 = .ok (.getfield 19, 3) := by decide +kernel
theorem dX4_ill_67 : decode cX4_ill 67 = .ok (.getfield 107, 3) := by decide +kernel
theorem dX4_ill_70 : decode cX4_ill 70 = .ok (.iload 4, 2) := by decide +kernel
theorem dX4_ill_72 : decode cX4_ill 72 = .ok (.iaload, 1) := by decide +kernel
theorem dX4_ill_73 : decode cX4_ill 73 = .ok (.iload 5, 2) := by decide +kernel
theorem dX4_ill_75 : decode cX4_ill 75 = .ok (.iadd, 1) := by decide +kernel
theorem dX4_ill_76 : decode cX4_ill 76 = .ok (.iload_n 2, 1) := by decide +kernel
theorem dX4_ill_77 : decode cX4_ill 77 = .ok (.if_icmp .gt 6, 3) := by decide +kernel
theorem dX4_ill_80 : decode cX4_ill 80 = .ok (.iinc 3 1, 3) := by decide +kernel
theorem dX4_ill_83 : decode cX4_ill 83 = .ok (.iinc 4 1, 3) := by decide +kernel
theorem dX4_ill_86 : decode cX4_ill 86 = .ok (.goto (-62), 3) := by decide +kernel
theorem dX4_ill_89 : decode cX4_ill 89 = .ok (.iload_n 3, 1) := by decide +kernel
theorem dX4_ill_90 : decode cX4_ill 90 = .ok (.ireturn, 1) := by decide +kernel
set_option maxRecDepth 20000 in
theorem ggX4_rate_X1_isTown : GoodIn wsX4_rate wsX1_isTown := goodIn_r _ [7, 8, 112, 113, 114, 115, 116, 117, 118, 119, 120, 121, 122, 123, 124, 125] (by decide +kernel) (by decide +kernel)
set_option maxRecDepth 20000 in
theorem gX4_rate_X1_isTown : GoodIn wsX4_rate (wsV RX4 71 RX1 yX1_isTown wsX1_isTown) := goodIn_app (goodIn_of _ (by decide +kernel)) ggX4_rate_X1_isTown
set_option maxRecDepth 20000 in
theorem ggX4_rate_X4_townRate : GoodIn wsX4_rate wsX4_townRate := goodIn_r _ [13, 14, 1, 15, 16, 17, 6, 18, 19, 20, 4, 5, 7, 8, 104, 105, 106, 107, 108, 109, 110, 111, 112, 113, 114, 115, 116, 117, 118, 119, 120, 121, 122, 123, 124, 125] (by decide +kernel) (by decide +kernel)
set_option maxRecDepth 20000 in
theorem gX4_rate_X4_townRate : GoodIn wsX4_rate (wsV RX4 199 RX4 yX4_townRate wsX4_townRate) := goodIn_app (goodIn_of _ (by decide +kernel)) ggX4_rate_X4_townRate
set_option maxRecDepth 20000 in
theorem ggX4_rate_X4_marketRate : GoodIn wsX4_rate wsX4_marketRate := goodIn_r _ [24, 14, 25, 1, 9, 10, 11, 12, 13, 15, 16, 17, 6, 18, 19, 20, 4, 5, 7, 8, 26, 27, 28, 29, 30, 31, 32, 104, 105, 106, 107, 108, 109, 110, 111, 112, 113, 114, 115, 116, 117, 118, 119, 120, 121, 122, 123, 124, 125] (by decide +kernel) (by decide +kernel)
set_option maxRecDepth 20000 in
theorem gX4_rate_X4_marketRate : GoodIn wsX4_rate (wsV RX4 202 RX4 yX4_marketRate wsX4_marketRate) := goodIn_app (goodIn_of _ (by decide +kernel)) ggX4_rate_X4_marketRate
set_option maxRecDepth 20000 in
theorem ggX4_rate_X4_innRate : GoodIn wsX4_rate wsX4_innRate := goodIn_r _ [36, 14, 37, 1, 38, 39, 40, 41, 42, 6, 43, 44, 45, 46, 47, 48, 49, 50, 51, 52, 53, 31, 54, 55, 56, 57, 58, 59, 60, 61, 62, 63, 64, 65, 66, 67, 68, 69, 70, 71, 72, 73, 30, 74, 75, 76, 77, 32, 78, 79, 80, 81, 82, 83, 84, 85, 86, 20, 4, 5, 7, 8, 87, 12, 88, 9, 10, 11, 13, 15, 16, 17, 18, 19, 104, 105, 106, 107, 108, 109, 110, 111, 126, 127, 128, 129, 130, 131, 112, 113, 114, 115, 116, 117, 118, 119, 120, 121, 122, 123, 124, 125] (by decide +kernel) (by decide +kernel)
set_option maxRecDepth 20000 in
theorem gX4_rate_X4_innRate : GoodIn wsX4_rate (wsV RX4 205 RX4 yX4_innRate wsX4_innRate) := goodIn_app (goodIn_of _ (by decide +kernel)) ggX4_rate_X4_innRate
set_option maxRecDepth 20000 in
theorem ggX4_rate_X4_fairRate : GoodIn wsX4_rate wsX4_fairRate := goodIn_r _ [92, 14, 93, 21, 22, 23, 12, 24, 25, 1, 9, 10, 11, 13, 15, 16, 17, 6, 18, 19, 20, 4, 5, 7, 8, 26, 27, 28, 29, 30, 31, 32, 104, 105, 106, 107, 108, 109, 110, 111, 112, 113, 114, 115, 116, 117, 118, 119, 120, 121, 122, 123, 124, 125] (by decide +kernel) (by decide +kernel)
set_option maxRecDepth 20000 in
theorem gX4_rate_X4_fairRate : GoodIn wsX4_rate (wsV RX4 208 RX4 yX4_fairRate wsX4_fairRate) := goodIn_app (goodIn_of _ (by decide +kernel)) ggX4_rate_X4_fairRate
set_option maxRecDepth 20000 in
theorem ggX4_rate_X4_ferryRate : GoodIn wsX4_rate wsX4_ferryRate := goodIn_r _ [97, 14, 98, 33, 34, 35, 12, 36, 37, 1, 38, 39, 40, 41, 42, 6, 43, 44, 45, 46, 47, 48, 49, 50, 51, 52, 53, 31, 54, 55, 56, 57, 58, 59, 60, 61, 62, 63, 64, 65, 66, 67, 68, 69, 70, 71, 72, 73, 30, 74, 75, 76, 77, 32, 78, 79, 80, 81, 82, 83, 84, 85, 86, 20, 4, 5, 7, 8, 87, 88, 9, 10, 11, 13, 15, 16, 17, 18, 19, 104, 105, 106, 107, 108, 109, 110, 111, 126, 127, 128, 129, 130, 131, 112, 113, 114, 115, 116, 117, 118, 119, 120, 121, 122, 123, 124, 125] (by decide +kernel) (by decide +kernel)
set_option maxRecDepth 20000 in
theorem gX4_rate_X4_ferryRate : GoodIn wsX4_rate (wsV RX4 211 RX4 yX4_ferryRate wsX4_ferryRate) := goodIn_app (goodIn_of _ (by decide +kernel)) ggX4_rate_X4_ferryRate
set_option maxRecDepth 20000 in
theorem ggX4_rate_X4_millRate : GoodIn wsX4_rate wsX4_millRate := goodIn_r _ [102, 14, 103, 38, 39, 9, 10, 11, 12, 13, 1, 15, 16, 17, 6, 18, 19, 20, 4, 5, 7, 8, 104, 105, 106, 107, 108, 109, 110, 111, 126, 127, 128, 129, 130, 131, 112, 113, 114, 115, 116, 117, 118, 119, 120, 121, 122, 123, 124, 125] (by decide +kernel) (by decide +kernel)
set_option maxRecDepth 20000 in
theorem gX4_rate_X4_millRate : GoodIn wsX4_rate (wsV RX4 214 RX4 yX4_millRate wsX4_millRate) := goodIn_app (goodIn_of _ (by decide +kernel)) ggX4_rate_X4_millRate
theorem dX4_rate_0 : decode cX4_rate 0 = .ok (.aload_n 0, 1) := by decide +kernel
theorem dX4_rate_1 : decode cX4_rate 1 = .ok (.getfield 19, 3) := by decide +kernel
theorem dX4_rate_4 : decode cX4_rate 4 = .ok (.iload_n 2, 1) := by decide +kernel
theorem dX4_rate_5 : decode cX4_rate 5 = .ok (.invokevirtual 71, 3) := by decide +kernel
theorem dX4_rate_8 : decode cX4_rate 8 = .ok (.ifCond .ne 6, 3) := by decide +kernel
theorem dX4_rate_11 : decode cX4_rate 11 = .ok (.ldc 138, 2) := by decide +kernel
theorem dX4_rate_13 : decode cX4_rate 13 = .ok (.ireturn, 1) := by decide +kernel
theorem dX4_rate_14 : decode cX4_rate 14 = .ok (.iload_n 1, 1) := by decide +kernel
theorem dX4_rate_15 : decode cX4_rate 15 = .ok (.tableswitch 73 0 5 #[37, 43, 49, 55, 61, 67], 37) := by decide +kernel
theorem dX4_rate_52 : decode cX4_rate 52 = .ok (.aload_n 0, 1) := by decide +kernel
theorem dX4_rate_53 : decode cX4_rate 53 = .ok (.iload_n 2, 1) := by decide +kernel
theorem dX4_rate_54 : decode cX4_rate 54 = .ok (.invokevirtual 199, 3) := by decide +kernel
theorem dX4_rate_57 : decode cX4_rate 57 = .ok (.ireturn, 1) := by decide +kernel
theorem dX4_rate_58 : decode cX4_rate 58 = .ok (.aload_n 0, 1) := by decide +kernel
theorem dX4_rate_59 : decode cX4_rate 59 = .ok (.iload_n 2, 1) := by decide +kernel
theorem dX4_rate_60 : decode cX4_rate 60 = .ok (.invokevirtual 202, 3) := by decide +kernel
theorem dX4_rate_63 : decode cX4_rate 63 = .ok (.ireturn, 1) := by decide +kernel
theorem dX4_rate_64 : decode cX4_rate 64 = .ok (.aload_n 0, 1) := by decide +kernel
theorem dX4_rate_65 : decode cX4_rate 65 = .ok (.iload_n 2, 1) := by decide +kernel
theorem dX4_rate_66 : decode cX4_rate 66 = .ok (.invokevirtual 205, 3) := by decide +kernel
theorem dX4_rate_69 : decode cX4_rate 69 = .ok (.ireturn, 1) := by decide +kernel
theorem dX4_rate_70 : decode cX4_rate 70 = .ok (.aload_n 0, 1) := by decide +kernel
theorem dX4_rate_71 : decode cX4_rate 71 = .ok (.iload_n 2, 1) := by decide +kernel
theorem dX4_rate_72 : decode cX4_rate 72 = .ok (.invokevirtual 208, 3) := by decide +kernel
theorem dX4_rate_75 : decode cX4_rate 75 = .ok (.ireturn, 1) := by decide +kernel
theorem dX4_rate_76 : decode cX4_rate 76 = .ok (.aload_n 0, 1) := by decide +kernel
theorem dX4_rate_77 : decode cX4_rate 77 = .ok (.iload_n 2, 1) := by decide +kernel
theorem dX4_rate_78 : decode cX4_rate 78 = .ok (.invokevirtual 211, 3) := by decide +kernel
theorem dX4_rate_81 : decode cX4_rate 81 = .ok (.ireturn, 1) := by decide +kernel
theorem dX4_rate_82 : decode cX4_rate 82 = .ok (.aload_n 0, 1) := by decide +kernel
theorem dX4_rate_83 : decode cX4_rate 83 = .ok (.iload_n 2, 1) := by decide +kernel
theorem dX4_rate_84 : decode cX4_rate 84 = .ok (.invokevirtual 214, 3) := by decide +kernel
theorem dX4_rate_87 : decode cX4_rate 87 = .ok (.ireturn, 1) := by decide +kernel
theorem dX4_rate_88 : decode cX4_rate 88 = .ok (.ldc 138, 2) := by decide +kernel
theorem dX4_rate_90 : decode cX4_rate 90 = .ok (.ireturn, 1) := by decide +kernel
set_option maxRecDepth 20000 in
theorem ggX4_keep_X4_isImage : GoodIn wsX4_keep wsX4_isImage := goodIn_r _ [7] (by decide +kernel) (by decide +kernel)
set_option maxRecDepth 20000 in
theorem gX4_keep_X4_isImage : GoodIn wsX4_keep (va_wsS RX4 217 yX4_isImage wsX4_isImage) := goodIn_app (goodIn_of _ (by decide +kernel)) ggX4_keep_X4_isImage
set_option maxRecDepth 20000 in
theorem ggX4_keep_X4_imageOf : GoodIn wsX4_keep wsX4_imageOf := goodIn_r _ [11, 12, 13, 28, 29, 30, 31, 32, 33, 34, 35] (by decide +kernel) (by decide +kernel)
set_option maxRecDepth 20000 in
theorem gX4_keep_X4_imageOf : GoodIn wsX4_keep (wsV RX4 220 RX4 yX4_imageOf wsX4_imageOf) := goodIn_app (goodIn_of _ (by decide +kernel)) ggX4_keep_X4_imageOf
set_option maxRecDepth 20000 in
theorem ggX4_keep_X2_copy : GoodIn wsX4_keep wsX2_copy := goodIn_r _ [18, 19, 20, 21, 22, 23, 24, 25, 26, 17, 27, 36, 37, 38, 39, 40, 41] (by decide +kernel) (by decide +kernel)
set_option maxRecDepth 20000 in
theorem gX4_keep_X2_copy : GoodIn wsX4_keep (wsV RX4 224 RX2 yX2_copy wsX2_copy) := goodIn_app (goodIn_of _ (by decide +kernel)) ggX4_keep_X2_copy
theorem dX4_keep_0 : decode cX4_keep 0 = .ok (.iload_n 1, 1) := by decide +kernel
theorem dX4_keep_1 : decode cX4_keep 1 = .ok (.invokestatic 217, 3) := by decide +kernel
theorem dX4_keep_4 : decode cX4_keep 4 = .ok (.ifCond .ne 5, 3) := by decide +kernel
theorem dX4_keep_7 : decode cX4_keep 7 = .ok (.iconst (-1), 1) := by decide +kernel
theorem dX4_keep_8 : decode cX4_keep 8 = .ok (.ireturn, 1) := by decide +kernel
theorem dX4_keep_9 : decode cX4_keep 9 = .ok (.aload_n 0, 1) := by decide +kernel
theorem dX4_keep_10 : decode cX4_keep 10 = .ok (.iload_n 1, 1) := by decide +kernel
theorem dX4_keep_11 : decode cX4_keep 11 = .ok (.invokevirtual 220, 3) := by decide +kernel
theorem dX4_keep_14 : decode cX4_keep 14 = .ok (.astore_n 2, 1) := by decide +kernel
theorem dX4_keep_15 : decode cX4_keep 15 = .ok (.aload_n 2, 1) := by decide +kernel
theorem dX4_keep_16 : decode cX4_keep 16 = .ok (.aload_n 0, 1) := by decide +kernel
theorem dX4_keep_17 : decode cX4_keep 17 = .ok (.getfield 36, 3) := by decide +kernel
theorem dX4_keep_20 : decode cX4_keep 20 = .ok (.invokevirtual 224, 3) := by decide +kernel
theorem dX4_keep_23 : decode cX4_keep 23 = .ok (.aload_n 2, 1) := by decide +kernel
theorem dX4_keep_24 : decode cX4_keep 24 = .ok (.iconst 1, 1) := by decide +kernel
theorem dX4_keep_25 : decode cX4_keep 25 = .ok (.putfield 228, 3) := by decide +kernel
theorem dX4_keep_28 : decode cX4_keep 28 = .ok (.aload_n 0, 1) := by decide +kernel
theorem dX4_keep_29 : decode cX4_keep 29 = .ok (.getfield 36, 3) := by decide +kernel
theorem dX4_keep_32 : decode cX4_keep 32 = .ok (.getfield 190, 3) := by decide +kernel
theorem dX4_keep_35 : decode cX4_keep 35 = .ok (.ireturn, 1) := by decide +kernel
set_option maxRecDepth 20000 in
theorem ggX4_back_X4_isImage : GoodIn wsX4_back wsX4_isImage := goodIn_r _ [7] (by decide +kernel) (by decide +kernel)
set_option maxRecDepth 20000 in
theorem gX4_back_X4_isImage : GoodIn wsX4_back (va_wsS RX4 217 yX4_isImage wsX4_isImage) := goodIn_app (goodIn_of _ (by decide +kernel)) ggX4_back_X4_isImage
set_option maxRecDepth 20000 in
theorem ggX4_back_X4_imageOf : GoodIn wsX4_back wsX4_imageOf := goodIn_r _ [11, 12, 13, 34, 35, 36, 37, 38, 39, 40, 41] (by decide +kernel) (by decide +kernel)
set_option maxRecDepth 20000 in
theorem gX4_back_X4_imageOf : GoodIn wsX4_back (wsV RX4 220 RX4 yX4_imageOf wsX4_imageOf) := goodIn_app (goodIn_of _ (by decide +kernel)) ggX4_back_X4_imageOf
set_option maxRecDepth 20000 in
theorem ggX4_back_X2_copy : GoodIn wsX4_back wsX2_copy := goodIn_r _ [18, 19, 20, 21, 22, 23, 24, 25, 26, 17, 27, 28, 29, 30, 31, 32, 33] (by decide +kernel) (by decide +kernel)
set_option maxRecDepth 20000 in
theorem gX4_back_X2_copy : GoodIn wsX4_back (wsV RX4 224 RX2 yX2_copy wsX2_copy) := goodIn_app (goodIn_of _ (by decide +kernel)) ggX4_back_X2_copy
theorem dX4_back_0 : decode cX4_back 0 = .ok (.iload_n 1, 1) := by decide +kernel
theorem dX4_back_1 : decode cX4_back 1 = .ok (.invokestatic 217, 3) := by decide +kernel
theorem dX4_back_4 : decode cX4_back 4 = .ok (.ifCond .ne 5, 3) := by decide +kernel
theorem dX4_back_7 : decode cX4_back 7 = .ok (.iconst (-1), 1) := by decide +kernel
theorem dX4_back_8 : decode cX4_back 8 = .ok (.ireturn, 1) := by decide +kernel
theorem dX4_back_9 : decode cX4_back 9 = .ok (.aload_n 0, 1) := by decide +kernel
theorem dX4_back_10 : decode cX4_back 10 = .ok (.iload_n 1, 1) := by decide +kernel
theorem dX4_back_11 : decode cX4_back 11 = .ok (.invokevirtual 220, 3) := by decide +kernel
theorem dX4_back_14 : decode cX4_back 14 = .ok (.astore_n 2, 1) := by decide +kernel
theorem dX4_back_15 : decode cX4_back 15 = .ok (.aload_n 2, 1) := by decide +kernel
theorem dX4_back_16 : decode cX4_back 16 = .ok (.getfield 228, 3) := by decide +kernel
theorem dX4_back_19 : decode cX4_back 19 = .ok (.ifCond .ne 6, 3) := by decide +kernel
theorem dX4_back_22 : decode cX4_back 22 = .ok (.bipush (-2), 2) := by decide +kernel
theorem dX4_back_24 : decode cX4_back 24 = .ok (.ireturn, 1) := by decide +kernel
theorem dX4_back_25 : decode cX4_back 25 = .ok (.aload_n 0, 1) := by decide +kernel
theorem dX4_back_26 : decode cX4_back 26 = .ok (.getfield 36, 3) := by decide +kernel
theorem dX4_back_29 : decode cX4_back 29 = .ok (.aload_n 2, 1) := by decide +kernel
theorem dX4_back_30 : decode cX4_back 30 = .ok (.invokevirtual 224, 3) := by decide +kernel
theorem dX4_back_33 : decode cX4_back 33 = .ok (.aload_n 0, 1) := by decide +kernel
theorem dX4_back_34 : decode cX4_back 34 = .ok (.getfield 36, 3) := by decide +kernel
theorem dX4_back_37 : decode cX4_back 37 = .ok (.getfield 190, 3) := by decide +kernel
theorem dX4_back_40 : decode cX4_back 40 = .ok (.ireturn, 1) := by decide +kernel
theorem dX4_count_0 : decode cX4_count 0 = .ok (.iload_n 1, 1) := by decide +kernel
theorem dX4_count_1 : decode cX4_count 1 = .ok (.tableswitch 87 0 5 #[39, 47, 55, 63, 71, 79], 39) := by decide +kernel
theorem dX4_count_40 : decode cX4_count 40 = .ok (.aload_n 0, 1) := by decide +kernel
theorem dX4_count_41 : decode cX4_count 41 = .ok (.getfield 19, 3) := by decide +kernel
theorem dX4_count_44 : decode cX4_count 44 = .ok (.getfield 232, 3) := by decide +kernel
theorem dX4_count_47 : decode cX4_count 47 = .ok (.ireturn, 1) := by decide +kernel
theorem dX4_count_48 : decode cX4_count 48 = .ok (.aload_n 0, 1) := by decide +kernel
theorem dX4_count_49 : decode cX4_count 49 = .ok (.getfield 19, 3) := by decide +kernel
theorem dX4_count_52 : decode cX4_count 52 = .ok (.getfield 234, 3) := by decide +kernel
theorem dX4_count_55 : decode cX4_count 55 = .ok (.ireturn, 1) := by decide +kernel
theorem dX4_count_56 : decode cX4_count 56 = .ok (.aload_n 0, 1) := by decide +kernel
theorem dX4_count_57 : decode cX4_count 57 = .ok (.getfield 19, 3) := by decide +kernel
theorem dX4_count_60 : decode cX4_count 60 = .ok (.getfield 196, 3) := by decide +kernel
theorem dX4_count_63 : decode cX4_count 63 = .ok (.ireturn, 1) := by decide +kernel
theorem dX4_count_64 : decode cX4_count 64 = .ok (.aload_n 0, 1) := by decide +kernel
theorem dX4_count_65 : decode cX4_count 65 = .ok (.getfield 36, 3) := by decide +kernel
theorem dX4_count_68 : decode cX4_count 68 = .ok (.getfield 168, 3) := by decide +kernel
theorem dX4_count_71 : decode cX4_count 71 = .ok (.ireturn, 1) := by decide +kernel
theorem dX4_count_72 : decode cX4_count 72 = .ok (.aload_n 0, 1) := by decide +kernel
theorem dX4_count_73 : decode cX4_count 73 = .ok (.getfield 36, 3) := by decide +kernel
theorem dX4_count_76 : decode cX4_count 76 = .ok (.getfield 190, 3) := by decide +kernel
theorem dX4_count_79 : decode cX4_count 79 = .ok (.ireturn, 1) := by decide +kernel
theorem dX4_count_80 : decode cX4_count 80 = .ok (.aload_n 0, 1) := by decide +kernel
theorem dX4_count_81 : decode cX4_count 81 = .ok (.getfield 12, 3) := by decide +kernel
theorem dX4_count_84 : decode cX4_count 84 = .ok (.getfield 50, 3) := by decide +kernel
theorem dX4_count_87 : decode cX4_count 87 = .ok (.ireturn, 1) := by decide +kernel
theorem dX4_count_88 : decode cX4_count 88 = .ok (.iconst (-1), 1) := by decide +kernel
theorem dX4_count_89 : decode cX4_count 89 = .ok (.ireturn, 1) := by decide +kernel
theorem dX4_trace_0 : decode cX4_trace 0 = .ok (.aload_n 0, 1) := by decide +kernel
theorem dX4_trace_1 : decode cX4_trace 1 = .ok (.getfield 46, 3) := by decide +kernel
theorem dX4_trace_4 : decode cX4_trace 4 = .ok (.lreturn, 1) := by decide +kernel
theorem dX4_isHour_0 : decode cX4_isHour 0 = .ok (.iload_n 0, 1) := by decide +kernel
theorem dX4_isHour_1 : decode cX4_isHour 1 = .ok (.ifCond .lt 14, 3) := by decide +kernel
theorem dX4_isHour_4 : decode cX4_isHour 4 = .ok (.iload_n 0, 1) := by decide +kernel
theorem dX4_isHour_5 : decode cX4_isHour 5 = .ok (.sipush 999, 3) := by decide +kernel
theorem dX4_isHour_8 : decode cX4_isHour 8 = .ok (.if_icmp .gt 7, 3) := by decide +kernel
theorem dX4_isHour_11 : decode cX4_isHour 11 = .ok (.iconst 1, 1) := by decide +kernel
theorem dX4_isHour_12 : decode cX4_isHour 12 = .ok (.goto 4, 3) := by decide +kernel
theorem dX4_isHour_15 : decode cX4_isHour 15 = .ok (.iconst 0, 1) := by decide +kernel
theorem dX4_isHour_16 : decode cX4_isHour 16 = .ok (.ireturn, 1) := by decide +kernel
theorem dX4_isStart_0 : decode cX4_isStart 0 = .ok (.iload_n 0, 1) := by decide +kernel
theorem dX4_isStart_1 : decode cX4_isStart 1 = .ok (.ifCond .lt 14, 3) := by decide +kernel
theorem dX4_isStart_4 : decode cX4_isStart 4 = .ok (.iload_n 0, 1) := by decide +kernel
theorem dX4_isStart_5 : decode cX4_isStart 5 = .ok (.sipush 900, 3) := by decide +kernel
theorem dX4_isStart_8 : decode cX4_isStart 8 = .ok (.if_icmp .gt 7, 3) := by decide +kernel
theorem dX4_isStart_11 : decode cX4_isStart 11 = .ok (.iconst 1, 1) := by decide +kernel
theorem dX4_isStart_12 : decode cX4_isStart 12 = .ok (.goto 4, 3) := by decide +kernel
theorem dX4_isStart_15 : decode cX4_isStart 15 = .ok (.iconst 0, 1) := by decide +kernel
theorem dX4_isStart_16 : decode cX4_isStart 16 = .ok (.ireturn, 1) := by decide +kernel
set_option maxRecDepth 20000 in
theorem ggX4_isSpan_X4_isHour : GoodIn wsX4_isSpan wsX4_isHour := goodIn_r _ [4] (by decide +kernel) (by decide +kernel)
set_option maxRecDepth 20000 in
theorem gX4_isSpan_X4_isHour : GoodIn wsX4_isSpan (va_wsS RX4 117 yX4_isHour wsX4_isHour) := goodIn_app (goodIn_of _ (by decide +kernel)) ggX4_isSpan_X4_isHour
theorem dX4_isSpan_0 : decode cX4_isSpan 0 = .ok (.iload_n 0, 1) := by decide +kernel
theorem dX4_isSpan_1 : decode cX4_isSpan 1 = .ok (.invokestatic 117, 3) := by decide +kernel
theorem dX4_isSpan_4 : decode cX4_isSpan 4 = .ok (.ifCond .eq 19, 3) := by decide +kernel
theorem dX4_isSpan_7 : decode cX4_isSpan 7 = .ok (.iload_n 1, 1) := by decide +kernel
theorem dX4_isSpan_8 : decode cX4_isSpan 8 = .ok (.iload_n 0, 1) := by decide +kernel
theorem dX4_isSpan_9 : decode cX4_isSpan 9 = .ok (.if_icmp .lt 14, 3) := by decide +kernel
theorem dX4_isSpan_12 : decode cX4_isSpan 12 = .ok (.iload_n 1, 1) := by decide +kernel
theorem dX4_isSpan_13 : decode cX4_isSpan 13 = .ok (.sipush 1000, 3) := by decide +kernel
theorem dX4_isSpan_16 : decode cX4_isSpan 16 = .ok (.if_icmp .gt 7, 3) := by decide +kernel
theorem dX4_isSpan_19 : decode cX4_isSpan 19 = .ok (.iconst 1, 1) := by decide +kernel
theorem dX4_isSpan_20 : decode cX4_isSpan 20 = .ok (.goto 4, 3) := by decide +kernel
theorem dX4_isSpan_23 : decode cX4_isSpan 23 = .ok (.iconst 0, 1) := by decide +kernel
theorem dX4_isSpan_24 : decode cX4_isSpan 24 = .ok (.ireturn, 1) := by decide +kernel
theorem dX4_isImage_0 : decode cX4_isImage 0 = .ok (.iload_n 0, 1) := by decide +kernel
theorem dX4_isImage_1 : decode cX4_isImage 1 = .ok (.ifCond .eq 8, 3) := by decide +kernel
theorem dX4_isImage_4 : decode cX4_isImage 4 = .ok (.iload_n 0, 1) := by decide +kernel
theorem dX4_isImage_5 : decode cX4_isImage 5 = .ok (.iconst 1, 1) := by decide +kernel
theorem dX4_isImage_6 : decode cX4_isImage 6 = .ok (.if_icmp .ne 7, 3) := by decide +kernel
theorem dX4_isImage_9 : decode cX4_isImage 9 = .ok (.iconst 1, 1) := by decide +kernel
theorem dX4_isImage_10 : decode cX4_isImage 10 = .ok (.goto 4, 3) := by decide +kernel
theorem dX4_isImage_13 : decode cX4_isImage 13 = .ok (.iconst 0, 1) := by decide +kernel
theorem dX4_isImage_14 : decode cX4_isImage 14 = .ok (.ireturn, 1) := by decide +kernel
theorem dX4_imageOf_0 : decode cX4_imageOf 0 = .ok (.iload_n 1, 1) := by decide +kernel
theorem dX4_imageOf_1 : decode cX4_imageOf 1 = .ok (.ifCond .ne 10, 3) := by decide +kernel
theorem dX4_imageOf_4 : decode cX4_imageOf 4 = .ok (.aload_n 0, 1) := by decide +kernel
theorem dX4_imageOf_5 : decode cX4_imageOf 5 = .ok (.getfield 40, 3) := by decide +kernel
theorem dX4_imageOf_8 : decode cX4_imageOf 8 = .ok (.goto 7, 3) := by decide +kernel
theorem dX4_imageOf_11 : decode cX4_imageOf 11 = .ok (.aload_n 0, 1) := by decide +kernel
theorem dX4_imageOf_12 : decode cX4_imageOf 12 = .ok (.getfield 43, 3) := by decide +kernel
theorem dX4_imageOf_15 : decode cX4_imageOf 15 = .ok (.areturn, 1) := by decide +kernel
set_option maxRecDepth 20000 in
theorem ggX4_fittingPlaces_X4_fits : GoodIn wsX4_fittingPlaces wsX4_fits := goodIn_r _ [8, 9, 10, 11, 1, 12, 13, 14, 15, 16, 17, 18, 19, 20, 21, 22, 23, 24, 25, 26, 27, 28, 29, 30, 31, 32, 33, 34, 35, 36, 37, 38, 39, 40, 41, 42, 7, 43, 44, 45, 46, 47, 48, 49, 50, 51, 66, 67, 68, 69, 70, 71, 52, 53, 54, 55, 56, 57, 58, 59, 60, 61, 62, 63, 64, 65] (by decide +kernel) (by decide +kernel)
set_option maxRecDepth 20000 in
theorem gX4_fittingPlaces_X4_fits : GoodIn wsX4_fittingPlaces (wsV RX4 243 RX4 yX4_fits wsX4_fits) := goodIn_app (goodIn_of _ (by decide +kernel)) ggX4_fittingPlaces_X4_fits
theorem dX4_fittingPlaces_0 : decode cX4_fittingPlaces 0 = .ok (.iconst 0, 1) := by decide +kernel
theorem dX4_fittingPlaces_1 : decode cX4_fittingPlaces 1 = .ok (.istore_n 2, 1) := by decide +kernel
theorem dX4_fittingPlaces_2 : decode cX4_fittingPlaces 2 = .ok (.iconst 0, 1) := by decide +kernel
theorem dX4_fittingPlaces_3 : decode cX4_fittingPlaces 3 = .ok (.istore_n 3, 1) := by decide +kernel
theorem dX4_fittingPlaces_4 : decode cX4_fittingPlaces 4 = .ok (.iload_n 3, 1) := by decide +kernel
theorem dX4_fittingPlaces_5 : decode cX4_fittingPlaces 5 = .ok (.aload_n 0, 1) := by decide +kernel
theorem dX4_fittingPlaces_6 : decode cX4_fittingPlaces 6 = .ok (.getfield 19, 3) := by decide +kernel
theorem dX4_fittingPlaces_9 : decode cX4_fittingPlaces 9 = .ok (.getfield 237, 3) := by decide +kernel
theorem dX4_fittingPlaces_12 : decode cX4_fittingPlaces 12 = .ok (.if_icmp .ge 29, 3) := by decide +kernel
theorem dX4_fittingPlaces_15 : decode cX4_fittingPlaces 15 = .ok (.aload_n 0, 1) := by decide +kernel
theorem dX4_fittingPlaces_16 : decode cX4_fittingPlaces 16 = .ok (.aload_n 0, 1) := by decide +kernel
theorem dX4_fittingPlaces_17 : decode cX4_fittingPlaces 17 = .ok (.getfield 19, 3) := by decide +kernel
theorem dX4_fittingPlaces_20 : decode cX4_fittingPlaces 20 = .ok (.getfield 240, 3) := by decide +kernel
theorem dX4_fittingPlaces_23 : decode cX4_fittingPlaces 23 = .ok (.iload_n 3, 1) := by decide +kernel
theorem dX4_fittingPlaces_24 : decode cX4_fittingPlaces 24 = .ok (.iaload, 1) := by decide +kernel
theorem dX4_fittingPlaces_25 : decode cX4_fittingPlaces 25 = .ok (.iload_n 1, 1) := by decide +kernel
theorem dX4_fittingPlaces_26 : decode cX4_fittingPlaces 26 = .ok (.invokevirtual 243, 3) := by decide +kernel
theorem dX4_fittingPlaces_29 : decode cX4_fittingPlaces 29 = .ok (.ifCond .eq 6, 3) := by decide +kernel
theorem dX4_fittingPlaces_32 : decode cX4_fittingPlaces 32 = .ok (.iinc 2 1, 3) := by decide +kernel
theorem dX4_fittingPlaces_35 : decode cX4_fittingPlaces 35 = .ok (.iinc 3 1, 3) := by decide +kernel
theorem dX4_fittingPlaces_38 : decode cX4_fittingPlaces 38 = .ok (.goto (-34), 3) := by decide +kernel
theorem dX4_fittingPlaces_41 : decode cX4_fittingPlaces 41 = .ok (.iload_n 2, 1) := by decide +kernel
theorem dX4_fittingPlaces_42 : decode cX4_fittingPlaces 42 = .ok (.ireturn, 1) := by decide +kernel
set_option maxRecDepth 20000 in
theorem ggX4_firstFitting_X4_fits : GoodIn wsX4_firstFitting wsX4_fits := goodIn_r _ [8, 9, 10, 11, 1, 12, 13, 14, 15, 16, 17, 18, 19, 20, 21, 22, 23, 24, 25, 26, 27, 28, 29, 30, 31, 32, 33, 34, 35, 36, 37, 38, 39, 40, 41, 42, 7, 43, 44, 45, 46, 47, 48, 49, 50, 51, 66, 67, 68, 69, 70, 71, 52, 53, 54, 55, 56, 57, 58, 59, 60, 61, 62, 63, 64, 65] (by decide +kernel) (by decide +kernel)
set_option maxRecDepth 20000 in
theorem gX4_firstFitting_X4_fits : GoodIn wsX4_firstFitting (wsV RX4 243 RX4 yX4_fits wsX4_fits) := goodIn_app (goodIn_of _ (by decide +kernel)) ggX4_firstFitting_X4_fits
theorem dX4_firstFitting_0 : decode cX4_firstFitting 0 = .ok (.iconst 0, 1) := by decide +kernel
theorem dX4_firstFitting_1 : decode cX4_firstFitting 1 = .ok (.istore_n 2, 1) := by decide +kernel
theorem dX4_firstFitting_2 : decode cX4_firstFitting 2 = .ok (.iload_n 2, 1) := by decide +kernel
theorem dX4_firstFitting_3 : decode cX4_firstFitting 3 = .ok (.aload_n 0, 1) := by decide +kernel
theorem dX4_firstFitting_4 : decode cX4_firstFitting 4 = .ok (.getfield 19, 3) := by decide +kernel
theorem dX4_firstFitting_7 : decode cX4_firstFitting 7 = .ok (.getfield 237, 3) := by decide +kernel
theorem dX4_firstFitting_10 : decode cX4_firstFitting 10 = .ok (.if_icmp .ge 36, 3) := by decide +kernel
theorem dX4_firstFitting_13 : decode cX4_firstFitting 13 = .ok (.aload_n 0, 1) := by decide +kernel
theorem dX4_firstFitting_14 : decode cX4_firstFitting 14 = .ok (.aload_n 0, 1) := by decide +kernel
theorem dX4_firstFitting_15 : decode cX4_firstFitting 15 = .ok (.getfield 19, 3) := by decide +kernel
theorem dX4_firstFitting_18 : decode cX4_firstFitting 18 = .ok (.getfield 240, 3) := by decide +kernel
theorem dX4_firstFitting_21 : decode cX4_firstFitting 21 = .ok (.iload_n 2, 1) := by decide +kernel
theorem dX4_firstFitting_22 : decode cX4_firstFitting 22 = .ok (.iaload, 1) := by decide +kernel
theorem dX4_firstFitting_23 : decode cX4_firstFitting 23 = .ok (.iload_n 1, 1) := by decide +kernel
theorem dX4_firstFitting_24 : decode cX4_firstFitting 24 = .ok (.invokevirtual 243, 3) := by decide +kernel
theorem dX4_firstFitting_27 : decode cX4_firstFitting 27 = .ok (.ifCond .eq 13, 3) := by decide +kernel
theorem dX4_firstFitting_30 : decode cX4_firstFitting 30 = .ok (.aload_n 0, 1) := by decide +kernel
theorem dX4_firstFitting_31 : decode cX4_firstFitting 31 = .ok (.getfield 19, 3) := by decide +kernel
theorem dX4_firstFitting_34 : decode cX4_firstFitting 34 = .ok (.getfield 240, 3) := by decide +kernel
theorem dX4_firstFitting_37 : decode cX4_firstFitting 37 = .ok (.iload_n 2, 1) := by decide +kernel
theorem dX4_firstFitting_38 : decode cX4_firstFitting 38 = .ok (.iaload, 1) := by decide +kernel
theorem dX4_firstFitting_39 : decode cX4_firstFitting 39 = .ok (.ireturn, 1) := by decide +kernel
theorem dX4_firstFitting_40 : decode cX4_firstFitting 40 = .ok (.iinc 2 1, 3) := by decide +kernel
theorem dX4_firstFitting_43 : decode cX4_firstFitting 43 = .ok (.goto (-41), 3) := by decide +kernel
theorem dX4_firstFitting_46 : decode cX4_firstFitting 46 = .ok (.bipush (-9), 2) := by decide +kernel
theorem dX4_firstFitting_48 : decode cX4_firstFitting 48 = .ok (.ireturn, 1) := by decide +kernel
set_option maxRecDepth 20000 in
theorem ggX4_fits_X1_distanceFromPlace : GoodIn wsX4_fits wsX1_distanceFromPlace := goodIn_r _ [11, 12, 13, 14, 15, 16, 17, 18, 19, 20, 21, 10, 22, 23, 24, 25, 26, 27, 28, 29, 30, 31, 32, 33, 52, 53, 54, 55, 56, 57, 58, 59, 60, 61, 62, 63, 64, 65] (by decide +kernel) (by decide +kernel)
set_option maxRecDepth 20000 in
theorem gX4_fits_X1_distanceFromPlace : GoodIn wsX4_fits (wsV RX4 246 RX1 yX1_distanceFromPlace wsX1_distanceFromPlace) := goodIn_app (goodIn_of _ (by decide +kernel)) ggX4_fits_X1_distanceFromPlace
set_option maxRecDepth 20000 in
theorem ggX4_fits_X4_clockFor : GoodIn wsX4_fits wsX4_clockFor := goodIn_r _ [37] (by decide +kernel) (by decide +kernel)
set_option maxRecDepth 20000 in
theorem gX4_fits_X4_clockFor : GoodIn wsX4_fits (va_wsS RX4 249 yX4_clockFor wsX4_clockFor) := goodIn_app (goodIn_of _ (by decide +kernel)) ggX4_fits_X4_clockFor
theorem dX4_fits_0 : decode cX4_fits 0 = .ok (.iconst 0, 1) := by decide +kernel
theorem dX4_fits_1 : decode cX4_fits 1 = .ok (.istore_n 3, 1) := by decide +kernel
theorem dX4_fits_2 : decode cX4_fits 2 = .ok (.iload_n 3, 1) := by decide +kernel
theorem dX4_fits_3 : decode cX4_fits 3 = .ok (.aload_n 0, 1) := by decide +kernel
theorem dX4_fits_4 : decode cX4_fits 4 = .ok (.getfield 36, 3) := by decide +kernel
theorem dX4_fits_7 : decode cX4_fits 7 = .ok (.getfield 168, 3) := by decide +kernel
theorem dX4_fits_10 : decode cX4_fits 10 = .ok (.if_icmp .ge 59, 3) := by decide +kernel
theorem dX4_fits_13 : decode cX4_fits 13 = .ok (.aload_n 0, 1) := by decide +kernel
theorem dX4_fits_14 : decode cX4_fits 14 = .ok (.getfield 36, 3) := by decide +kernel
theorem dX4_fits_17 : decode cX4_fits 17 = .ok (.getfield 178, 3) := by decide +kernel
theorem dX4_fits_20 : decode cX4_fits 20 = .ok (.iload_n 3, 1) := by decide +kernel
theorem dX4_fits_21 : decode cX4_fits 21 = .ok (.iaload, 1) := by decide +kernel
theorem dX4_fits_22 : decode cX4_fits 22 = .ok (.iload_n 2, 1) := by decide +kernel
theorem dX4_fits_23 : decode cX4_fits 23 = .ok (.if_icmp .eq 6, 3) := by decide +kernel
theorem dX4_fits_26 : decode cX4_fits 26 = .ok (.goto 37, 3) := by decide +kernel
theorem dX4_fits_29 : decode cX4_fits 29 = .ok (.aload_n 0, 1) := by decide +kernel
theorem dX4_fits_30 : decode cX4_fits 30 = .ok (.getfield 19, 3) := by decide +kernel
theorem dX4_fits_33 : decode cX4_fits 33 = .ok (.iload_n 1, 1) := by decide +kernel
theorem dX4_fits_34 : decode cX4_fits 34 = .ok (.aload_n 0, 1) := by decide +kernel
theorem dX4_fits_35 : decode cX4_fits 35 = .ok (.getfield 36, 3) := by decide +kernel
theorem dX4_fits_38 : decode cX4_fits 38 = .ok (.getfield 175, 3) := by decide +kernel
theorem dX4_fits_41 : decode cX4_fits 41 = .ok (.iload_n 3, 1) := by decide +kernel
theorem dX4_fits_42 : decode cX4_fits 42 = .ok (.iaload, 1) := by decide +kernel
theorem dX4_fits_43 : decode cX4_fits 43 = .ok (.invokevirtual 246, 3) := by decide +kernel
theorem dX4_fits_46 : decode cX4_fits 46 = .ok (.invokestatic 249, 3) := by decide +kernel
theorem dX4_fits_49 : decode cX4_fits 49 = .ok (.aload_n 0, 1) := by decide +kernel
theorem dX4_fits_50 : decode cX4_fits 50 = .ok (.getfield 36, 3) := by decide +kernel
theorem dX4_fits_53 : decode cX4_fits 53 = .ok (.getfield 181, 3) := by decide +kernel
theorem dX4_fits_56 : decode cX4_fits 56 = .ok (.iload_n 3, 1) := by decide +kernel
theorem dX4_fits_57 : decode cX4_fits 57 = .ok (.iaload, 1) := by decide +kernel
theorem dX4_fits_58 : decode cX4_fits 58 = .ok (.if_icmp .eq 5, 3) := by decide +kernel
theorem dX4_fits_61 : decode cX4_fits 61 = .ok (.iconst 0, 1) := by decide +kernel
theorem dX4_fits_62 : decode cX4_fits 62 = .ok (.ireturn, 1) := by decide +kernel
theorem dX4_fits_63 : decode cX4_fits 63 = .ok (.iinc 3 1, 3) := by decide +kernel
theorem dX4_fits_66 : decode cX4_fits 66 = .ok (.goto (-64), 3) := by decide +kernel
theorem dX4_fits_69 : decode cX4_fits 69 = .ok (.iconst 1, 1) := by decide +kernel
theorem dX4_fits_70 : decode cX4_fits 70 = .ok (.ireturn, 1) := by decide +kernel
theorem dX4_clockFor_0 : decode cX4_clockFor 0 = .ok (.iload_n 0, 1) := by decide +kernel
theorem dX4_clockFor_1 : decode cX4_clockFor 1 = .ok (.bipush (-9), 2) := by decide +kernel
theorem dX4_clockFor_3 : decode cX4_clockFor 3 = .ok (.if_icmp .ne 8, 3) := by decide +kernel
theorem dX4_clockFor_6 : decode cX4_clockFor 6 = .ok (.bipush (-9), 2) := by decide +kernel
theorem dX4_clockFor_8 : decode cX4_clockFor 8 = .ok (.goto 10, 3) := by decide +kernel
theorem dX4_clockFor_11 : decode cX4_clockFor 11 = .ok (.bipush 12, 2) := by decide +kernel
theorem dX4_clockFor_13 : decode cX4_clockFor 13 = .ok (.iload_n 0, 1) := by decide +kernel
theorem dX4_clockFor_14 : decode cX4_clockFor 14 = .ok (.iadd, 1) := by decide +kernel
theorem dX4_clockFor_15 : decode cX4_clockFor 15 = .ok (.bipush 24, 2) := by decide +kernel
theorem dX4_clockFor_17 : decode cX4_clockFor 17 = .ok (.irem, 1) := by decide +kernel
theorem dX4_clockFor_18 : decode cX4_clockFor 18 = .ok (.ireturn, 1) := by decide +kernel
set_option maxRecDepth 20000 in
theorem ggX4_townRate_X1_bidOf : GoodIn wsX4_townRate wsX1_bidOf := goodIn_r _ [7, 8, 9, 10, 11, 6, 12, 13, 22, 23, 24, 25, 26, 27, 28, 29, 30, 31, 32, 33, 34, 35] (by decide +kernel) (by decide +kernel)
set_option maxRecDepth 20000 in
theorem gX4_townRate_X1_bidOf : GoodIn wsX4_townRate (wsV RX4 75 RX1 yX1_bidOf wsX1_bidOf) := goodIn_app (goodIn_of _ (by decide +kernel)) ggX4_townRate_X1_bidOf
theorem dX4_townRate_0 : decode cX4_townRate 0 = .ok (.aload_n 0, 1) := by decide +kernel
theorem dX4_townRate_1 : decode cX4_townRate 1 = .ok (.dup, 1) := by decide +kernel
theorem dX4_townRate_2 : decode cX4_townRate 2 = .ok (.getfield 46, 3) := by decide +kernel
theorem dX4_townRate_5 : decode cX4_townRate 5 = .ok (.lconst 1, 1) := by decide +kernel
theorem dX4_townRate_6 : decode cX4_townRate 6 = .ok (.ladd, 1) := by decide +kernel
theorem dX4_townRate_7 : decode cX4_townRate 7 = .ok (.putfield 46, 3) := by decide +kernel
theorem dX4_townRate_10 : decode cX4_townRate 10 = .ok (.aload_n 0, 1) := by decide +kernel
theorem dX4_townRate_11 : decode cX4_townRate 11 = .ok (.getfield 19, 3) := by decide +kernel
theorem dX4_townRate_14 : decode cX4_townRate 14 = .ok (.iload_n 1, 1) := by decide +kernel
theorem dX4_townRate_15 : decode cX4_townRate 15 = .ok (.invokevirtual 75, 3) := by decide +kernel
theorem dX4_townRate_18 : decode cX4_townRate 18 = .ok (.ireturn, 1) := by decide +kernel
set_option maxRecDepth 20000 in
theorem ggX4_marketRate_X4_townRate : GoodIn wsX4_marketRate wsX4_townRate := goodIn_r _ [8, 1, 3, 9, 10, 11, 12, 13, 14, 15, 16, 17, 18, 19, 27, 28, 29, 30, 31, 32, 33, 34, 35, 36, 37, 38, 39, 40, 41, 42, 43, 44, 45, 46, 47, 48] (by decide +kernel) (by decide +kernel)
set_option maxRecDepth 20000 in
theorem gX4_marketRate_X4_townRate : GoodIn wsX4_marketRate (wsV RX4 199 RX4 yX4_townRate wsX4_townRate) := goodIn_app (goodIn_of _ (by decide +kernel)) ggX4_marketRate_X4_townRate
set_option maxRecDepth 20000 in
theorem ggX4_marketRate_X1_roadsOf : GoodIn wsX4_marketRate wsX1_roadsOf := goodIn_r _ [23, 24, 25, 26, 35, 36, 37, 38, 39, 40, 41, 42, 43, 44, 45, 46, 47, 48] (by decide +kernel) (by decide +kernel)
set_option maxRecDepth 20000 in
theorem gX4_marketRate_X1_roadsOf : GoodIn wsX4_marketRate (wsV RX4 79 RX1 yX1_roadsOf wsX1_roadsOf) := goodIn_app (goodIn_of _ (by decide +kernel)) ggX4_marketRate_X1_roadsOf
theorem dX4_marketRate_0 : decode cX4_marketRate 0 = .ok (.aload_n 0, 1) := by decide +kernel
theorem dX4_marketRate_1 : decode cX4_marketRate 1 = .ok (.dup, 1) := by decide +kernel
theorem dX4_marketRate_2 : decode cX4_marketRate 2 = .ok (.getfield 46, 3) := by decide +kernel
theorem dX4_marketRate_5 : decode cX4_marketRate 5 = .ok (.ldc2_w 252, 3) := by decide +kernel
theorem dX4_marketRate_8 : decode cX4_marketRate 8 = .ok (.ladd, 1) := by decide +kernel
theorem dX4_marketRate_9 : decode cX4_marketRate 9 = .ok (.putfield 46, 3) := by decide +kernel
theorem dX4_marketRate_12 : decode cX4_marketRate 12 = .ok (.aload_n 0, 1) := by decide +kernel
theorem dX4_marketRate_13 : decode cX4_marketRate 13 = .ok (.iload_n 1, 1) := by decide +kernel
theorem dX4_marketRate_14 : decode cX4_marketRate 14 = .ok (.invokevirtual 199, 3) := by decide +kernel
theorem dX4_marketRate_17 : decode cX4_marketRate 17 = .ok (.aload_n 0, 1) := by decide +kernel
theorem dX4_marketRate_18 : decode cX4_marketRate 18 = .ok (.getfield 19, 3) := by decide +kernel
theorem dX4_marketRate_21 : decode cX4_marketRate 21 = .ok (.iload_n 1, 1) := by decide +kernel
theorem dX4_marketRate_22 : decode cX4_marketRate 22 = .ok (.invokevirtual 79, 3) := by decide +kernel
theorem dX4_marketRate_25 : decode cX4_marketRate 25 = .ok (.iadd, 1) := by decide +kernel
theorem dX4_marketRate_26 : decode cX4_marketRate 26 = .ok (.ireturn, 1) := by decide +kernel
set_option maxRecDepth 20000 in
theorem ggX4_innRate_X1_clockAt : GoodIn wsX4_innRate wsX1_clockAt := goodIn_r _ [10, 11, 12, 13, 9, 14, 15, 16, 17, 18, 19, 20, 21, 22, 23, 24, 25, 26, 27, 28, 29, 30, 31, 32, 33, 34, 35, 36, 37, 38, 39, 40, 41, 42, 43, 44, 45, 46, 47, 48, 49, 50, 51, 52, 53, 54, 55, 56, 57, 58, 59, 60, 61, 62, 63, 64, 88, 89, 90, 91, 92, 93, 94, 95, 96, 97, 98, 99, 100, 101] (by decide +kernel) (by decide +kernel)
set_option maxRecDepth 20000 in
theorem gX4_innRate_X1_clockAt : GoodIn wsX4_innRate (wsV RX4 135 RX1 yX1_clockAt wsX1_clockAt) := goodIn_app (goodIn_of _ (by decide +kernel)) ggX4_innRate_X1_clockAt
set_option maxRecDepth 20000 in
theorem ggX4_innRate_X4_townRate : GoodIn wsX4_innRate wsX4_townRate := goodIn_r _ [68, 1, 3, 69, 70, 71, 9, 72, 73, 57, 58, 59, 60, 61, 74, 75, 76, 77, 78, 79, 80, 81, 88, 89, 90, 91, 92, 93, 94, 95, 96, 97, 98, 99, 100, 101] (by decide +kernel) (by decide +kernel)
set_option maxRecDepth 20000 in
theorem gX4_innRate_X4_townRate : GoodIn wsX4_innRate (wsV RX4 199 RX4 yX4_townRate wsX4_townRate) := goodIn_app (goodIn_of _ (by decide +kernel)) ggX4_innRate_X4_townRate
theorem dX4_innRate_0 : decode cX4_innRate 0 = .ok (.aload_n 0, 1) := by decide +kernel
theorem dX4_innRate_1 : decode cX4_innRate 1 = .ok (.dup, 1) := by decide +kernel
theorem dX4_innRate_2 : decode cX4_innRate 2 = .ok (.getfield 46, 3) := by decide +kernel
theorem dX4_innRate_5 : decode cX4_innRate 5 = .ok (.ldc2_w 254, 3) := by decide +kernel
theorem dX4_innRate_8 : decode cX4_innRate 8 = .ok (.ladd, 1) := by decide +kernel
theorem dX4_innRate_9 : decode cX4_innRate 9 = .ok (.putfield 46, 3) := by decide +kernel
theorem dX4_innRate_12 : decode cX4_innRate 12 = .ok (.aload_n 0, 1) := by decide +kernel
theorem dX4_innRate_13 : decode cX4_innRate 13 = .ok (.getfield 19, 3) := by decide +kernel
theorem dX4_innRate_16 : decode cX4_innRate 16 = .ok (.iload_n 1, 1) := by decide +kernel
theorem dX4_innRate_17 : decode cX4_innRate 17 = .ok (.aload_n 0, 1) := by decide +kernel
theorem dX4_innRate_18 : decode cX4_innRate 18 = .ok (.getfield 36, 3) := by decide +kernel
theorem dX4_innRate_21 : decode cX4_innRate 21 = .ok (.getfield 190, 3) := by decide +kernel
theorem dX4_innRate_24 : decode cX4_innRate 24 = .ok (.invokevirtual 135, 3) := by decide +kernel
theorem dX4_innRate_27 : decode cX4_innRate 27 = .ok (.istore_n 2, 1) := by decide +kernel
theorem dX4_innRate_28 : decode cX4_innRate 28 = .ok (.aload_n 0, 1) := by decide +kernel
theorem dX4_innRate_29 : decode cX4_innRate 29 = .ok (.iload_n 1, 1) := by decide +kernel
theorem dX4_innRate_30 : decode cX4_innRate 30 = .ok (.invokevirtual 199, 3) := by decide +kernel
theorem dX4_innRate_33 : decode cX4_innRate 33 = .ok (.iload_n 2, 1) := by decide +kernel
theorem dX4_innRate_34 : decode cX4_innRate 34 = .ok (.bipush (-9), 2) := by decide +kernel
theorem dX4_innRate_36 : decode cX4_innRate 36 = .ok (.if_icmp .ne 7, 3) := by decide +kernel
theorem dX4_innRate_39 : decode cX4_innRate 39 = .ok (.iconst 0, 1) := by decide +kernel
theorem dX4_innRate_40 : decode cX4_innRate 40 = .ok (.goto 4, 3) := by decide +kernel
theorem dX4_innRate_43 : decode cX4_innRate 43 = .ok (.iload_n 2, 1) := by decide +kernel
theorem dX4_innRate_44 : decode cX4_innRate 44 = .ok (.isub, 1) := by decide +kernel
theorem dX4_innRate_45 : decode cX4_innRate 45 = .ok (.ireturn, 1) := by decide +kernel
set_option maxRecDepth 20000 in
theorem ggX4_fairRate_X4_marketRate : GoodIn wsX4_fairRate wsX4_marketRate := goodIn_r _ [7, 1, 8, 9, 10, 11, 12, 6, 13, 14, 15, 16, 17, 18, 19, 20, 21, 22, 23, 24, 25, 26, 27, 28, 29, 30, 31, 32, 33, 34, 35, 36, 37, 38, 39, 40, 41, 42, 43, 44, 45, 46, 47, 48, 49, 50, 51, 52, 53] (by decide +kernel) (by decide +kernel)
set_option maxRecDepth 20000 in
theorem gX4_fairRate_X4_marketRate : GoodIn wsX4_fairRate (wsV RX4 202 RX4 yX4_marketRate wsX4_marketRate) := goodIn_app (goodIn_of _ (by decide +kernel)) ggX4_fairRate_X4_marketRate
theorem dX4_fairRate_0 : decode cX4_fairRate 0 = .ok (.aload_n 0, 1) := by decide +kernel
theorem dX4_fairRate_1 : decode cX4_fairRate 1 = .ok (.dup, 1) := by decide +kernel
theorem dX4_fairRate_2 : decode cX4_fairRate 2 = .ok (.getfield 46, 3) := by decide +kernel
theorem dX4_fairRate_5 : decode cX4_fairRate 5 = .ok (.ldc2_w 256, 3) := by decide +kernel
theorem dX4_fairRate_8 : decode cX4_fairRate 8 = .ok (.ladd, 1) := by decide +kernel
theorem dX4_fairRate_9 : decode cX4_fairRate 9 = .ok (.putfield 46, 3) := by decide +kernel
theorem dX4_fairRate_12 : decode cX4_fairRate 12 = .ok (.iconst 2, 1) := by decide +kernel
theorem dX4_fairRate_13 : decode cX4_fairRate 13 = .ok (.aload_n 0, 1) := by decide +kernel
theorem dX4_fairRate_14 : decode cX4_fairRate 14 = .ok (.iload_n 1, 1) := by decide +kernel
theorem dX4_fairRate_15 : decode cX4_fairRate 15 = .ok (.invokevirtual 202, 3) := by decide +kernel
theorem dX4_fairRate_18 : decode cX4_fairRate 18 = .ok (.imul, 1) := by decide +kernel
theorem dX4_fairRate_19 : decode cX4_fairRate 19 = .ok (.ireturn, 1) := by decide +kernel
set_option maxRecDepth 20000 in
theorem ggX4_ferryRate_X4_innRate : GoodIn wsX4_ferryRate wsX4_innRate := goodIn_r _ [7, 1, 8, 9, 10, 11, 12, 13, 14, 15, 16, 17, 18, 19, 20, 21, 22, 23, 24, 25, 26, 27, 28, 29, 30, 31, 32, 33, 34, 35, 36, 37, 38, 39, 40, 41, 42, 43, 44, 45, 46, 47, 48, 49, 50, 51, 52, 53, 54, 55, 56, 57, 58, 59, 60, 61, 62, 63, 64, 65, 66, 67, 68, 6, 69, 70, 71, 72, 73, 74, 75, 76, 77, 78, 79, 80, 81, 82, 83, 84, 85, 86, 87, 88, 89, 90, 91, 92, 93, 94, 95, 96, 97, 98, 99, 100, 101, 102, 103, 104, 105, 106] (by decide +kernel) (by decide +kernel)
set_option maxRecDepth 20000 in
theorem gX4_ferryRate_X4_innRate : GoodIn wsX4_ferryRate (wsV RX4 205 RX4 yX4_innRate wsX4_innRate) := goodIn_app (goodIn_of _ (by decide +kernel)) ggX4_ferryRate_X4_innRate
theorem dX4_ferryRate_0 : decode cX4_ferryRate 0 = .ok (.aload_n 0, 1) := by decide +kernel
theorem dX4_ferryRate_1 : decode cX4_ferryRate 1 = .ok (.dup, 1) := by decide +kernel
theorem dX4_ferryRate_2 : decode cX4_ferryRate 2 = .ok (.getfield 46, 3) := by decide +kernel
theorem dX4_ferryRate_5 : decode cX4_ferryRate 5 = .ok (.ldc2_w 258, 3) := by decide +kernel
theorem dX4_ferryRate_8 : decode cX4_ferryRate 8 = .ok (.ladd, 1) := by decide +kernel
theorem dX4_ferryRate_9 : decode cX4_ferryRate 9 = .ok (.putfield 46, 3) := by decide +kernel
theorem dX4_ferryRate_12 : decode cX4_ferryRate 12 = .ok (.aload_n 0, 1) := by decide +kernel
theorem dX4_ferryRate_13 : decode cX4_ferryRate 13 = .ok (.iload_n 1, 1) := by decide +kernel
theorem dX4_ferryRate_14 : decode cX4_ferryRate 14 = .ok (.invokevirtual 205, 3) := by decide +kernel
theorem dX4_ferryRate_17 : decode cX4_ferryRate 17 = .ok (.iload_n 1, 1) := by decide +kernel
theorem dX4_ferryRate_18 : decode cX4_ferryRate 18 = .ok (.iadd, 1) := by decide +kernel
theorem dX4_ferryRate_19 : decode cX4_ferryRate 19 = .ok (.ireturn, 1) := by decide +kernel
set_option maxRecDepth 20000 in
theorem ggX4_millRate_X4_townRate : GoodIn wsX4_millRate wsX4_townRate := goodIn_r _ [9, 1, 10, 11, 12, 13, 14, 15, 16, 17, 18, 19, 20, 21, 22, 23, 24, 25, 26, 27, 28, 29, 36, 37, 38, 39, 40, 41, 42, 43, 44, 45, 46, 47, 48, 49] (by decide +kernel) (by decide +kernel)
set_option maxRecDepth 20000 in
theorem gX4_millRate_X4_townRate : GoodIn wsX4_millRate (wsV RX4 199 RX4 yX4_townRate wsX4_townRate) := goodIn_app (goodIn_of _ (by decide +kernel)) ggX4_millRate_X4_townRate
theorem dX4_millRate_0 : decode cX4_millRate 0 = .ok (.aload_n 0, 1) := by decide +kernel
theorem dX4_millRate_1 : decode cX4_millRate 1 = .ok (.dup, 1) := by decide +kernel
theorem dX4_millRate_2 : decode cX4_millRate 2 = .ok (.getfield 46, 3) := by decide +kernel
theorem dX4_millRate_5 : decode cX4_millRate 5 = .ok (.ldc2_w 260, 3) := by decide +kernel
theorem dX4_millRate_8 : decode cX4_millRate 8 = .ok (.ladd, 1) := by decide +kernel
theorem dX4_millRate_9 : decode cX4_millRate 9 = .ok (.putfield 46, 3) := by decide +kernel
theorem dX4_millRate_12 : decode cX4_millRate 12 = .ok (.aload_n 0, 1) := by decide +kernel
theorem dX4_millRate_13 : decode cX4_millRate 13 = .ok (.iload_n 1, 1) := by decide +kernel
theorem dX4_millRate_14 : decode cX4_millRate 14 = .ok (.invokevirtual 199, 3) := by decide +kernel
theorem dX4_millRate_17 : decode cX4_millRate 17 = .ok (.aload_n 0, 1) := by decide +kernel
theorem dX4_millRate_18 : decode cX4_millRate 18 = .ok (.getfield 36, 3) := by decide +kernel
theorem dX4_millRate_21 : decode cX4_millRate 21 = .ok (.getfield 190, 3) := by decide +kernel
theorem dX4_millRate_24 : decode cX4_millRate 24 = .ok (.iadd, 1) := by decide +kernel
theorem dX4_millRate_25 : decode cX4_millRate 25 = .ok (.ireturn, 1) := by decide +kernel
