set_option maxRecDepth 20000 in
theorem ggX5_init_X5_reckons : GoodIn wsX5_init wsX5_reckons := goodIn_r _ [23, 10, 24, 25, 7, 26, 11, 8, 12, 9, 27, 28, 22, 29, 30, 31, 32, 33, 34, 35, 36, 37, 38, 39, 40, 41, 42, 43, 44, 45, 46, 47, 48, 49, 50, 51, 52, 53, 54, 55, 56, 57, 58, 59, 60, 61, 62, 63, 64] (by decide +kernel) (by decide +kernel)
set_option maxRecDepth 20000 in
theorem gX5_init_X5_reckons : GoodIn wsX5_init (wsV RX5 50 RX5 yX5_reckons wsX5_reckons) := goodIn_app (goodIn_of _ (by decide +kernel)) ggX5_init_X5_reckons
theorem dX5_init_0 : decode cX5_init 0 = .ok (.aload_n 0, 1) := by decide +kernel
theorem dX5_init_1 : decode cX5_init 1 = .ok (.invokespecial 1, 3) := by decide +kernel
theorem dX5_init_4 : decode cX5_init 4 = .ok (.aload_n 0, 1) := by decide +kernel
theorem dX5_init_5 : decode cX5_init 5 = .ok (.sipush 300, 3) := by decide +kernel
theorem dX5_init_8 : decode cX5_init 8 = .ok (.newarray .int, 2) := by decide +kernel
theorem dX5_init_10 : decode cX5_init 10 = .ok (.putfield 7, 3) := by decide +kernel
theorem dX5_init_13 : decode cX5_init 13 = .ok (.aload_n 0, 1) := by decide +kernel
theorem dX5_init_14 : decode cX5_init 14 = .ok (.bipush 12, 2) := by decide +kernel
theorem dX5_init_16 : decode cX5_init 16 = .ok (.newarray .int, 2) := by decide +kernel
theorem dX5_init_18 : decode cX5_init 18 = .ok (.putfield 13, 3) := by decide +kernel
theorem dX5_init_21 : decode cX5_init 21 = .ok (.aload_n 0, 1) := by decide +kernel
theorem dX5_init_22 : decode cX5_init 22 = .ok (.bipush 60, 2) := by decide +kernel
theorem dX5_init_24 : decode cX5_init 24 = .ok (.newarray .int, 2) := by decide +kernel
theorem dX5_init_26 : decode cX5_init 26 = .ok (.putfield 16, 3) := by decide +kernel
theorem dX5_init_29 : decode cX5_init 29 = .ok (.aload_n 0, 1) := by decide +kernel
theorem dX5_init_30 : decode cX5_init 30 = .ok (.bipush 20, 2) := by decide +kernel
theorem dX5_init_32 : decode cX5_init 32 = .ok (.newarray .int, 2) := by decide +kernel
theorem dX5_init_34 : decode cX5_init 34 = .ok (.putfield 19, 3) := by decide +kernel
theorem dX5_init_37 : decode cX5_init 37 = .ok (.aload_n 0, 1) := by decide +kernel
theorem dX5_init_38 : decode cX5_init 38 = .ok (.bipush 20, 2) := by decide +kernel
theorem dX5_init_40 : decode cX5_init 40 = .ok (.newarray .int, 2) := by decide +kernel
theorem dX5_init_42 : decode cX5_init 42 = .ok (.putfield 22, 3) := by decide +kernel
theorem dX5_init_45 : decode cX5_init 45 = .ok (.aload_n 0, 1) := by decide +kernel
theorem dX5_init_46 : decode cX5_init 46 = .ok (.bipush 36, 2) := by decide +kernel
theorem dX5_init_48 : decode cX5_init 48 = .ok (.newarray .int, 2) := by decide +kernel
theorem dX5_init_50 : decode cX5_init 50 = .ok (.putfield 25, 3) := by decide +kernel
theorem dX5_init_53 : decode cX5_init 53 = .ok (.aload_n 0, 1) := by decide +kernel
theorem dX5_init_54 : decode cX5_init 54 = .ok (.bipush 10, 2) := by decide +kernel
theorem dX5_init_56 : decode cX5_init 56 = .ok (.newarray .int, 2) := by decide +kernel
theorem dX5_init_58 : decode cX5_init 58 = .ok (.putfield 28, 3) := by decide +kernel
theorem dX5_init_61 : decode cX5_init 61 = .ok (.aload_n 0, 1) := by decide +kernel
theorem dX5_init_62 : decode cX5_init 62 = .ok (.bipush 10, 2) := by decide +kernel
theorem dX5_init_64 : decode cX5_init 64 = .ok (.newarray .int, 2) := by decide +kernel
theorem dX5_init_66 : decode cX5_init 66 = .ok (.putfield 31, 3) := by decide +kernel
theorem dX5_init_69 : decode cX5_init 69 = .ok (.aload_n 0, 1) := by decide +kernel
theorem dX5_init_70 : decode cX5_init 70 = .ok (.bipush 26, 2) := by decide +kernel
theorem dX5_init_72 : decode cX5_init 72 = .ok (.newarray .int, 2) := by decide +kernel
theorem dX5_init_74 : decode cX5_init 74 = .ok (.putfield 34, 3) := by decide +kernel
theorem dX5_init_77 : decode cX5_init 77 = .ok (.aload_n 0, 1) := by decide +kernel
theorem dX5_init_78 : decode cX5_init 78 = .ok (.bipush 52, 2) := by decide +kernel
theorem dX5_init_80 : decode cX5_init 80 = .ok (.newarray .int, 2) := by decide +kernel
theorem dX5_init_82 : decode cX5_init 82 = .ok (.putfield 37, 3) := by decide +kernel
theorem dX5_init_85 : decode cX5_init 85 = .ok (.aload_n 0, 1) := by decide +kernel
theorem dX5_init_86 : decode cX5_init 86 = .ok (.iconst 2, 1) := by decide +kernel
theorem dX5_init_87 : decode cX5_init 87 = .ok (.newarray .boolean, 2) := by decide +kernel
theorem dX5_init_89 : decode cX5_init 89 = .ok (.putfield 40, 3) := by decide +kernel
theorem dX5_init_92 : decode cX5_init 92 = .ok (.aload_n 0, 1) := by decide +kernel
theorem dX5_init_93 : decode cX5_init 93 = .ok (.bipush 6, 2) := by decide +kernel
theorem dX5_init_95 : decode cX5_init 95 = .ok (.newarray .int, 2) := by decide +kernel
theorem dX5_init_97 : decode cX5_init 97 = .ok (.putfield 44, 3) := by decide +kernel
theorem dX5_init_100 : decode cX5_init 100 = .ok (.aload_n 0, 1) := by decide +kernel
theorem dX5_init_101 : decode cX5_init 101 = .ok (.bipush 6, 2) := by decide +kernel
theorem dX5_init_103 : decode cX5_init 103 = .ok (.newarray .int, 2) := by decide +kernel
theorem dX5_init_105 : decode cX5_init 105 = .ok (.putfield 47, 3) := by decide +kernel
theorem dX5_init_108 : decode cX5_init 108 = .ok (.aload_n 0, 1) := by decide +kernel
theorem dX5_init_109 : decode cX5_init 109 = .ok (.invokevirtual 50, 3) := by decide +kernel
theorem dX5_init_112 : decode cX5_init 112 = .ok (.return_, 1) := by decide +kernel
theorem dX5_in_0 : decode cX5_in 0 = .ok (.iload_n 0, 1) := by decide +kernel
theorem dX5_in_1 : decode cX5_in 1 = .ok (.iload_n 1, 1) := by decide +kernel
theorem dX5_in_2 : decode cX5_in 2 = .ok (.if_icmp .lt 12, 3) := by decide +kernel
theorem dX5_in_5 : decode cX5_in 5 = .ok (.iload_n 0, 1) := by decide +kernel
theorem dX5_in_6 : decode cX5_in 6 = .ok (.iload_n 2, 1) := by decide +kernel
theorem dX5_in_7 : decode cX5_in 7 = .ok (.if_icmp .gt 7, 3) := by decide +kernel
theorem dX5_in_10 : decode cX5_in 10 = .ok (.iconst 1, 1) := by decide +kernel
theorem dX5_in_11 : decode cX5_in 11 = .ok (.goto 4, 3) := by decide +kernel
theorem dX5_in_14 : decode cX5_in 14 = .ok (.iconst 0, 1) := by decide +kernel
theorem dX5_in_15 : decode cX5_in 15 = .ok (.ireturn, 1) := by decide +kernel
theorem dX5_lesser_0 : decode cX5_lesser 0 = .ok (.iload_n 0, 1) := by decide +kernel
theorem dX5_lesser_1 : decode cX5_lesser 1 = .ok (.iload_n 1, 1) := by decide +kernel
theorem dX5_lesser_2 : decode cX5_lesser 2 = .ok (.if_icmp .ge 7, 3) := by decide +kernel
theorem dX5_lesser_5 : decode cX5_lesser 5 = .ok (.iload_n 0, 1) := by decide +kernel
theorem dX5_lesser_6 : decode cX5_lesser 6 = .ok (.goto 4, 3) := by decide +kernel
theorem dX5_lesser_9 : decode cX5_lesser 9 = .ok (.iload_n 1, 1) := by decide +kernel
theorem dX5_lesser_10 : decode cX5_lesser 10 = .ok (.ireturn, 1) := by decide +kernel
set_option maxRecDepth 20000 in
theorem ggX5_type_X5_in : GoodIn wsX5_type wsX5_in := goodIn_r _ [8] (by decide +kernel) (by decide +kernel)
set_option maxRecDepth 20000 in
theorem gX5_type_X5_in : GoodIn wsX5_type (va_wsS RX5 57 yX5_in wsX5_in) := goodIn_app (goodIn_of _ (by decide +kernel)) ggX5_type_X5_in
theorem dX5_type_0 : decode cX5_type 0 = .ok (.aload_n 0, 1) := by decide +kernel
theorem dX5_type_1 : decode cX5_type 1 = .ok (.iconst 0, 1) := by decide +kernel
theorem dX5_type_2 : decode cX5_type 2 = .ok (.putfield 53, 3) := by decide +kernel
theorem dX5_type_5 : decode cX5_type 5 = .ok (.iload_n 3, 1) := by decide +kernel
theorem dX5_type_6 : decode cX5_type 6 = .ok (.iconst 1, 1) := by decide +kernel
theorem dX5_type_7 : decode cX5_type 7 = .ok (.bipush 8, 2) := by decide +kernel
theorem dX5_type_9 : decode cX5_type 9 = .ok (.invokestatic 57, 3) := by decide +kernel
theorem dX5_type_12 : decode cX5_type 12 = .ok (.ifCond .ne 5, 3) := by decide +kernel
theorem dX5_type_15 : decode cX5_type 15 = .ok (.iconst (-1), 1) := by decide +kernel
theorem dX5_type_16 : decode cX5_type 16 = .ok (.ireturn, 1) := by decide +kernel
theorem dX5_type_17 : decode cX5_type 17 = .ok (.aload_n 0, 1) := by decide +kernel
theorem dX5_type_18 : decode cX5_type 18 = .ok (.getfield 61, 3) := by decide +kernel
theorem dX5_type_21 : decode cX5_type 21 = .ok (.iload_n 3, 1) := by decide +kernel
theorem dX5_type_22 : decode cX5_type 22 = .ok (.iadd, 1) := by decide +kernel
theorem dX5_type_23 : decode cX5_type 23 = .ok (.sipush 300, 3) := by decide +kernel
theorem dX5_type_26 : decode cX5_type 26 = .ok (.if_icmp .le 6, 3) := by decide +kernel
theorem dX5_type_29 : decode cX5_type 29 = .ok (.bipush (-3), 2) := by decide +kernel
theorem dX5_type_31 : decode cX5_type 31 = .ok (.ireturn, 1) := by decide +kernel
theorem dX5_type_32 : decode cX5_type 32 = .ok (.iload_n 3, 1) := by decide +kernel
theorem dX5_type_33 : decode cX5_type 33 = .ok (.iconst 1, 1) := by decide +kernel
theorem dX5_type_34 : decode cX5_type 34 = .ok (.isub, 1) := by decide +kernel
theorem dX5_type_35 : decode cX5_type 35 = .ok (.istore 4, 2) := by decide +kernel
theorem dX5_type_37 : decode cX5_type 37 = .ok (.iload 4, 2) := by decide +kernel
theorem dX5_type_39 : decode cX5_type 39 = .ok (.ifCond .lt 40, 3) := by decide +kernel
theorem dX5_type_42 : decode cX5_type 42 = .ok (.aload_n 0, 1) := by decide +kernel
theorem dX5_type_43 : decode cX5_type 43 = .ok (.getfield 7, 3) := by decide +kernel
theorem dX5_type_46 : decode cX5_type 46 = .ok (.aload_n 0, 1) := by decide +kernel
theorem dX5_type_47 : decode cX5_type 47 = .ok (.getfield 61, 3) := by decide +kernel
theorem dX5_type_50 : decode cX5_type 50 = .ok (.lload_n 1, 1) := by decide +kernel
theorem dX5_type_51 : decode cX5_type 51 = .ok (.bipush 8, 2) := by decide +kernel
theorem dX5_type_53 : decode cX5_type 53 = .ok (.iload 4, 2) := by decide +kernel
theorem dX5_type_55 : decode cX5_type 55 = .ok (.imul, 1) := by decide +kernel
theorem dX5_type_56 : decode cX5_type 56 = .ok (.lshr, 1) := by decide +kernel
theorem dX5_type_57 : decode cX5_type 57 = .ok (.ldc2_w 64, 3) := by decide +kernel
theorem dX5_type_60 : decode cX5_type 60 = .ok (.land, 1) := by decide +kernel
theorem dX5_type_61 : decode cX5_type 61 = .ok (.l2i, 1) := by decide +kernel
theorem dX5_type_62 : decode cX5_type 62 = .ok (.iastore, 1) := by decide +kernel
theorem dX5_type_63 : decode cX5_type 63 = .ok (.aload_n 0, 1) := by decide +kernel
theorem dX5_type_64 : decode cX5_type 64 = .ok (.dup, 1) := by decide +kernel
theorem dX5_type_65 : decode cX5_type 65 = .ok (.getfield 61, 3) := by decide +kernel
theorem dX5_type_68 : decode cX5_type 68 = .ok (.iconst 1, 1) := by decide +kernel
theorem dX5_type_69 : decode cX5_type 69 = .ok (.iadd, 1) := by decide +kernel
theorem dX5_type_70 : decode cX5_type 70 = .ok (.putfield 61, 3) := by decide +kernel
theorem dX5_type_73 : decode cX5_type 73 = .ok (.iinc 4 (-1), 3) := by decide +kernel
theorem dX5_type_76 : decode cX5_type 76 = .ok (.goto (-39), 3) := by decide +kernel
theorem dX5_type_79 : decode cX5_type 79 = .ok (.aload_n 0, 1) := by decide +kernel
theorem dX5_type_80 : decode cX5_type 80 = .ok (.getfield 61, 3) := by decide +kernel
theorem dX5_type_83 : decode cX5_type 83 = .ok (.ireturn, 1) := by decide +kernel
theorem dX5_clear_0 : decode cX5_clear 0 = .ok (.aload_n 0, 1) := by decide +kernel
theorem dX5_clear_1 : decode cX5_clear 1 = .ok (.iconst 0, 1) := by decide +kernel
theorem dX5_clear_2 : decode cX5_clear 2 = .ok (.putfield 53, 3) := by decide +kernel
theorem dX5_clear_5 : decode cX5_clear 5 = .ok (.aload_n 0, 1) := by decide +kernel
theorem dX5_clear_6 : decode cX5_clear 6 = .ok (.getfield 61, 3) := by decide +kernel
theorem dX5_clear_9 : decode cX5_clear 9 = .ok (.istore_n 1, 1) := by decide +kernel
theorem dX5_clear_10 : decode cX5_clear 10 = .ok (.aload_n 0, 1) := by decide +kernel
theorem dX5_clear_11 : decode cX5_clear 11 = .ok (.iconst 0, 1) := by decide +kernel
theorem dX5_clear_12 : decode cX5_clear 12 = .ok (.putfield 61, 3) := by decide +kernel
theorem dX5_clear_15 : decode cX5_clear 15 = .ok (.iload_n 1, 1) := by decide +kernel
theorem dX5_clear_16 : decode cX5_clear 16 = .ok (.ireturn, 1) := by decide +kernel
theorem dX5_byteAt_0 : decode cX5_byteAt 0 = .ok (.iload_n 1, 1) := by decide +kernel
theorem dX5_byteAt_1 : decode cX5_byteAt 1 = .ok (.aload_n 0, 1) := by decide +kernel
theorem dX5_byteAt_2 : decode cX5_byteAt 2 = .ok (.getfield 61, 3) := by decide +kernel
theorem dX5_byteAt_5 : decode cX5_byteAt 5 = .ok (.if_icmp .ge 12, 3) := by decide +kernel
theorem dX5_byteAt_8 : decode cX5_byteAt 8 = .ok (.aload_n 0, 1) := by decide +kernel
theorem dX5_byteAt_9 : decode cX5_byteAt 9 = .ok (.getfield 7, 3) := by decide +kernel
theorem dX5_byteAt_12 : decode cX5_byteAt 12 = .ok (.iload_n 1, 1) := by decide +kernel
theorem dX5_byteAt_13 : decode cX5_byteAt 13 = .ok (.iaload, 1) := by decide +kernel
theorem dX5_byteAt_14 : decode cX5_byteAt 14 = .ok (.goto 4, 3) := by decide +kernel
theorem dX5_byteAt_17 : decode cX5_byteAt 17 = .ok (.iconst (-1), 1) := by decide +kernel
theorem dX5_byteAt_18 : decode cX5_byteAt 18 = .ok (.ireturn, 1) := by decide +kernel
theorem dX5_named_0 : decode cX5_named 0 = .ok (.ldc2_w 66, 3) := by decide +kernel
theorem dX5_named_3 : decode cX5_named 3 = .ok (.iload_n 0, 1) := by decide +kernel
theorem dX5_named_4 : decode cX5_named 4 = .ok (.i2l, 1) := by decide +kernel
theorem dX5_named_5 : decode cX5_named 5 = .ok (.lmul, 1) := by decide +kernel
theorem dX5_named_6 : decode cX5_named 6 = .ok (.ldc2_w 68, 3) := by decide +kernel
theorem dX5_named_9 : decode cX5_named 9 = .ok (.iload_n 1, 1) := by decide +kernel
theorem dX5_named_10 : decode cX5_named 10 = .ok (.i2l, 1) := by decide +kernel
theorem dX5_named_11 : decode cX5_named 11 = .ok (.lmul, 1) := by decide +kernel
theorem dX5_named_12 : decode cX5_named 12 = .ok (.ladd, 1) := by decide +kernel
theorem dX5_named_13 : decode cX5_named 13 = .ok (.ldc2_w 70, 3) := by decide +kernel
theorem dX5_named_16 : decode cX5_named 16 = .ok (.iload_n 2, 1) := by decide +kernel
theorem dX5_named_17 : decode cX5_named 17 = .ok (.i2l, 1) := by decide +kernel
theorem dX5_named_18 : decode cX5_named 18 = .ok (.lmul, 1) := by decide +kernel
theorem dX5_named_19 : decode cX5_named 19 = .ok (.ladd, 1) := by decide +kernel
theorem dX5_named_20 : decode cX5_named 20 = .ok (.iload_n 3, 1) := by decide +kernel
theorem dX5_named_21 : decode cX5_named 21 = .ok (.i2l, 1) := by decide +kernel
theorem dX5_named_22 : decode cX5_named 22 = .ok (.ladd, 1) := by decide +kernel
theorem dX5_named_23 : decode cX5_named 23 = .ok (.lreturn, 1) := by decide +kernel
set_option maxRecDepth 20000 in
theorem ggX5_wordOf_X5_named : GoodIn wsX5_wordOf wsX5_named := goodIn_r _ [4, 5, 6, 7] (by decide +kernel) (by decide +kernel)
set_option maxRecDepth 20000 in
theorem gX5_wordOf_X5_named : GoodIn wsX5_wordOf (va_wsS RX5 72 yX5_named wsX5_named) := goodIn_app (goodIn_of _ (by decide +kernel)) ggX5_wordOf_X5_named
theorem dX5_wordOf_0 : decode cX5_wordOf 0 = .ok (.lload_n 0, 1) := by decide +kernel
theorem dX5_wordOf_1 : decode cX5_wordOf 1 = .ok (.bipush 116, 2) := by decide +kernel
theorem dX5_wordOf_3 : decode cX5_wordOf 3 = .ok (.bipush 111, 2) := by decide +kernel
theorem dX5_wordOf_5 : decode cX5_wordOf 5 = .ok (.bipush 119, 2) := by decide +kernel
theorem dX5_wordOf_7 : decode cX5_wordOf 7 = .ok (.bipush 110, 2) := by decide +kernel
theorem dX5_wordOf_9 : decode cX5_wordOf 9 = .ok (.invokestatic 72, 3) := by decide +kernel
theorem dX5_wordOf_12 : decode cX5_wordOf 12 = .ok (.lcmp, 1) := by decide +kernel
theorem dX5_wordOf_13 : decode cX5_wordOf 13 = .ok (.ifCond .ne 7, 3) := by decide +kernel
theorem dX5_wordOf_16 : decode cX5_wordOf 16 = .ok (.iconst 0, 1) := by decide +kernel
theorem dX5_wordOf_17 : decode cX5_wordOf 17 = .ok (.goto 45, 3) := by decide +kernel
theorem dX5_wordOf_20 : decode cX5_wordOf 20 = .ok (.lload_n 0, 1) := by decide +kernel
theorem dX5_wordOf_21 : decode cX5_wordOf 21 = .ok (.bipush 114, 2) := by decide +kernel
theorem dX5_wordOf_23 : decode cX5_wordOf 23 = .ok (.bipush 111, 2) := by decide +kernel
theorem dX5_wordOf_25 : decode cX5_wordOf 25 = .ok (.bipush 97, 2) := by decide +kernel
theorem dX5_wordOf_27 : decode cX5_wordOf 27 = .ok (.bipush 100, 2) := by decide +kernel
theorem dX5_wordOf_29 : decode cX5_wordOf 29 = .ok (.invokestatic 72, 3) := by decide +kernel
theorem dX5_wordOf_32 : decode cX5_wordOf 32 = .ok (.lcmp, 1) := by decide +kernel
theorem dX5_wordOf_33 : decode cX5_wordOf 33 = .ok (.ifCond .ne 7, 3) := by decide +kernel
theorem dX5_wordOf_36 : decode cX5_wordOf 36 = .ok (.iconst 1, 1) := by decide +kernel
theorem dX5_wordOf_37 : decode cX5_wordOf 37 = .ok (.goto 25, 3) := by decide +kernel
theorem dX5_wordOf_40 : decode cX5_wordOf 40 = .ok (.lload_n 0, 1) := by decide +kernel
theorem dX5_wordOf_41 : decode cX5_wordOf 41 = .ok (.bipush 115, 2) := by decide +kernel
theorem dX5_wordOf_43 : decode cX5_wordOf 43 = .ok (.bipush 116, 2) := by decide +kernel
theorem dX5_wordOf_45 : decode cX5_wordOf 45 = .ok (.bipush 111, 2) := by decide +kernel
theorem dX5_wordOf_47 : decode cX5_wordOf 47 = .ok (.bipush 112, 2) := by decide +kernel
theorem dX5_wordOf_49 : decode cX5_wordOf 49 = .ok (.invokestatic 72, 3) := by decide +kernel
theorem dX5_wordOf_52 : decode cX5_wordOf 52 = .ok (.lcmp, 1) := by decide +kernel
theorem dX5_wordOf_53 : decode cX5_wordOf 53 = .ok (.ifCond .ne 7, 3) := by decide +kernel
theorem dX5_wordOf_56 : decode cX5_wordOf 56 = .ok (.iconst 2, 1) := by decide +kernel
theorem dX5_wordOf_57 : decode cX5_wordOf 57 = .ok (.goto 5, 3) := by decide +kernel
theorem dX5_wordOf_60 : decode cX5_wordOf 60 = .ok (.bipush (-9), 2) := by decide +kernel
theorem dX5_wordOf_62 : decode cX5_wordOf 62 = .ok (.ireturn, 1) := by decide +kernel
set_option maxRecDepth 20000 in
theorem ggX5_advances_X5_byteAt : GoodIn wsX5_advances wsX5_byteAt := goodIn_r _ [10, 11, 12, 24, 25, 26, 27, 28, 29, 30, 31, 32, 33, 34, 35, 36, 37, 38, 39, 40, 41, 42, 43, 44, 45, 46, 47, 48, 49, 50, 51, 52, 53, 54] (by decide +kernel) (by decide +kernel)
set_option maxRecDepth 20000 in
theorem gX5_advances_X5_byteAt : GoodIn wsX5_advances (wsV RX5 79 RX5 yX5_byteAt wsX5_byteAt) := goodIn_app (goodIn_of _ (by decide +kernel)) ggX5_advances_X5_byteAt
set_option maxRecDepth 20000 in
theorem ggX5_advances_X5_in : GoodIn wsX5_advances wsX5_in := goodIn_r _ [15] (by decide +kernel) (by decide +kernel)
set_option maxRecDepth 20000 in
theorem gX5_advances_X5_in : GoodIn wsX5_advances (va_wsS RX5 57 yX5_in wsX5_in) := goodIn_app (goodIn_of _ (by decide +kernel)) ggX5_advances_X5_in
set_option maxRecDepth 20000 in
theorem ggX5_advances_X5_wordOf : GoodIn wsX5_advances wsX5_wordOf := goodIn_r _ [18, 19, 20, 9, 21, 22, 23, 4] (by decide +kernel) (by decide +kernel)
set_option maxRecDepth 20000 in
theorem gX5_advances_X5_wordOf : GoodIn wsX5_advances (va_wsS RX5 89 yX5_wordOf wsX5_wordOf) := goodIn_app (goodIn_of _ (by decide +kernel)) ggX5_advances_X5_wordOf
theorem dX5_advances_0 : decode cX5_advances 0 = .ok (.aload_n 0, 1) := by decide +kernel
theorem dX5_advances_1 : decode cX5_advances 1 = .ok (.aload_n 0, 1) := by decide +kernel
theorem dX5_advances_2 : decode cX5_advances 2 = .ok (.getfield 76, 3) := by decide +kernel
theorem dX5_advances_5 : decode cX5_advances 5 = .ok (.invokevirtual 79, 3) := by decide +kernel
theorem dX5_advances_8 : decode cX5_advances 8 = .ok (.bipush 32, 2) := by decide +kernel
theorem dX5_advances_10 : decode cX5_advances 10 = .ok (.if_icmp .ne 16, 3) := by decide +kernel
theorem dX5_advances_13 : decode cX5_advances 13 = .ok (.aload_n 0, 1) := by decide +kernel
theorem dX5_advances_14 : decode cX5_advances 14 = .ok (.dup, 1) := by decide +kernel
theorem dX5_advances_15 : decode cX5_advances 15 = .ok (.getfield 76, 3) := by decide +kernel
theorem dX5_advances_18 : decode cX5_advances 18 = .ok (.iconst 1, 1) := by decide +kernel
theorem dX5_advances_19 : decode cX5_advances 19 = .ok (.iadd, 1) := by decide +kernel
theorem dX5_advances_20 : decode cX5_advances 20 = .ok (.putfield 76, 3) := by decide +kernel
theorem dX5_advances_23 : decode cX5_advances 23 = .ok (.goto (-23), 3) := by decide +kernel
theorem dX5_advances_26 : decode cX5_advances 26 = .ok (.aload_n 0, 1) := by decide +kernel
theorem dX5_advances_27 : decode cX5_advances 27 = .ok (.aload_n 0, 1) := by decide +kernel
theorem dX5_advances_28 : decode cX5_advances 28 = .ok (.getfield 76, 3) := by decide +kernel
theorem dX5_advances_31 : decode cX5_advances 31 = .ok (.putfield 83, 3) := by decide +kernel
theorem dX5_advances_34 : decode cX5_advances 34 = .ok (.aload_n 0, 1) := by decide +kernel
theorem dX5_advances_35 : decode cX5_advances 35 = .ok (.aload_n 0, 1) := by decide +kernel
theorem dX5_advances_36 : decode cX5_advances 36 = .ok (.getfield 76, 3) := by decide +kernel
theorem dX5_advances_39 : decode cX5_advances 39 = .ok (.invokevirtual 79, 3) := by decide +kernel
theorem dX5_advances_42 : decode cX5_advances 42 = .ok (.istore_n 1, 1) := by decide +kernel
theorem dX5_advances_43 : decode cX5_advances 43 = .ok (.iload_n 1, 1) := by decide +kernel
theorem dX5_advances_44 : decode cX5_advances 44 = .ok (.ifCond .ge 11, 3) := by decide +kernel
theorem dX5_advances_47 : decode cX5_advances 47 = .ok (.aload_n 0, 1) := by decide +kernel
theorem dX5_advances_48 : decode cX5_advances 48 = .ok (.iconst 0, 1) := by decide +kernel
theorem dX5_advances_49 : decode cX5_advances 49 = .ok (.putfield 86, 3) := by decide +kernel
theorem dX5_advances_52 : decode cX5_advances 52 = .ok (.goto 260, 3) := by decide +kernel
theorem dX5_advances_55 : decode cX5_advances 55 = .ok (.iload_n 1, 1) := by decide +kernel
theorem dX5_advances_56 : decode cX5_advances 56 = .ok (.bipush 97, 2) := by decide +kernel
theorem dX5_advances_58 : decode cX5_advances 58 = .ok (.bipush 122, 2) := by decide +kernel
theorem dX5_advances_60 : decode cX5_advances 60 = .ok (.invokestatic 57, 3) := by decide +kernel
theorem dX5_advances_63 : decode cX5_advances 63 = .ok (.ifCond .eq 98, 3) := by decide +kernel
theorem dX5_advances_66 : decode cX5_advances 66 = .ok (.lconst 0, 1) := by decide +kernel
theorem dX5_advances_67 : decode cX5_advances 67 = .ok (.lstore_n 2, 1) := by decide +kernel
theorem dX5_advances_68 : decode cX5_advances 68 = .ok (.aload_n 0, 1) := by decide +kernel
theorem dX5_advances_69 : decode cX5_advances 69 = .ok (.aload_n 0, 1) := by decide +kernel
theorem dX5_advances_70 : decode cX5_advances 70 = .ok (.getfield 76, 3) := by decide +kernel
theorem dX5_advances_73 : decode cX5_advances 73 = .ok (.invokevirtual 79, 3) := by decide +kernel
theorem dX5_advances_76 : decode cX5_advances 76 = .ok (.bipush 97, 2) := by decide +kernel
theorem dX5_advances_78 : decode cX5_advances 78 = .ok (.bipush 122, 2) := by decide +kernel
theorem dX5_advances_80 : decode cX5_advances 80 = .ok (.invokestatic 57, 3) := by decide +kernel
theorem dX5_advances_83 : decode cX5_advances 83 = .ok (.ifCond .eq 49, 3) := by decide +kernel
theorem dX5_advances_86 : decode cX5_advances 86 = .ok (.aload_n 0, 1) := by decide +kernel
theorem dX5_advances_87 : decode cX5_advances 87 = .ok (.getfield 76, 3) := by decide +kernel
theorem dX5_advances_90 : decode cX5_advances 90 = .ok (.aload_n 0, 1) := by decide +kernel
theorem dX5_advances_91 : decode cX5_advances 91 = .ok (.getfield 83, 3) := by decide +kernel
theorem dX5_advances_94 : decode cX5_advances 94 = .ok (.isub, 1) := by decide +kernel
theorem dX5_advances_95 : decode cX5_advances 95 = .ok (.iconst 5, 1) := by decide +kernel
theorem dX5_advances_96 : decode cX5_advances 96 = .ok (.if_icmp .ge 21, 3) := by decide +kernel
theorem dX5_advances_99 : decode cX5_advances 99 = .ok (.ldc2_w 70, 3) := by decide +kernel
theorem dX5_advances_102 : decode cX5_advances 102 = .ok (.lload_n 2, 1) := by decide +kernel
theorem dX5_advances_103 : decode cX5_advances 103 = .ok (.lmul, 1) := by decide +kernel
theorem dX5_advances_104 : decode cX5_advances 104 = .ok (.aload_n 0, 1) := by decide +kernel
theorem dX5_advances_105 : decode cX5_advances 105 = .ok (.aload_n 0, 1) := by decide +kernel
theorem dX5_advances_106 : decode cX5_advances 106 = .ok (.getfield 76, 3) := by decide +kernel
theorem dX5_advances_109 : decode cX5_advances 109 = .ok (.invokevirtual 79, 3) := by decide +kernel
theorem dX5_advances_112 : decode cX5_advances 112 = .ok (.i2l, 1) := by decide +kernel
theorem dX5_advances_113 : decode cX5_advances 113 = .ok (.ladd, 1) := by decide +kernel
theorem dX5_advances_114 : decode cX5_advances 114 = .ok (.goto 4, 3) := by decide +kernel
theorem dX5_advances_117 : decode cX5_advances 117 = .ok (.lload_n 2, 1) := by decide +kernel
theorem dX5_advances_118 : decode cX5_advances 118 = .ok (.lstore_n 2, 1) := by decide +kernel
theorem dX5_advances_119 : decode cX5_advances 119 = .ok (.aload_n 0, 1) := by decide +kernel
theorem dX5_advances_120 : decode cX5_advances 120 = .ok (.dup, 1) := by decide +kernel
theorem dX5_advances_121 : decode cX5_advances 121 = .ok (.getfield 76, 3) := by decide +kernel
theorem dX5_advances_124 : decode cX5_advances 124 = .ok (.iconst 1, 1) := by decide +kernel
theorem dX5_advances_125 : decode cX5_advances 125 = .ok (.iadd, 1) := by decide +kernel
theorem dX5_advances_126 : decode cX5_advances 126 = .ok (.putfield 76, 3) := by decide +kernel
theorem dX5_advances_129 : decode cX5_advances 129 = .ok (.goto (-61), 3) := by decide +kernel
theorem dX5_advances_132 : decode cX5_advances 132 = .ok (.aload_n 0, 1) := by decide +kernel
theorem dX5_advances_133 : decode cX5_advances 133 = .ok (.lload_n 2, 1) := by decide +kernel
theorem dX5_advances_134 : decode cX5_advances 134 = .ok (.invokestatic 89, 3) := by decide +kernel
theorem dX5_advances_137 : decode cX5_advances 137 = .ok (.putfield 93, 3) := by decide +kernel
theorem dX5_advances_140 : decode cX5_advances 140 = .ok (.aload_n 0, 1) := by decide +kernel
theorem dX5_advances_141 : decode cX5_advances 141 = .ok (.aload_n 0, 1) := by decide +kernel
theorem dX5_advances_142 : decode cX5_advances 142 = .ok (.getfield 93, 3) := by decide +kernel
theorem dX5_advances_145 : decode cX5_advances 145 = .ok (.bipush (-9), 2) := by decide +kernel
theorem dX5_advances_147 : decode cX5_advances 147 = .ok (.if_icmp .ne 7, 3) := by decide +kernel
theorem dX5_advances_150 : decode cX5_advances 150 = .ok (.iconst 4, 1) := by decide +kernel
theorem dX5_advances_151 : decode cX5_advances 151 = .ok (.goto 4, 3) := by decide +kernel
theorem dX5_advances_154 : decode cX5_advances 154 = .ok (.iconst 1, 1) := by decide +kernel
theorem dX5_advances_155 : decode cX5_advances 155 = .ok (.putfield 86, 3) := by decide +kernel
theorem dX5_advances_158 : decode cX5_advances 158 = .ok (.goto 154, 3) := by decide +kernel
theorem dX5_advances_161 : decode cX5_advances 161 = .ok (.iload_n 1, 1) := by decide +kernel
theorem dX5_advances_162 : decode cX5_advances 162 = .ok (.bipush 48, 2) := by decide +kernel
theorem dX5_advances_164 : decode cX5_advances 164 = .ok (.bipush 57, 2) := by decide +kernel
theorem dX5_advances_166 : decode cX5_advances 166 = .ok (.invokestatic 57, 3) := by decide +kernel
theorem dX5_advances_169 : decode cX5_advances 169 = .ok (.ifCond .eq 118, 3) := by decide +kernel
theorem dX5_advances_172 : decode cX5_advances 172 = .ok (.aload_n 0, 1) := by decide +kernel
theorem dX5_advances_173 : decode cX5_advances 173 = .ok (.iconst 0, 1) := by decide +kernel
theorem dX5_advances_174 : decode cX5_advances 174 = .ok (.putfield 93, 3) := by decide +kernel
theorem dX5_advances_177 : decode cX5_advances 177 = .ok (.aload_n 0, 1) := by decide +kernel
theorem dX5_advances_178 : decode cX5_advances 178 = .ok (.aload_n 0, 1) := by decide +kernel
theorem dX5_advances_179 : decode cX5_advances 179 = .ok (.getfield 76, 3) := by decide +kernel
theorem dX5_advances_182 : decode cX5_advances 182 = .ok (.invokevirtual 79, 3) := by decide +kernel
theorem dX5_advances_185 : decode cX5_advances 185 = .ok (.bipush 48, 2) := by decide +kernel
theorem dX5_advances_187 : decode cX5_advances 187 = .ok (.bipush 57, 2) := by decide +kernel
theorem dX5_advances_189 : decode cX5_advances 189 = .ok (.invokestatic 57, 3) := by decide +kernel
theorem dX5_advances_192 : decode cX5_advances 192 = .ok (.ifCond .eq 55, 3) := by decide +kernel
theorem dX5_advances_195 : decode cX5_advances 195 = .ok (.aload_n 0, 1) := by decide +kernel
theorem dX5_advances_196 : decode cX5_advances 196 = .ok (.aload_n 0, 1) := by decide +kernel
theorem dX5_advances_197 : decode cX5_advances 197 = .ok (.getfield 93, 3) := by decide +kernel
theorem dX5_advances_200 : decode cX5_advances 200 = .ok (.bipush 99, 2) := by decide +kernel
theorem dX5_advances_202 : decode cX5_advances 202 = .ok (.if_icmp .le 10, 3) := by decide +kernel
theorem dX5_advances_205 : decode cX5_advances 205 = .ok (.aload_n 0, 1) := by decide +kernel
theorem dX5_advances_206 : decode cX5_advances 206 = .ok (.getfield 93, 3) := by decide +kernel
theorem dX5_advances_209 : decode cX5_advances 209 = .ok (.goto 22, 3) := by decide +kernel
theorem dX5_advances_212 : decode cX5_advances 212 = .ok (.bipush 10, 2) := by decide +kernel
theorem dX5_advances_214 : decode cX5_advances 214 = .ok (.aload_n 0, 1) := by decide +kernel
theorem dX5_advances_215 : decode cX5_advances 215 = .ok (.getfield 93, 3) := by decide +kernel
theorem dX5_advances_218 : decode cX5_advances 218 = .ok (.imul, 1) := by decide +kernel
theorem dX5_advances_219 : decode cX5_advances 219 = .ok (.aload_n 0, 1) := by decide +kernel
theorem dX5_advances_220 : decode cX5_advances 220 = .ok (.aload_n 0, 1) := by decide +kernel
theorem dX5_advances_221 : decode cX5_advances 221 = .ok (.getfield 76, 3) := by decide +kernel
theorem dX5_advances_224 : decode cX5_advances 224 = .ok (.invokevirtual 79, 3) := by decide +kernel
theorem dX5_advances_227 : decode cX5_advances 227 = .ok (.iadd, 1) := by decide +kernel
theorem dX5_advances_228 : decode cX5_advances 228 = .ok (.bipush 48, 2) := by decide +kernel
theorem dX5_advances_230 : decode cX5_advances 230 = .ok (.isub, 1) := by decide +kernel
theorem dX5_advances_231 : decode cX5_advances 231 = .ok (.putfield 93, 3) := by decide +kernel
theorem dX5_advances_234 : decode cX5_advances 234 = .ok (.aload_n 0, 1) := by decide +kernel
theorem dX5_advances_235 : decode cX5_advances 235 = .ok (.dup, 1) := by decide +kernel
theorem dX5_advances_236 : decode cX5_advances 236 = .ok (.getfield 76, 3) := by decide +kernel
theorem dX5_advances_239 : decode cX5_advances 239 = .ok (.iconst 1, 1) := by decide +kernel
theorem dX5_advances_240 : decode cX5_advances 240 = .ok (.iadd, 1) := by decide +kernel
theorem dX5_advances_241 : decode cX5_advances 241 = .ok (.putfield 76, 3) := by decide +kernel
theorem dX5_advances_244 : decode cX5_advances 244 = .ok (.goto (-67), 3) := by decide +kernel
theorem dX5_advances_247 : decode cX5_advances 247 = .ok (.aload_n 0, 1) := by decide +kernel
theorem dX5_advances_248 : decode cX5_advances 248 = .ok (.aload_n 0, 1) := by decide +kernel
theorem dX5_advances_249 : decode cX5_advances 249 = .ok (.getfield 93, 3) := by decide +kernel
theorem dX5_advances_252 : decode cX5_advances 252 = .ok (.bipush 99, 2) := by decide +kernel
theorem dX5_advances_254 : decode cX5_advances 254 = .ok (.if_icmp .gt 22, 3) := by decide +kernel
theorem dX5_advances_257 : decode cX5_advances 257 = .ok (.iload_n 1, 1) := by decide +kernel
theorem dX5_advances_258 : decode cX5_advances 258 = .ok (.bipush 48, 2) := by decide +kernel
theorem dX5_advances_260 : decode cX5_advances 260 = .ok (.if_icmp .ne 20, 3) := by decide +kernel
theorem dX5_advances_263 : decode cX5_advances 263 = .ok (.aload_n 0, 1) := by decide +kernel
theorem dX5_advances_264 : decode cX5_advances 264 = .ok (.getfield 76, 3) := by decide +kernel
theorem dX5_advances_267 : decode cX5_advances 267 = .ok (.aload_n 0, 1) := by decide +kernel
theorem dX5_advances_268 : decode cX5_advances 268 = .ok (.getfield 83, 3) := by decide +kernel
theorem dX5_advances_271 : decode cX5_advances 271 = .ok (.isub, 1) := by decide +kernel
theorem dX5_advances_272 : decode cX5_advances 272 = .ok (.iconst 1, 1) := by decide +kernel
theorem dX5_advances_273 : decode cX5_advances 273 = .ok (.if_icmp .le 7, 3) := by decide +kernel
theorem dX5_advances_276 : decode cX5_advances 276 = .ok (.iconst 4, 1) := by decide +kernel
theorem dX5_advances_277 : decode cX5_advances 277 = .ok (.goto 4, 3) := by decide +kernel
theorem dX5_advances_280 : decode cX5_advances 280 = .ok (.iconst 2, 1) := by decide +kernel
theorem dX5_advances_281 : decode cX5_advances 281 = .ok (.putfield 86, 3) := by decide +kernel
theorem dX5_advances_284 : decode cX5_advances 284 = .ok (.goto 28, 3) := by decide +kernel
theorem dX5_advances_287 : decode cX5_advances 287 = .ok (.aload_n 0, 1) := by decide +kernel
theorem dX5_advances_288 : decode cX5_advances 288 = .ok (.dup, 1) := by decide +kernel
theorem dX5_advances_289 : decode cX5_advances 289 = .ok (.getfield 76, 3) := by decide +kernel
theorem dX5_advances_292 : decode cX5_advances 292 = .ok (.iconst 1, 1) := by decide +kernel
theorem dX5_advances_293 : decode cX5_advances 293 = .ok (.iadd, 1) := by decide +kernel
theorem dX5_advances_294 : decode cX5_advances 294 = .ok (.putfield 76, 3) := by decide +kernel
theorem dX5_advances_297 : decode cX5_advances 297 = .ok (.aload_n 0, 1) := by decide +kernel
theorem dX5_advances_298 : decode cX5_advances 298 = .ok (.iload_n 1, 1) := by decide +kernel
theorem dX5_advances_299 : decode cX5_advances 299 = .ok (.bipush 59, 2) := by decide +kernel
theorem dX5_advances_301 : decode cX5_advances 301 = .ok (.if_icmp .ne 7, 3) := by decide +kernel
theorem dX5_advances_304 : decode cX5_advances 304 = .ok (.iconst 3, 1) := by decide +kernel
theorem dX5_advances_305 : decode cX5_advances 305 = .ok (.goto 4, 3) := by decide +kernel
theorem dX5_advances_308 : decode cX5_advances 308 = .ok (.iconst 4, 1) := by decide +kernel
theorem dX5_advances_309 : decode cX5_advances 309 = .ok (.putfield 86, 3) := by decide +kernel
theorem dX5_advances_312 : decode cX5_advances 312 = .ok (.return_, 1) := by decide +kernel
theorem dX5_isWell_0 : decode cX5_isWell 0 = .ok (.aload_n 0, 1) := by decide +kernel
theorem dX5_isWell_1 : decode cX5_isWell 1 = .ok (.getfield 96, 3) := by decide +kernel
theorem dX5_isWell_4 : decode cX5_isWell 4 = .ok (.ifCond .ge 7, 3) := by decide +kernel
theorem dX5_isWell_7 : decode cX5_isWell 7 = .ok (.iconst 1, 1) := by decide +kernel
theorem dX5_isWell_8 : decode cX5_isWell 8 = .ok (.goto 4, 3) := by decide +kernel
theorem dX5_isWell_11 : decode cX5_isWell 11 = .ok (.iconst 0, 1) := by decide +kernel
theorem dX5_isWell_12 : decode cX5_isWell 12 = .ok (.ireturn, 1) := by decide +kernel
set_option maxRecDepth 20000 in
theorem ggX5_takes_X5_isWell : GoodIn wsX5_takes wsX5_isWell := goodIn_r _ [8, 2, 33, 34, 35, 36, 37, 38, 39, 40, 41, 42, 43, 44, 45, 46, 47, 48, 49, 50, 51, 52, 53, 54, 55, 56, 57, 58, 59, 60, 61, 62, 63] (by decide +kernel) (by decide +kernel)
set_option maxRecDepth 20000 in
theorem gX5_takes_X5_isWell : GoodIn wsX5_takes (wsV RX5 99 RX5 yX5_isWell wsX5_isWell) := goodIn_app (goodIn_of _ (by decide +kernel)) ggX5_takes_X5_isWell
set_option maxRecDepth 20000 in
theorem ggX5_takes_X5_advances : GoodIn wsX5_takes wsX5_advances := goodIn_r _ [12, 13, 1, 14, 15, 3, 16, 17, 18, 7, 19, 20, 21, 22, 23, 24, 25, 26, 27, 28, 29, 30, 31, 32, 33, 34, 35, 36, 37, 38, 39, 40, 41, 42, 43, 44, 45, 46, 47, 48, 49, 50, 51, 52, 53, 54, 55, 56, 57, 58, 59, 60, 61, 62, 63] (by decide +kernel) (by decide +kernel)
set_option maxRecDepth 20000 in
theorem gX5_takes_X5_advances : GoodIn wsX5_takes (wsV RX5 103 RX5 yX5_advances wsX5_advances) := goodIn_app (goodIn_of _ (by decide +kernel)) ggX5_takes_X5_advances
theorem dX5_takes_0 : decode cX5_takes 0 = .ok (.aload_n 0, 1) := by decide +kernel
theorem dX5_takes_1 : decode cX5_takes 1 = .ok (.invokevirtual 99, 3) := by decide +kernel
theorem dX5_takes_4 : decode cX5_takes 4 = .ok (.ifCond .ne 5, 3) := by decide +kernel
theorem dX5_takes_7 : decode cX5_takes 7 = .ok (.iconst 0, 1) := by decide +kernel
theorem dX5_takes_8 : decode cX5_takes 8 = .ok (.ireturn, 1) := by decide +kernel
theorem dX5_takes_9 : decode cX5_takes 9 = .ok (.iload_n 1, 1) := by decide +kernel
theorem dX5_takes_10 : decode cX5_takes 10 = .ok (.ifCond .ne 13, 3) := by decide +kernel
theorem dX5_takes_13 : decode cX5_takes 13 = .ok (.aload_n 0, 1) := by decide +kernel
theorem dX5_takes_14 : decode cX5_takes 14 = .ok (.aload_n 0, 1) := by decide +kernel
theorem dX5_takes_15 : decode cX5_takes 15 = .ok (.getfield 83, 3) := by decide +kernel
theorem dX5_takes_18 : decode cX5_takes 18 = .ok (.putfield 96, 3) := by decide +kernel
theorem dX5_takes_21 : decode cX5_takes 21 = .ok (.iconst 0, 1) := by decide +kernel
theorem dX5_takes_22 : decode cX5_takes 22 = .ok (.ireturn, 1) := by decide +kernel
theorem dX5_takes_23 : decode cX5_takes 23 = .ok (.aload_n 0, 1) := by decide +kernel
theorem dX5_takes_24 : decode cX5_takes 24 = .ok (.getfield 93, 3) := by decide +kernel
theorem dX5_takes_27 : decode cX5_takes 27 = .ok (.istore_n 2, 1) := by decide +kernel
theorem dX5_takes_28 : decode cX5_takes 28 = .ok (.aload_n 0, 1) := by decide +kernel
theorem dX5_takes_29 : decode cX5_takes 29 = .ok (.invokevirtual 103, 3) := by decide +kernel
theorem dX5_takes_32 : decode cX5_takes 32 = .ok (.iload_n 2, 1) := by decide +kernel
theorem dX5_takes_33 : decode cX5_takes 33 = .ok (.ireturn, 1) := by decide +kernel
set_option maxRecDepth 20000 in
theorem ggX5_number_X5_in : GoodIn wsX5_number wsX5_in := goodIn_r _ [6] (by decide +kernel) (by decide +kernel)
set_option maxRecDepth 20000 in
theorem gX5_number_X5_in : GoodIn wsX5_number (va_wsS RX5 57 yX5_in wsX5_in) := goodIn_app (goodIn_of _ (by decide +kernel)) ggX5_number_X5_in
set_option maxRecDepth 20000 in
theorem ggX5_number_X5_takes : GoodIn wsX5_number wsX5_takes := goodIn_r _ [10, 11, 12, 2, 13, 14, 15, 5, 16, 17, 18, 19, 20, 21, 1, 22, 23, 24, 25, 26, 27, 28, 3, 4, 6, 29, 30, 31, 32, 33, 34, 35, 36, 37, 38, 39, 40, 41, 42, 43, 44, 45, 46, 47, 48, 49, 50, 51, 52, 53, 54, 55, 56, 57, 58, 59, 60, 61, 62, 63, 64, 65, 66, 67] (by decide +kernel) (by decide +kernel)
set_option maxRecDepth 20000 in
theorem gX5_number_X5_takes : GoodIn wsX5_number (wsV RX5 106 RX5 yX5_takes wsX5_takes) := goodIn_app (goodIn_of _ (by decide +kernel)) ggX5_number_X5_takes
theorem dX5_number_0 : decode cX5_number 0 = .ok (.aload_n 0, 1) := by decide +kernel
theorem dX5_number_1 : decode cX5_number 1 = .ok (.aload_n 0, 1) := by decide +kernel
theorem dX5_number_2 : decode cX5_number 2 = .ok (.getfield 86, 3) := by decide +kernel
theorem dX5_number_5 : decode cX5_number 5 = .ok (.iconst 2, 1) := by decide +kernel
theorem dX5_number_6 : decode cX5_number 6 = .ok (.if_icmp .ne 19, 3) := by decide +kernel
theorem dX5_number_9 : decode cX5_number 9 = .ok (.aload_n 0, 1) := by decide +kernel
theorem dX5_number_10 : decode cX5_number 10 = .ok (.getfield 93, 3) := by decide +kernel
theorem dX5_number_13 : decode cX5_number 13 = .ok (.iload_n 1, 1) := by decide +kernel
theorem dX5_number_14 : decode cX5_number 14 = .ok (.iload_n 2, 1) := by decide +kernel
theorem dX5_number_15 : decode cX5_number 15 = .ok (.invokestatic 57, 3) := by decide +kernel
theorem dX5_number_18 : decode cX5_number 18 = .ok (.ifCond .eq 7, 3) := by decide +kernel
theorem dX5_number_21 : decode cX5_number 21 = .ok (.iconst 1, 1) := by decide +kernel
theorem dX5_number_22 : decode cX5_number 22 = .ok (.goto 4, 3) := by decide +kernel
theorem dX5_number_25 : decode cX5_number 25 = .ok (.iconst 0, 1) := by decide +kernel
theorem dX5_number_26 : decode cX5_number 26 = .ok (.invokevirtual 106, 3) := by decide +kernel
theorem dX5_number_29 : decode cX5_number 29 = .ok (.ireturn, 1) := by decide +kernel
theorem dX5_roadOf_0 : decode cX5_roadOf 0 = .ok (.iconst 0, 1) := by decide +kernel
theorem dX5_roadOf_1 : decode cX5_roadOf 1 = .ok (.istore 5, 2) := by decide +kernel
theorem dX5_roadOf_3 : decode cX5_roadOf 3 = .ok (.iload 5, 2) := by decide +kernel
theorem dX5_roadOf_5 : decode cX5_roadOf 5 = .ok (.iload_n 2, 1) := by decide +kernel
theorem dX5_roadOf_6 : decode cX5_roadOf 6 = .ok (.if_icmp .ge 66, 3) := by decide +kernel
theorem dX5_roadOf_9 : decode cX5_roadOf 9 = .ok (.aload_n 0, 1) := by decide +kernel
theorem dX5_roadOf_10 : decode cX5_roadOf 10 = .ok (.getfield 16, 3) := by decide +kernel
theorem dX5_roadOf_13 : decode cX5_roadOf 13 = .ok (.iload_n 1, 1) := by decide +kernel
theorem dX5_roadOf_14 : decode cX5_roadOf 14 = .ok (.iconst 3, 1) := by decide +kernel
theorem dX5_roadOf_15 : decode cX5_roadOf 15 = .ok (.iload 5, 2) := by decide +kernel
theorem dX5_roadOf_17 : decode cX5_roadOf 17 = .ok (.imul, 1) := by decide +kernel
theorem dX5_roadOf_18 : decode cX5_roadOf 18 = .ok (.iadd, 1) := by decide +kernel
theorem dX5_roadOf_19 : decode cX5_roadOf 19 = .ok (.iaload, 1) := by decide +kernel
theorem dX5_roadOf_20 : decode cX5_roadOf 20 = .ok (.istore 6, 2) := by decide +kernel
theorem dX5_roadOf_22 : decode cX5_roadOf 22 = .ok (.aload_n 0, 1) := by decide +kernel
theorem dX5_roadOf_23 : decode cX5_roadOf 23 = .ok (.getfield 16, 3) := by decide +kernel
theorem dX5_roadOf_26 : decode cX5_roadOf 26 = .ok (.iload_n 1, 1) := by decide +kernel
theorem dX5_roadOf_27 : decode cX5_roadOf 27 = .ok (.iconst 3, 1) := by decide +kernel
theorem dX5_roadOf_28 : decode cX5_roadOf 28 = .ok (.iload 5, 2) := by decide +kernel
theorem dX5_roadOf_30 : decode cX5_roadOf 30 = .ok (.imul, 1) := by decide +kernel
theorem dX5_roadOf_31 : decode cX5_roadOf 31 = .ok (.iadd, 1) := by decide +kernel
theorem dX5_roadOf_32 : decode cX5_roadOf 32 = .ok (.iconst 1, 1) := by decide +kernel
theorem dX5_roadOf_33 : decode cX5_roadOf 33 = .ok (.iadd, 1) := by decide +kernel
theorem dX5_roadOf_34 : decode cX5_roadOf 34 = .ok (.iaload, 1) := by decide +kernel
theorem dX5_roadOf_35 : decode cX5_roadOf 35 = .ok (.istore 7, 2) := by decide +kernel
theorem dX5_roadOf_37 : decode cX5_roadOf 37 = .ok (.iload 6, 2) := by decide +kernel
theorem dX5_roadOf_39 : decode cX5_roadOf 39 = .ok (.iload_n 3, 1) := by decide +kernel
theorem dX5_roadOf_40 : decode cX5_roadOf 40 = .ok (.if_icmp .ne 10, 3) := by decide +kernel
theorem dX5_roadOf_43 : decode cX5_roadOf 43 = .ok (.iload 7, 2) := by decide +kernel
theorem dX5_roadOf_45 : decode cX5_roadOf 45 = .ok (.iload 4, 2) := by decide +kernel
theorem dX5_roadOf_47 : decode cX5_roadOf 47 = .ok (.if_icmp .eq 16, 3) := by decide +kernel
theorem dX5_roadOf_50 : decode cX5_roadOf 50 = .ok (.iload 6, 2) := by decide +kernel
theorem dX5_roadOf_52 : decode cX5_roadOf 52 = .ok (.iload 4, 2) := by decide +kernel
theorem dX5_roadOf_54 : decode cX5_roadOf 54 = .ok (.if_icmp .ne 12, 3) := by decide +kernel
theorem dX5_roadOf_57 : decode cX5_roadOf 57 = .ok (.iload 7, 2) := by decide +kernel
theorem dX5_roadOf_59 : decode cX5_roadOf 59 = .ok (.iload_n 3, 1) := by decide +kernel
theorem dX5_roadOf_60 : decode cX5_roadOf 60 = .ok (.if_icmp .ne 6, 3) := by decide +kernel
theorem dX5_roadOf_63 : decode cX5_roadOf 63 = .ok (.iload 5, 2) := by decide +kernel
theorem dX5_roadOf_65 : decode cX5_roadOf 65 = .ok (.ireturn, 1) := by decide +kernel
theorem dX5_roadOf_66 : decode cX5_roadOf 66 = .ok (.iinc 5 1, 3) := by decide +kernel
theorem dX5_roadOf_69 : decode cX5_roadOf 69 = .ok (.goto (-66), 3) := by decide +kernel
theorem dX5_roadOf_72 : decode cX5_roadOf 72 = .ok (.bipush (-9), 2) := by decide +kernel
theorem dX5_roadOf_74 : decode cX5_roadOf 74 = .ok (.ireturn, 1) := by decide +kernel
set_option maxRecDepth 20000 in
theorem ggX5_readsItem_X5_number : GoodIn wsX5_readsItem wsX5_number := goodIn_r _ [14, 4, 5, 15, 16, 13, 17, 18, 19, 20, 21, 22, 23, 24, 25, 26, 27, 28, 29, 30, 31, 32, 33, 34, 35, 36, 37, 38, 39, 40, 41, 42, 43, 44, 45, 46, 47, 52, 53, 54, 55, 56, 57, 58, 59, 60, 61, 62, 63, 64, 65, 66, 67, 68, 69, 70, 71, 72, 73, 74, 75, 76, 77, 78, 79, 80, 81, 82] (by decide +kernel) (by decide +kernel)
set_option maxRecDepth 20000 in
theorem gX5_readsItem_X5_number : GoodIn wsX5_readsItem (wsV RX5 113 RX5 yX5_number wsX5_number) := goodIn_app (goodIn_of _ (by decide +kernel)) ggX5_readsItem_X5_number
set_option maxRecDepth 20000 in
theorem ggX5_readsItem_X5_in : GoodIn wsX5_readsItem wsX5_in := goodIn_r _ [17] (by decide +kernel) (by decide +kernel)
set_option maxRecDepth 20000 in
theorem gX5_readsItem_X5_in : GoodIn wsX5_readsItem (va_wsS RX5 57 yX5_in wsX5_in) := goodIn_app (goodIn_of _ (by decide +kernel)) ggX5_readsItem_X5_in
set_option maxRecDepth 20000 in
theorem ggX5_readsItem_X5_takes : GoodIn wsX5_readsItem wsX5_takes := goodIn_r _ [21, 22, 23, 5, 24, 25, 26, 13, 27, 28, 29, 30, 31, 32, 4, 33, 34, 35, 36, 37, 38, 39, 15, 16, 17, 40, 41, 42, 43, 44, 45, 46, 47, 52, 53, 54, 55, 56, 57, 58, 59, 60, 61, 62, 63, 64, 65, 66, 67, 68, 69, 70, 71, 72, 73, 74, 75, 76, 77, 78, 79, 80, 81, 82] (by decide +kernel) (by decide +kernel)
set_option maxRecDepth 20000 in
theorem gX5_readsItem_X5_takes : GoodIn wsX5_readsItem (wsV RX5 106 RX5 yX5_takes wsX5_takes) := goodIn_app (goodIn_of _ (by decide +kernel)) ggX5_readsItem_X5_takes
set_option maxRecDepth 20000 in
theorem ggX5_readsItem_X5_roadOf : GoodIn wsX5_readsItem wsX5_roadOf := goodIn_r _ [51, 6, 52, 53, 54, 55, 56, 57, 58, 59, 60, 61, 62, 63, 64, 65, 66, 67, 68, 69, 70, 71, 72, 73, 74, 75, 76, 77, 78, 79, 80, 81, 82] (by decide +kernel) (by decide +kernel)
set_option maxRecDepth 20000 in
theorem gX5_readsItem_X5_roadOf : GoodIn wsX5_readsItem (wsV RX5 123 RX5 yX5_roadOf wsX5_roadOf) := goodIn_app (goodIn_of _ (by decide +kernel)) ggX5_readsItem_X5_roadOf
theorem dX5_readsItem_0 : decode cX5_readsItem 0 = .ok (.iload_n 1, 1) := by decide +kernel
theorem dX5_readsItem_1 : decode cX5_readsItem 1 = .ok (.ifCond .ne 35, 3) := by decide +kernel
theorem dX5_readsItem_4 : decode cX5_readsItem 4 = .ok (.aload_n 0, 1) := by decide +kernel
theorem dX5_readsItem_5 : decode cX5_readsItem 5 = .ok (.getfield 13, 3) := by decide +kernel
theorem dX5_readsItem_8 : decode cX5_readsItem 8 = .ok (.bipush 6, 2) := by decide +kernel
theorem dX5_readsItem_10 : decode cX5_readsItem 10 = .ok (.aload_n 0, 1) := by decide +kernel
theorem dX5_readsItem_11 : decode cX5_readsItem 11 = .ok (.getfield 110, 3) := by decide +kernel
theorem dX5_readsItem_14 : decode cX5_readsItem 14 = .ok (.iadd, 1) := by decide +kernel
theorem dX5_readsItem_15 : decode cX5_readsItem 15 = .ok (.aload_n 0, 1) := by decide +kernel
theorem dX5_readsItem_16 : decode cX5_readsItem 16 = .ok (.iconst 0, 1) := by decide +kernel
theorem dX5_readsItem_17 : decode cX5_readsItem 17 = .ok (.bipush 99, 2) := by decide +kernel
theorem dX5_readsItem_19 : decode cX5_readsItem 19 = .ok (.invokevirtual 113, 3) := by decide +kernel
theorem dX5_readsItem_22 : decode cX5_readsItem 22 = .ok (.iastore, 1) := by decide +kernel
theorem dX5_readsItem_23 : decode cX5_readsItem 23 = .ok (.aload_n 0, 1) := by decide +kernel
theorem dX5_readsItem_24 : decode cX5_readsItem 24 = .ok (.dup, 1) := by decide +kernel
theorem dX5_readsItem_25 : decode cX5_readsItem 25 = .ok (.getfield 110, 3) := by decide +kernel
theorem dX5_readsItem_28 : decode cX5_readsItem 28 = .ok (.iconst 1, 1) := by decide +kernel
theorem dX5_readsItem_29 : decode cX5_readsItem 29 = .ok (.iadd, 1) := by decide +kernel
theorem dX5_readsItem_30 : decode cX5_readsItem 30 = .ok (.putfield 110, 3) := by decide +kernel
theorem dX5_readsItem_33 : decode cX5_readsItem 33 = .ok (.goto 238, 3) := by decide +kernel
theorem dX5_readsItem_36 : decode cX5_readsItem 36 = .ok (.iload_n 1, 1) := by decide +kernel
theorem dX5_readsItem_37 : decode cX5_readsItem 37 = .ok (.iconst 1, 1) := by decide +kernel
theorem dX5_readsItem_38 : decode cX5_readsItem 38 = .ok (.if_icmp .ne 118, 3) := by decide +kernel
theorem dX5_readsItem_41 : decode cX5_readsItem 41 = .ok (.bipush 30, 2) := by decide +kernel
theorem dX5_readsItem_43 : decode cX5_readsItem 43 = .ok (.iconst 3, 1) := by decide +kernel
theorem dX5_readsItem_44 : decode cX5_readsItem 44 = .ok (.aload_n 0, 1) := by decide +kernel
theorem dX5_readsItem_45 : decode cX5_readsItem 45 = .ok (.getfield 117, 3) := by decide +kernel
theorem dX5_readsItem_48 : decode cX5_readsItem 48 = .ok (.imul, 1) := by decide +kernel
theorem dX5_readsItem_49 : decode cX5_readsItem 49 = .ok (.iadd, 1) := by decide +kernel
theorem dX5_readsItem_50 : decode cX5_readsItem 50 = .ok (.istore_n 2, 1) := by decide +kernel
theorem dX5_readsItem_51 : decode cX5_readsItem 51 = .ok (.aload_n 0, 1) := by decide +kernel
theorem dX5_readsItem_52 : decode cX5_readsItem 52 = .ok (.iconst 0, 1) := by decide +kernel
theorem dX5_readsItem_53 : decode cX5_readsItem 53 = .ok (.aload_n 0, 1) := by decide +kernel
theorem dX5_readsItem_54 : decode cX5_readsItem 54 = .ok (.getfield 110, 3) := by decide +kernel
theorem dX5_readsItem_57 : decode cX5_readsItem 57 = .ok (.iconst 1, 1) := by decide +kernel
theorem dX5_readsItem_58 : decode cX5_readsItem 58 = .ok (.isub, 1) := by decide +kernel
theorem dX5_readsItem_59 : decode cX5_readsItem 59 = .ok (.invokevirtual 113, 3) := by decide +kernel
theorem dX5_readsItem_62 : decode cX5_readsItem 62 = .ok (.istore_n 3, 1) := by decide +kernel
theorem dX5_readsItem_63 : decode cX5_readsItem 63 = .ok (.aload_n 0, 1) := by decide +kernel
theorem dX5_readsItem_64 : decode cX5_readsItem 64 = .ok (.aload_n 0, 1) := by decide +kernel
theorem dX5_readsItem_65 : decode cX5_readsItem 65 = .ok (.getfield 86, 3) := by decide +kernel
theorem dX5_readsItem_68 : decode cX5_readsItem 68 = .ok (.iconst 2, 1) := by decide +kernel
theorem dX5_readsItem_69 : decode cX5_readsItem 69 = .ok (.if_icmp .ne 32, 3) := by decide +kernel
theorem dX5_readsItem_72 : decode cX5_readsItem 72 = .ok (.aload_n 0, 1) := by decide +kernel
theorem dX5_readsItem_73 : decode cX5_readsItem 73 = .ok (.getfield 93, 3) := by decide +kernel
theorem dX5_readsItem_76 : decode cX5_readsItem 76 = .ok (.iconst 0, 1) := by decide +kernel
theorem dX5_readsItem_77 : decode cX5_readsItem 77 = .ok (.aload_n 0, 1) := by decide +kernel
theorem dX5_readsItem_78 : decode cX5_readsItem 78 = .ok (.getfield 110, 3) := by decide +kernel
theorem dX5_readsItem_81 : decode cX5_readsItem 81 = .ok (.iconst 1, 1) := by decide +kernel
theorem dX5_readsItem_82 : decode cX5_readsItem 82 = .ok (.isub, 1) := by decide +kernel
theorem dX5_readsItem_83 : decode cX5_readsItem 83 = .ok (.invokestatic 57, 3) := by decide +kernel
theorem dX5_readsItem_86 : decode cX5_readsItem 86 = .ok (.ifCond .eq 15, 3) := by decide +kernel
theorem dX5_readsItem_89 : decode cX5_readsItem 89 = .ok (.aload_n 0, 1) := by decide +kernel
theorem dX5_readsItem_90 : decode cX5_readsItem 90 = .ok (.getfield 93, 3) := by decide +kernel
theorem dX5_readsItem_93 : decode cX5_readsItem 93 = .ok (.iload_n 3, 1) := by decide +kernel
theorem dX5_readsItem_94 : decode cX5_readsItem 94 = .ok (.if_icmp .eq 7, 3) := by decide +kernel
theorem dX5_readsItem_97 : decode cX5_readsItem 97 = .ok (.iconst 1, 1) := by decide +kernel
theorem dX5_readsItem_98 : decode cX5_readsItem 98 = .ok (.goto 4, 3) := by decide +kernel
theorem dX5_readsItem_101 : decode cX5_readsItem 101 = .ok (.iconst 0, 1) := by decide +kernel
theorem dX5_readsItem_102 : decode cX5_readsItem 102 = .ok (.invokevirtual 106, 3) := by decide +kernel
theorem dX5_readsItem_105 : decode cX5_readsItem 105 = .ok (.istore 4, 2) := by decide +kernel
theorem dX5_readsItem_107 : decode cX5_readsItem 107 = .ok (.aload_n 0, 1) := by decide +kernel
theorem dX5_readsItem_108 : decode cX5_readsItem 108 = .ok (.iconst 1, 1) := by decide +kernel
theorem dX5_readsItem_109 : decode cX5_readsItem 109 = .ok (.bipush 30, 2) := by decide +kernel
theorem dX5_readsItem_111 : decode cX5_readsItem 111 = .ok (.invokevirtual 113, 3) := by decide +kernel
theorem dX5_readsItem_114 : decode cX5_readsItem 114 = .ok (.istore 5, 2) := by decide +kernel
theorem dX5_readsItem_116 : decode cX5_readsItem 116 = .ok (.aload_n 0, 1) := by decide +kernel
theorem dX5_readsItem_117 : decode cX5_readsItem 117 = .ok (.getfield 16, 3) := by decide +kernel
theorem dX5_readsItem_120 : decode cX5_readsItem 120 = .ok (.iload_n 2, 1) := by decide +kernel
theorem dX5_readsItem_121 : decode cX5_readsItem 121 = .ok (.iload_n 3, 1) := by decide +kernel
theorem dX5_readsItem_122 : decode cX5_readsItem 122 = .ok (.iastore, 1) := by decide +kernel
theorem dX5_readsItem_123 : decode cX5_readsItem 123 = .ok (.aload_n 0, 1) := by decide +kernel
theorem dX5_readsItem_124 : decode cX5_readsItem 124 = .ok (.getfield 16, 3) := by decide +kernel
theorem dX5_readsItem_127 : decode cX5_readsItem 127 = .ok (.iload_n 2, 1) := by decide +kernel
theorem dX5_readsItem_128 : decode cX5_readsItem 128 = .ok (.iconst 1, 1) := by decide +kernel
theorem dX5_readsItem_129 : decode cX5_readsItem 129 = .ok (.iadd, 1) := by decide +kernel
theorem dX5_readsItem_130 : decode cX5_readsItem 130 = .ok (.iload 4, 2) := by decide +kernel
theorem dX5_readsItem_132 : decode cX5_readsItem 132 = .ok (.iastore, 1) := by decide +kernel
theorem dX5_readsItem_133 : decode cX5_readsItem 133 = .ok (.aload_n 0, 1) := by decide +kernel
theorem dX5_readsItem_134 : decode cX5_readsItem 134 = .ok (.getfield 16, 3) := by decide +kernel
theorem dX5_readsItem_137 : decode cX5_readsItem 137 = .ok (.iload_n 2, 1) := by decide +kernel
theorem dX5_readsItem_138 : decode cX5_readsItem 138 = .ok (.iconst 2, 1) := by decide +kernel
theorem dX5_readsItem_139 : decode cX5_readsItem 139 = .ok (.iadd, 1) := by decide +kernel
theorem dX5_readsItem_140 : decode cX5_readsItem 140 = .ok (.iload 5, 2) := by decide +kernel
theorem dX5_readsItem_142 : decode cX5_readsItem 142 = .ok (.iastore, 1) := by decide +kernel
theorem dX5_readsItem_143 : decode cX5_readsItem 143 = .ok (.aload_n 0, 1) := by decide +kernel
theorem dX5_readsItem_144 : decode cX5_readsItem 144 = .ok (.dup, 1) := by decide +kernel
theorem dX5_readsItem_145 : decode cX5_readsItem 145 = .ok (.getfield 117, 3) := by decide +kernel
theorem dX5_readsItem_148 : decode cX5_readsItem 148 = .ok (.iconst 1, 1) := by decide +kernel
theorem dX5_readsItem_149 : decode cX5_readsItem 149 = .ok (.iadd, 1) := by decide +kernel
theorem dX5_readsItem_150 : decode cX5_readsItem 150 = .ok (.putfield 117, 3) := by decide +kernel
theorem dX5_readsItem_153 : decode cX5_readsItem 153 = .ok (.goto 118, 3) := by decide +kernel
theorem dX5_readsItem_156 : decode cX5_readsItem 156 = .ok (.aload_n 0, 1) := by decide +kernel
theorem dX5_readsItem_157 : decode cX5_readsItem 157 = .ok (.getfield 86, 3) := by decide +kernel
theorem dX5_readsItem_160 : decode cX5_readsItem 160 = .ok (.iconst 2, 1) := by decide +kernel
theorem dX5_readsItem_161 : decode cX5_readsItem 161 = .ok (.if_icmp .ne 62, 3) := by decide +kernel
theorem dX5_readsItem_164 : decode cX5_readsItem 164 = .ok (.aload_n 0, 1) := by decide +kernel
theorem dX5_readsItem_165 : decode cX5_readsItem 165 = .ok (.getfield 93, 3) := by decide +kernel
theorem dX5_readsItem_168 : decode cX5_readsItem 168 = .ok (.iconst 0, 1) := by decide +kernel
theorem dX5_readsItem_169 : decode cX5_readsItem 169 = .ok (.aload_n 0, 1) := by decide +kernel
theorem dX5_readsItem_170 : decode cX5_readsItem 170 = .ok (.getfield 110, 3) := by decide +kernel
theorem dX5_readsItem_173 : decode cX5_readsItem 173 = .ok (.iconst 1, 1) := by decide +kernel
theorem dX5_readsItem_174 : decode cX5_readsItem 174 = .ok (.isub, 1) := by decide +kernel
theorem dX5_readsItem_175 : decode cX5_readsItem 175 = .ok (.invokestatic 57, 3) := by decide +kernel
theorem dX5_readsItem_178 : decode cX5_readsItem 178 = .ok (.ifCond .eq 45, 3) := by decide +kernel
theorem dX5_readsItem_181 : decode cX5_readsItem 181 = .ok (.aload_n 0, 1) := by decide +kernel
theorem dX5_readsItem_182 : decode cX5_readsItem 182 = .ok (.getfield 120, 3) := by decide +kernel
theorem dX5_readsItem_185 : decode cX5_readsItem 185 = .ok (.ifCond .eq 34, 3) := by decide +kernel
theorem dX5_readsItem_188 : decode cX5_readsItem 188 = .ok (.aload_n 0, 1) := by decide +kernel
theorem dX5_readsItem_189 : decode cX5_readsItem 189 = .ok (.bipush 30, 2) := by decide +kernel
theorem dX5_readsItem_191 : decode cX5_readsItem 191 = .ok (.aload_n 0, 1) := by decide +kernel
theorem dX5_readsItem_192 : decode cX5_readsItem 192 = .ok (.getfield 117, 3) := by decide +kernel
theorem dX5_readsItem_195 : decode cX5_readsItem 195 = .ok (.aload_n 0, 1) := by decide +kernel
theorem dX5_readsItem_196 : decode cX5_readsItem 196 = .ok (.getfield 19, 3) := by decide +kernel
theorem dX5_readsItem_199 : decode cX5_readsItem 199 = .ok (.bipush 9, 2) := by decide +kernel
theorem dX5_readsItem_201 : decode cX5_readsItem 201 = .ok (.aload_n 0, 1) := by decide +kernel
theorem dX5_readsItem_202 : decode cX5_readsItem 202 = .ok (.getfield 120, 3) := by decide +kernel
theorem dX5_readsItem_205 : decode cX5_readsItem 205 = .ok (.iadd, 1) := by decide +kernel
theorem dX5_readsItem_206 : decode cX5_readsItem 206 = .ok (.iaload, 1) := by decide +kernel
theorem dX5_readsItem_207 : decode cX5_readsItem 207 = .ok (.aload_n 0, 1) := by decide +kernel
theorem dX5_readsItem_208 : decode cX5_readsItem 208 = .ok (.getfield 93, 3) := by decide +kernel
theorem dX5_readsItem_211 : decode cX5_readsItem 211 = .ok (.invokevirtual 123, 3) := by decide +kernel
theorem dX5_readsItem_214 : decode cX5_readsItem 214 = .ok (.bipush (-9), 2) := by decide +kernel
theorem dX5_readsItem_216 : decode cX5_readsItem 216 = .ok (.if_icmp .eq 7, 3) := by decide +kernel
theorem dX5_readsItem_219 : decode cX5_readsItem 219 = .ok (.iconst 1, 1) := by decide +kernel
theorem dX5_readsItem_220 : decode cX5_readsItem 220 = .ok (.goto 4, 3) := by decide +kernel
theorem dX5_readsItem_223 : decode cX5_readsItem 223 = .ok (.iconst 0, 1) := by decide +kernel
theorem dX5_readsItem_224 : decode cX5_readsItem 224 = .ok (.istore_n 2, 1) := by decide +kernel
theorem dX5_readsItem_225 : decode cX5_readsItem 225 = .ok (.aload_n 0, 1) := by decide +kernel
theorem dX5_readsItem_226 : decode cX5_readsItem 226 = .ok (.getfield 19, 3) := by decide +kernel
theorem dX5_readsItem_229 : decode cX5_readsItem 229 = .ok (.bipush 10, 2) := by decide +kernel
theorem dX5_readsItem_231 : decode cX5_readsItem 231 = .ok (.aload_n 0, 1) := by decide +kernel
theorem dX5_readsItem_232 : decode cX5_readsItem 232 = .ok (.getfield 120, 3) := by decide +kernel
theorem dX5_readsItem_235 : decode cX5_readsItem 235 = .ok (.iadd, 1) := by decide +kernel
theorem dX5_readsItem_236 : decode cX5_readsItem 236 = .ok (.aload_n 0, 1) := by decide +kernel
theorem dX5_readsItem_237 : decode cX5_readsItem 237 = .ok (.iload_n 2, 1) := by decide +kernel
theorem dX5_readsItem_238 : decode cX5_readsItem 238 = .ok (.invokevirtual 106, 3) := by decide +kernel
theorem dX5_readsItem_241 : decode cX5_readsItem 241 = .ok (.iastore, 1) := by decide +kernel
theorem dX5_readsItem_242 : decode cX5_readsItem 242 = .ok (.aload_n 0, 1) := by decide +kernel
theorem dX5_readsItem_243 : decode cX5_readsItem 243 = .ok (.getfield 22, 3) := by decide +kernel
theorem dX5_readsItem_246 : decode cX5_readsItem 246 = .ok (.bipush 10, 2) := by decide +kernel
theorem dX5_readsItem_248 : decode cX5_readsItem 248 = .ok (.aload_n 0, 1) := by decide +kernel
theorem dX5_readsItem_249 : decode cX5_readsItem 249 = .ok (.getfield 120, 3) := by decide +kernel
theorem dX5_readsItem_252 : decode cX5_readsItem 252 = .ok (.iadd, 1) := by decide +kernel
theorem dX5_readsItem_253 : decode cX5_readsItem 253 = .ok (.aload_n 0, 1) := by decide +kernel
theorem dX5_readsItem_254 : decode cX5_readsItem 254 = .ok (.iconst 0, 1) := by decide +kernel
theorem dX5_readsItem_255 : decode cX5_readsItem 255 = .ok (.bipush 9, 2) := by decide +kernel
theorem dX5_readsItem_257 : decode cX5_readsItem 257 = .ok (.invokevirtual 113, 3) := by decide +kernel
theorem dX5_readsItem_260 : decode cX5_readsItem 260 = .ok (.iastore, 1) := by decide +kernel
theorem dX5_readsItem_261 : decode cX5_readsItem 261 = .ok (.aload_n 0, 1) := by decide +kernel
theorem dX5_readsItem_262 : decode cX5_readsItem 262 = .ok (.dup, 1) := by decide +kernel
theorem dX5_readsItem_263 : decode cX5_readsItem 263 = .ok (.getfield 120, 3) := by decide +kernel
theorem dX5_readsItem_266 : decode cX5_readsItem 266 = .ok (.iconst 1, 1) := by decide +kernel
theorem dX5_readsItem_267 : decode cX5_readsItem 267 = .ok (.iadd, 1) := by decide +kernel
theorem dX5_readsItem_268 : decode cX5_readsItem 268 = .ok (.putfield 120, 3) := by decide +kernel
theorem dX5_readsItem_271 : decode cX5_readsItem 271 = .ok (.return_, 1) := by decide +kernel
set_option maxRecDepth 20000 in
theorem ggX5_land_X5_advances : GoodIn wsX5_land wsX5_advances := goodIn_r _ [23, 3, 24, 7, 25, 8, 26, 27, 28, 22, 29, 16, 30, 31, 32, 33, 34, 35, 36, 37, 38, 39, 40, 41, 73, 74, 75, 76, 77, 78, 79, 80, 81, 82, 83, 84, 85, 86, 87, 88, 89, 90, 91, 92, 93, 94, 95, 96, 97, 98, 99, 100, 101, 102, 103] (by decide +kernel) (by decide +kernel)
set_option maxRecDepth 20000 in
theorem gX5_land_X5_advances : GoodIn wsX5_land (wsV RX5 103 RX5 yX5_advances wsX5_advances) := goodIn_app (goodIn_of _ (by decide +kernel)) ggX5_land_X5_advances
set_option maxRecDepth 20000 in
theorem ggX5_land_X5_isWell : GoodIn wsX5_land wsX5_isWell := goodIn_r _ [45, 2, 73, 74, 75, 76, 77, 78, 79, 80, 81, 82, 83, 84, 85, 86, 87, 88, 89, 90, 91, 92, 93, 94, 95, 96, 97, 98, 99, 100, 101, 102, 103] (by decide +kernel) (by decide +kernel)
set_option maxRecDepth 20000 in
theorem gX5_land_X5_isWell : GoodIn wsX5_land (wsV RX5 99 RX5 yX5_isWell wsX5_isWell) := goodIn_app (goodIn_of _ (by decide +kernel)) ggX5_land_X5_isWell
set_option maxRecDepth 20000 in
theorem ggX5_land_X5_takes : GoodIn wsX5_land wsX5_takes := goodIn_r _ [49, 24, 2, 8, 42, 43, 44, 22, 45, 19, 20, 21, 23, 3, 7, 25, 26, 27, 28, 29, 16, 30, 31, 32, 33, 34, 35, 36, 37, 38, 39, 40, 41, 73, 74, 75, 76, 77, 78, 79, 80, 81, 82, 83, 84, 85, 86, 87, 88, 89, 90, 91, 92, 93, 94, 95, 96, 97, 98, 99, 100, 101, 102, 103] (by decide +kernel) (by decide +kernel)
set_option maxRecDepth 20000 in
theorem gX5_land_X5_takes : GoodIn wsX5_land (wsV RX5 106 RX5 yX5_takes wsX5_takes) := goodIn_app (goodIn_of _ (by decide +kernel)) ggX5_land_X5_takes
set_option maxRecDepth 20000 in
theorem ggX5_land_X5_readsItem : GoodIn wsX5_land wsX5_readsItem := goodIn_r _ [53, 12, 4, 5, 7, 8, 13, 6, 14, 15, 54, 55, 56, 22, 57, 31, 32, 33, 46, 47, 48, 49, 24, 2, 42, 43, 44, 45, 19, 20, 21, 23, 3, 25, 26, 27, 28, 29, 16, 30, 34, 35, 36, 37, 38, 39, 40, 41, 58, 59, 60, 61, 73, 74, 75, 76, 77, 78, 79, 80, 81, 82, 83, 84, 85, 86, 87, 88, 89, 90, 91, 92, 93, 94, 95, 96, 97, 98, 99, 100, 101, 102, 103] (by decide +kernel) (by decide +kernel)
set_option maxRecDepth 20000 in
theorem gX5_land_X5_readsItem : GoodIn wsX5_land (wsV RX5 127 RX5 yX5_readsItem wsX5_readsItem) := goodIn_app (goodIn_of _ (by decide +kernel)) ggX5_land_X5_readsItem
set_option maxRecDepth 20000 in
theorem ggX5_land_X5_reckons : GoodIn wsX5_land wsX5_reckons := goodIn_r _ [65, 66, 67, 10, 13, 11, 68, 14, 69, 15, 70, 71, 22, 72, 58, 59, 60, 61, 73, 74, 75, 76, 77, 78, 79, 80, 81, 82, 83, 84, 85, 86, 87, 88, 89, 90, 91, 92, 93, 94, 95, 96, 97, 98, 99, 100, 101, 102, 103] (by decide +kernel) (by decide +kernel)
set_option maxRecDepth 20000 in
theorem gX5_land_X5_reckons : GoodIn wsX5_land (wsV RX5 50 RX5 yX5_reckons wsX5_reckons) := goodIn_app (goodIn_of _ (by decide +kernel)) ggX5_land_X5_reckons
theorem dX5_land_0 : decode cX5_land 0 = .ok (.aload_n 0, 1) := by decide +kernel
theorem dX5_land_1 : decode cX5_land 1 = .ok (.iconst 0, 1) := by decide +kernel
theorem dX5_land_2 : decode cX5_land 2 = .ok (.putfield 53, 3) := by decide +kernel
theorem dX5_land_5 : decode cX5_land 5 = .ok (.aload_n 0, 1) := by decide +kernel
theorem dX5_land_6 : decode cX5_land 6 = .ok (.iconst (-1), 1) := by decide +kernel
theorem dX5_land_7 : decode cX5_land 7 = .ok (.putfield 96, 3) := by decide +kernel
theorem dX5_land_10 : decode cX5_land 10 = .ok (.aload_n 0, 1) := by decide +kernel
theorem dX5_land_11 : decode cX5_land 11 = .ok (.iconst 0, 1) := by decide +kernel
theorem dX5_land_12 : decode cX5_land 12 = .ok (.putfield 76, 3) := by decide +kernel
theorem dX5_land_15 : decode cX5_land 15 = .ok (.iconst 0, 1) := by decide +kernel
theorem dX5_land_16 : decode cX5_land 16 = .ok (.istore_n 1, 1) := by decide +kernel
theorem dX5_land_17 : decode cX5_land 17 = .ok (.aload_n 0, 1) := by decide +kernel
theorem dX5_land_18 : decode cX5_land 18 = .ok (.iconst 0, 1) := by decide +kernel
theorem dX5_land_19 : decode cX5_land 19 = .ok (.putfield 110, 3) := by decide +kernel
theorem dX5_land_22 : decode cX5_land 22 = .ok (.aload_n 0, 1) := by decide +kernel
theorem dX5_land_23 : decode cX5_land 23 = .ok (.iconst 0, 1) := by decide +kernel
theorem dX5_land_24 : decode cX5_land 24 = .ok (.putfield 117, 3) := by decide +kernel
theorem dX5_land_27 : decode cX5_land 27 = .ok (.aload_n 0, 1) := by decide +kernel
theorem dX5_land_28 : decode cX5_land 28 = .ok (.iconst 0, 1) := by decide +kernel
theorem dX5_land_29 : decode cX5_land 29 = .ok (.putfield 120, 3) := by decide +kernel
theorem dX5_land_32 : decode cX5_land 32 = .ok (.aload_n 0, 1) := by decide +kernel
theorem dX5_land_33 : decode cX5_land 33 = .ok (.invokevirtual 103, 3) := by decide +kernel
theorem dX5_land_36 : decode cX5_land 36 = .ok (.aload_n 0, 1) := by decide +kernel
theorem dX5_land_37 : decode cX5_land 37 = .ok (.invokevirtual 99, 3) := by decide +kernel
theorem dX5_land_40 : decode cX5_land 40 = .ok (.ifCond .eq 132, 3) := by decide +kernel
theorem dX5_land_43 : decode cX5_land 43 = .ok (.aload_n 0, 1) := by decide +kernel
theorem dX5_land_44 : decode cX5_land 44 = .ok (.getfield 86, 3) := by decide +kernel
theorem dX5_land_47 : decode cX5_land 47 = .ok (.ifCond .eq 125, 3) := by decide +kernel
theorem dX5_land_50 : decode cX5_land 50 = .ok (.aload_n 0, 1) := by decide +kernel
theorem dX5_land_51 : decode cX5_land 51 = .ok (.getfield 93, 3) := by decide +kernel
theorem dX5_land_54 : decode cX5_land 54 = .ok (.ifCond .ne 20, 3) := by decide +kernel
theorem dX5_land_57 : decode cX5_land 57 = .ok (.aload_n 0, 1) := by decide +kernel
theorem dX5_land_58 : decode cX5_land 58 = .ok (.getfield 110, 3) := by decide +kernel
theorem dX5_land_61 : decode cX5_land 61 = .ok (.bipush 6, 2) := by decide +kernel
theorem dX5_land_63 : decode cX5_land 63 = .ok (.if_icmp .ge 7, 3) := by decide +kernel
theorem dX5_land_66 : decode cX5_land 66 = .ok (.iconst 1, 1) := by decide +kernel
theorem dX5_land_67 : decode cX5_land 67 = .ok (.goto 46, 3) := by decide +kernel
theorem dX5_land_70 : decode cX5_land 70 = .ok (.iconst 0, 1) := by decide +kernel
theorem dX5_land_71 : decode cX5_land 71 = .ok (.goto 42, 3) := by decide +kernel
theorem dX5_land_74 : decode cX5_land 74 = .ok (.aload_n 0, 1) := by decide +kernel
theorem dX5_land_75 : decode cX5_land 75 = .ok (.getfield 93, 3) := by decide +kernel
theorem dX5_land_78 : decode cX5_land 78 = .ok (.iconst 1, 1) := by decide +kernel
theorem dX5_land_79 : decode cX5_land 79 = .ok (.if_icmp .ne 20, 3) := by decide +kernel
theorem dX5_land_82 : decode cX5_land 82 = .ok (.aload_n 0, 1) := by decide +kernel
theorem dX5_land_83 : decode cX5_land 83 = .ok (.getfield 117, 3) := by decide +kernel
theorem dX5_land_86 : decode cX5_land 86 = .ok (.bipush 10, 2) := by decide +kernel
theorem dX5_land_88 : decode cX5_land 88 = .ok (.if_icmp .ge 7, 3) := by decide +kernel
theorem dX5_land_91 : decode cX5_land 91 = .ok (.iconst 1, 1) := by decide +kernel
theorem dX5_land_92 : decode cX5_land 92 = .ok (.goto 21, 3) := by decide +kernel
theorem dX5_land_95 : decode cX5_land 95 = .ok (.iconst 0, 1) := by decide +kernel
theorem dX5_land_96 : decode cX5_land 96 = .ok (.goto 17, 3) := by decide +kernel
theorem dX5_land_99 : decode cX5_land 99 = .ok (.aload_n 0, 1) := by decide +kernel
theorem dX5_land_100 : decode cX5_land 100 = .ok (.getfield 120, 3) := by decide +kernel
theorem dX5_land_103 : decode cX5_land 103 = .ok (.bipush 10, 2) := by decide +kernel
theorem dX5_land_105 : decode cX5_land 105 = .ok (.if_icmp .ge 7, 3) := by decide +kernel
theorem dX5_land_108 : decode cX5_land 108 = .ok (.iconst 1, 1) := by decide +kernel
theorem dX5_land_109 : decode cX5_land 109 = .ok (.goto 4, 3) := by decide +kernel
theorem dX5_land_112 : decode cX5_land 112 = .ok (.iconst 0, 1) := by decide +kernel
theorem dX5_land_113 : decode cX5_land 113 = .ok (.istore_n 2, 1) := by decide +kernel
theorem dX5_land_114 : decode cX5_land 114 = .ok (.aload_n 0, 1) := by decide +kernel
theorem dX5_land_115 : decode cX5_land 115 = .ok (.aload_n 0, 1) := by decide +kernel
theorem dX5_land_116 : decode cX5_land 116 = .ok (.getfield 86, 3) := by decide +kernel
theorem dX5_land_119 : decode cX5_land 119 = .ok (.iconst 1, 1) := by decide +kernel
theorem dX5_land_120 : decode cX5_land 120 = .ok (.if_icmp .ne 11, 3) := by decide +kernel
theorem dX5_land_123 : decode cX5_land 123 = .ok (.iload_n 2, 1) := by decide +kernel
theorem dX5_land_124 : decode cX5_land 124 = .ok (.ifCond .eq 7, 3) := by decide +kernel
theorem dX5_land_127 : decode cX5_land 127 = .ok (.iconst 1, 1) := by decide +kernel
theorem dX5_land_128 : decode cX5_land 128 = .ok (.goto 4, 3) := by decide +kernel
theorem dX5_land_131 : decode cX5_land 131 = .ok (.iconst 0, 1) := by decide +kernel
theorem dX5_land_132 : decode cX5_land 132 = .ok (.invokevirtual 106, 3) := by decide +kernel
theorem dX5_land_135 : decode cX5_land 135 = .ok (.istore_n 3, 1) := by decide +kernel
theorem dX5_land_136 : decode cX5_land 136 = .ok (.aload_n 0, 1) := by decide +kernel
theorem dX5_land_137 : decode cX5_land 137 = .ok (.invokevirtual 99, 3) := by decide +kernel
theorem dX5_land_140 : decode cX5_land 140 = .ok (.ifCond .eq 8, 3) := by decide +kernel
theorem dX5_land_143 : decode cX5_land 143 = .ok (.aload_n 0, 1) := by decide +kernel
theorem dX5_land_144 : decode cX5_land 144 = .ok (.iload_n 3, 1) := by decide +kernel
theorem dX5_land_145 : decode cX5_land 145 = .ok (.invokevirtual 127, 3) := by decide +kernel
theorem dX5_land_148 : decode cX5_land 148 = .ok (.aload_n 0, 1) := by decide +kernel
theorem dX5_land_149 : decode cX5_land 149 = .ok (.aload_n 0, 1) := by decide +kernel
theorem dX5_land_150 : decode cX5_land 150 = .ok (.getfield 86, 3) := by decide +kernel
theorem dX5_land_153 : decode cX5_land 153 = .ok (.iconst 3, 1) := by decide +kernel
theorem dX5_land_154 : decode cX5_land 154 = .ok (.if_icmp .ne 7, 3) := by decide +kernel
theorem dX5_land_157 : decode cX5_land 157 = .ok (.iconst 1, 1) := by decide +kernel
theorem dX5_land_158 : decode cX5_land 158 = .ok (.goto 4, 3) := by decide +kernel
theorem dX5_land_161 : decode cX5_land 161 = .ok (.iconst 0, 1) := by decide +kernel
theorem dX5_land_162 : decode cX5_land 162 = .ok (.invokevirtual 106, 3) := by decide +kernel
theorem dX5_land_165 : decode cX5_land 165 = .ok (.pop, 1) := by decide +kernel
theorem dX5_land_166 : decode cX5_land 166 = .ok (.iinc 1 1, 3) := by decide +kernel
theorem dX5_land_169 : decode cX5_land 169 = .ok (.goto (-133), 3) := by decide +kernel
theorem dX5_land_172 : decode cX5_land 172 = .ok (.aload_n 0, 1) := by decide +kernel
theorem dX5_land_173 : decode cX5_land 173 = .ok (.invokevirtual 99, 3) := by decide +kernel
theorem dX5_land_176 : decode cX5_land 176 = .ok (.ifCond .ne 11, 3) := by decide +kernel
theorem dX5_land_179 : decode cX5_land 179 = .ok (.bipush (-10), 2) := by decide +kernel
theorem dX5_land_181 : decode cX5_land 181 = .ok (.aload_n 0, 1) := by decide +kernel
theorem dX5_land_182 : decode cX5_land 182 = .ok (.getfield 96, 3) := by decide +kernel
theorem dX5_land_185 : decode cX5_land 185 = .ok (.isub, 1) := by decide +kernel
theorem dX5_land_186 : decode cX5_land 186 = .ok (.ireturn, 1) := by decide +kernel
theorem dX5_land_187 : decode cX5_land 187 = .ok (.aload_n 0, 1) := by decide +kernel
theorem dX5_land_188 : decode cX5_land 188 = .ok (.aload_n 0, 1) := by decide +kernel
theorem dX5_land_189 : decode cX5_land 189 = .ok (.getfield 110, 3) := by decide +kernel
theorem dX5_land_192 : decode cX5_land 192 = .ok (.putfield 131, 3) := by decide +kernel
theorem dX5_land_195 : decode cX5_land 195 = .ok (.aload_n 0, 1) := by decide +kernel
theorem dX5_land_196 : decode cX5_land 196 = .ok (.aload_n 0, 1) := by decide +kernel
theorem dX5_land_197 : decode cX5_land 197 = .ok (.getfield 117, 3) := by decide +kernel
theorem dX5_land_200 : decode cX5_land 200 = .ok (.putfield 134, 3) := by decide +kernel
theorem dX5_land_203 : decode cX5_land 203 = .ok (.aload_n 0, 1) := by decide +kernel
theorem dX5_land_204 : decode cX5_land 204 = .ok (.aload_n 0, 1) := by decide +kernel
theorem dX5_land_205 : decode cX5_land 205 = .ok (.getfield 120, 3) := by decide +kernel
theorem dX5_land_208 : decode cX5_land 208 = .ok (.putfield 137, 3) := by decide +kernel
theorem dX5_land_211 : decode cX5_land 211 = .ok (.iconst 0, 1) := by decide +kernel
theorem dX5_land_212 : decode cX5_land 212 = .ok (.istore_n 2, 1) := by decide +kernel
theorem dX5_land_213 : decode cX5_land 213 = .ok (.iload_n 2, 1) := by decide +kernel
theorem dX5_land_214 : decode cX5_land 214 = .ok (.bipush 6, 2) := by decide +kernel
theorem dX5_land_216 : decode cX5_land 216 = .ok (.if_icmp .ge 24, 3) := by decide +kernel
theorem dX5_land_219 : decode cX5_land 219 = .ok (.aload_n 0, 1) := by decide +kernel
theorem dX5_land_220 : decode cX5_land 220 = .ok (.getfield 13, 3) := by decide +kernel
theorem dX5_land_223 : decode cX5_land 223 = .ok (.iload_n 2, 1) := by decide +kernel
theorem dX5_land_224 : decode cX5_land 224 = .ok (.aload_n 0, 1) := by decide +kernel
theorem dX5_land_225 : decode cX5_land 225 = .ok (.getfield 13, 3) := by decide +kernel
theorem dX5_land_228 : decode cX5_land 228 = .ok (.bipush 6, 2) := by decide +kernel
theorem dX5_land_230 : decode cX5_land 230 = .ok (.iload_n 2, 1) := by decide +kernel
theorem dX5_land_231 : decode cX5_land 231 = .ok (.iadd, 1) := by decide +kernel
theorem dX5_land_232 : decode cX5_land 232 = .ok (.iaload, 1) := by decide +kernel
theorem dX5_land_233 : decode cX5_land 233 = .ok (.iastore, 1) := by decide +kernel
theorem dX5_land_234 : decode cX5_land 234 = .ok (.iinc 2 1, 3) := by decide +kernel
theorem dX5_land_237 : decode cX5_land 237 = .ok (.goto (-24), 3) := by decide +kernel
theorem dX5_land_240 : decode cX5_land 240 = .ok (.iconst 0, 1) := by decide +kernel
theorem dX5_land_241 : decode cX5_land 241 = .ok (.istore_n 2, 1) := by decide +kernel
theorem dX5_land_242 : decode cX5_land 242 = .ok (.iload_n 2, 1) := by decide +kernel
theorem dX5_land_243 : decode cX5_land 243 = .ok (.bipush 30, 2) := by decide +kernel
theorem dX5_land_245 : decode cX5_land 245 = .ok (.if_icmp .ge 24, 3) := by decide +kernel
theorem dX5_land_248 : decode cX5_land 248 = .ok (.aload_n 0, 1) := by decide +kernel
theorem dX5_land_249 : decode cX5_land 249 = .ok (.getfield 16, 3) := by decide +kernel
theorem dX5_land_252 : decode cX5_land 252 = .ok (.iload_n 2, 1) := by decide +kernel
theorem dX5_land_253 : decode cX5_land 253 = .ok (.aload_n 0, 1) := by decide +kernel
theorem dX5_land_254 : decode cX5_land 254 = .ok (.getfield 16, 3) := by decide +kernel
theorem dX5_land_257 : decode cX5_land 257 = .ok (.bipush 30, 2) := by decide +kernel
theorem dX5_land_259 : decode cX5_land 259 = .ok (.iload_n 2, 1) := by decide +kernel
theorem dX5_land_260 : decode cX5_land 260 = .ok (.iadd, 1) := by decide +kernel
theorem dX5_land_261 : decode cX5_land 261 = .ok (.iaload, 1) := by decide +kernel
theorem dX5_land_262 : decode cX5_land 262 = .ok (.iastore, 1) := by decide +kernel
theorem dX5_land_263 : decode cX5_land 263 = .ok (.iinc 2 1, 3) := by decide +kernel
theorem dX5_land_266 : decode cX5_land 266 = .ok (.goto (-24), 3) := by decide +kernel
theorem dX5_land_269 : decode cX5_land 269 = .ok (.iconst 0, 1) := by decide +kernel
theorem dX5_land_270 : decode cX5_land 270 = .ok (.istore_n 2, 1) := by decide +kernel
theorem dX5_land_271 : decode cX5_land 271 = .ok (.iload_n 2, 1) := by decide +kernel
theorem dX5_land_272 : decode cX5_land 272 = .ok (.bipush 10, 2) := by decide +kernel
theorem dX5_land_274 : decode cX5_land 274 = .ok (.if_icmp .ge 39, 3) := by decide +kernel
theorem dX5_land_277 : decode cX5_land 277 = .ok (.aload_n 0, 1) := by decide +kernel
theorem dX5_land_278 : decode cX5_land 278 = .ok (.getfield 19, 3) := by decide +kernel
theorem dX5_land_281 : decode cX5_land 281 = .ok (.iload_n 2, 1) := by decide +kernel
theorem dX5_land_282 : decode cX5_land 282 = .ok (.aload_n 0, 1) := by decide +kernel
theorem dX5_land_283 : decode cX5_land 283 = .ok (.getfield 19, 3) := by decide +kernel
theorem dX5_land_286 : decode cX5_land 286 = .ok (.bipush 10, 2) := by decide +kernel
theorem dX5_land_288 : decode cX5_land 288 = .ok (.iload_n 2, 1) := by decide +kernel
theorem dX5_land_289 : decode cX5_land 289 = .ok (.iadd, 1) := by decide +kernel
theorem dX5_land_290 : decode cX5_land 290 = .ok (.iaload, 1) := by decide +kernel
theorem dX5_land_291 : decode cX5_land 291 = .ok (.iastore, 1) := by decide +kernel
theorem dX5_land_292 : decode cX5_land 292 = .ok (.aload_n 0, 1) := by decide +kernel
theorem dX5_land_293 : decode cX5_land 293 = .ok (.getfield 22, 3) := by decide +kernel
theorem dX5_land_296 : decode cX5_land 296 = .ok (.iload_n 2, 1) := by decide +kernel
theorem dX5_land_297 : decode cX5_land 297 = .ok (.aload_n 0, 1) := by decide +kernel
theorem dX5_land_298 : decode cX5_land 298 = .ok (.getfield 22, 3) := by decide +kernel
theorem dX5_land_301 : decode cX5_land 301 = .ok (.bipush 10, 2) := by decide +kernel
theorem dX5_land_303 : decode cX5_land 303 = .ok (.iload_n 2, 1) := by decide +kernel
theorem dX5_land_304 : decode cX5_land 304 = .ok (.iadd, 1) := by decide +kernel
theorem dX5_land_305 : decode cX5_land 305 = .ok (.iaload, 1) := by decide +kernel
theorem dX5_land_306 : decode cX5_land 306 = .ok (.iastore, 1) := by decide +kernel
theorem dX5_land_307 : decode cX5_land 307 = .ok (.iinc 2 1, 3) := by decide +kernel
theorem dX5_land_310 : decode cX5_land 310 = .ok (.goto (-39), 3) := by decide +kernel
theorem dX5_land_313 : decode cX5_land 313 = .ok (.aload_n 0, 1) := by decide +kernel
theorem dX5_land_314 : decode cX5_land 314 = .ok (.iconst 0, 1) := by decide +kernel
theorem dX5_land_315 : decode cX5_land 315 = .ok (.putfield 61, 3) := by decide +kernel
theorem dX5_land_318 : decode cX5_land 318 = .ok (.aload_n 0, 1) := by decide +kernel
theorem dX5_land_319 : decode cX5_land 319 = .ok (.getfield 40, 3) := by decide +kernel
theorem dX5_land_322 : decode cX5_land 322 = .ok (.iconst 0, 1) := by decide +kernel
theorem dX5_land_323 : decode cX5_land 323 = .ok (.iconst 0, 1) := by decide +kernel
theorem dX5_land_324 : decode cX5_land 324 = .ok (.bastore, 1) := by decide +kernel
theorem dX5_land_325 : decode cX5_land 325 = .ok (.aload_n 0, 1) := by decide +kernel
theorem dX5_land_326 : decode cX5_land 326 = .ok (.getfield 40, 3) := by decide +kernel
theorem dX5_land_329 : decode cX5_land 329 = .ok (.iconst 1, 1) := by decide +kernel
theorem dX5_land_330 : decode cX5_land 330 = .ok (.iconst 0, 1) := by decide +kernel
theorem dX5_land_331 : decode cX5_land 331 = .ok (.bastore, 1) := by decide +kernel
theorem dX5_land_332 : decode cX5_land 332 = .ok (.aload_n 0, 1) := by decide +kernel
theorem dX5_land_333 : decode cX5_land 333 = .ok (.getfield 34, 3) := by decide +kernel
theorem dX5_land_336 : decode cX5_land 336 = .ok (.iconst 0, 1) := by decide +kernel
theorem dX5_land_337 : decode cX5_land 337 = .ok (.iconst 0, 1) := by decide +kernel
theorem dX5_land_338 : decode cX5_land 338 = .ok (.iastore, 1) := by decide +kernel
theorem dX5_land_339 : decode cX5_land 339 = .ok (.aload_n 0, 1) := by decide +kernel
theorem dX5_land_340 : decode cX5_land 340 = .ok (.getfield 34, 3) := by decide +kernel
theorem dX5_land_343 : decode cX5_land 343 = .ok (.iconst 1, 1) := by decide +kernel
theorem dX5_land_344 : decode cX5_land 344 = .ok (.iconst 0, 1) := by decide +kernel
theorem dX5_land_345 : decode cX5_land 345 = .ok (.iastore, 1) := by decide +kernel
theorem dX5_land_346 : decode cX5_land 346 = .ok (.aload_n 0, 1) := by decide +kernel
theorem dX5_land_347 : decode cX5_land 347 = .ok (.invokevirtual 50, 3) := by decide +kernel
theorem dX5_land_350 : decode cX5_land 350 = .ok (.iload_n 1, 1) := by decide +kernel
theorem dX5_land_351 : decode cX5_land 351 = .ok (.ireturn, 1) := by decide +kernel
set_option maxRecDepth 20000 in
theorem ggX5_reckons_X5_lesser : GoodIn wsX5_reckons wsX5_lesser := goodIn_r _ [13] (by decide +kernel) (by decide +kernel)
set_option maxRecDepth 20000 in
theorem gX5_reckons_X5_lesser : GoodIn wsX5_reckons (va_wsS RX5 141 yX5_lesser wsX5_lesser) := goodIn_app (goodIn_of _ (by decide +kernel)) ggX5_reckons_X5_lesser
set_option maxRecDepth 20000 in
theorem ggX5_reckons_X5_roadOf : GoodIn wsX5_reckons wsX5_roadOf := goodIn_r _ [17, 4, 18, 19, 20, 21, 22, 23, 24, 25, 26, 27, 28, 29, 30, 31, 32, 33, 34, 35, 36, 37, 38, 39, 40, 41, 42, 43, 44, 45, 46, 47, 48] (by decide +kernel) (by decide +kernel)
set_option maxRecDepth 20000 in
theorem gX5_reckons_X5_roadOf : GoodIn wsX5_reckons (wsV RX5 123 RX5 yX5_roadOf wsX5_roadOf) := goodIn_app (goodIn_of _ (by decide +kernel)) ggX5_reckons_X5_roadOf
theorem dX5_reckons_0 : decode cX5_reckons 0 = .ok (.iconst 0, 1) := by decide +kernel
theorem dX5_reckons_1 : decode cX5_reckons 1 = .ok (.istore_n 1, 1) := by decide +kernel
theorem dX5_reckons_2 : decode cX5_reckons 2 = .ok (.iload_n 1, 1) := by decide +kernel
theorem dX5_reckons_3 : decode cX5_reckons 3 = .ok (.bipush 36, 2) := by decide +kernel
theorem dX5_reckons_5 : decode cX5_reckons 5 = .ok (.if_icmp .ge 32, 3) := by decide +kernel
theorem dX5_reckons_8 : decode cX5_reckons 8 = .ok (.aload_n 0, 1) := by decide +kernel
theorem dX5_reckons_9 : decode cX5_reckons 9 = .ok (.getfield 25, 3) := by decide +kernel
theorem dX5_reckons_12 : decode cX5_reckons 12 = .ok (.iload_n 1, 1) := by decide +kernel
theorem dX5_reckons_13 : decode cX5_reckons 13 = .ok (.iload_n 1, 1) := by decide +kernel
theorem dX5_reckons_14 : decode cX5_reckons 14 = .ok (.bipush 6, 2) := by decide +kernel
theorem dX5_reckons_16 : decode cX5_reckons 16 = .ok (.idiv, 1) := by decide +kernel
theorem dX5_reckons_17 : decode cX5_reckons 17 = .ok (.iload_n 1, 1) := by decide +kernel
theorem dX5_reckons_18 : decode cX5_reckons 18 = .ok (.bipush 6, 2) := by decide +kernel
theorem dX5_reckons_20 : decode cX5_reckons 20 = .ok (.irem, 1) := by decide +kernel
theorem dX5_reckons_21 : decode cX5_reckons 21 = .ok (.if_icmp .ne 7, 3) := by decide +kernel
theorem dX5_reckons_24 : decode cX5_reckons 24 = .ok (.iconst 0, 1) := by decide +kernel
theorem dX5_reckons_25 : decode cX5_reckons 25 = .ok (.goto 5, 3) := by decide +kernel
theorem dX5_reckons_28 : decode cX5_reckons 28 = .ok (.ldc 140, 2) := by decide +kernel
theorem dX5_reckons_30 : decode cX5_reckons 30 = .ok (.iastore, 1) := by decide +kernel
theorem dX5_reckons_31 : decode cX5_reckons 31 = .ok (.iinc 1 1, 3) := by decide +kernel
theorem dX5_reckons_34 : decode cX5_reckons 34 = .ok (.goto (-32), 3) := by decide +kernel
theorem dX5_reckons_37 : decode cX5_reckons 37 = .ok (.iconst 0, 1) := by decide +kernel
theorem dX5_reckons_38 : decode cX5_reckons 38 = .ok (.istore_n 1, 1) := by decide +kernel
theorem dX5_reckons_39 : decode cX5_reckons 39 = .ok (.iload_n 1, 1) := by decide +kernel
theorem dX5_reckons_40 : decode cX5_reckons 40 = .ok (.aload_n 0, 1) := by decide +kernel
theorem dX5_reckons_41 : decode cX5_reckons 41 = .ok (.getfield 134, 3) := by decide +kernel
theorem dX5_reckons_44 : decode cX5_reckons 44 = .ok (.if_icmp .ge 116, 3) := by decide +kernel
theorem dX5_reckons_47 : decode cX5_reckons 47 = .ok (.bipush 6, 2) := by decide +kernel
theorem dX5_reckons_49 : decode cX5_reckons 49 = .ok (.aload_n 0, 1) := by decide +kernel
theorem dX5_reckons_50 : decode cX5_reckons 50 = .ok (.getfield 16, 3) := by decide +kernel
theorem dX5_reckons_53 : decode cX5_reckons 53 = .ok (.iconst 3, 1) := by decide +kernel
theorem dX5_reckons_54 : decode cX5_reckons 54 = .ok (.iload_n 1, 1) := by decide +kernel
theorem dX5_reckons_55 : decode cX5_reckons 55 = .ok (.imul, 1) := by decide +kernel
theorem dX5_reckons_56 : decode cX5_reckons 56 = .ok (.iaload, 1) := by decide +kernel
theorem dX5_reckons_57 : decode cX5_reckons 57 = .ok (.imul, 1) := by decide +kernel
theorem dX5_reckons_58 : decode cX5_reckons 58 = .ok (.aload_n 0, 1) := by decide +kernel
theorem dX5_reckons_59 : decode cX5_reckons 59 = .ok (.getfield 16, 3) := by decide +kernel
theorem dX5_reckons_62 : decode cX5_reckons 62 = .ok (.iconst 3, 1) := by decide +kernel
theorem dX5_reckons_63 : decode cX5_reckons 63 = .ok (.iload_n 1, 1) := by decide +kernel
theorem dX5_reckons_64 : decode cX5_reckons 64 = .ok (.imul, 1) := by decide +kernel
theorem dX5_reckons_65 : decode cX5_reckons 65 = .ok (.iconst 1, 1) := by decide +kernel
theorem dX5_reckons_66 : decode cX5_reckons 66 = .ok (.iadd, 1) := by decide +kernel
theorem dX5_reckons_67 : decode cX5_reckons 67 = .ok (.iaload, 1) := by decide +kernel
theorem dX5_reckons_68 : decode cX5_reckons 68 = .ok (.iadd, 1) := by decide +kernel
theorem dX5_reckons_69 : decode cX5_reckons 69 = .ok (.istore_n 2, 1) := by decide +kernel
theorem dX5_reckons_70 : decode cX5_reckons 70 = .ok (.bipush 6, 2) := by decide +kernel
theorem dX5_reckons_72 : decode cX5_reckons 72 = .ok (.aload_n 0, 1) := by decide +kernel
theorem dX5_reckons_73 : decode cX5_reckons 73 = .ok (.getfield 16, 3) := by decide +kernel
theorem dX5_reckons_76 : decode cX5_reckons 76 = .ok (.iconst 3, 1) := by decide +kernel
theorem dX5_reckons_77 : decode cX5_reckons 77 = .ok (.iload_n 1, 1) := by decide +kernel
theorem dX5_reckons_78 : decode cX5_reckons 78 = .ok (.imul, 1) := by decide +kernel
theorem dX5_reckons_79 : decode cX5_reckons 79 = .ok (.iconst 1, 1) := by decide +kernel
theorem dX5_reckons_80 : decode cX5_reckons 80 = .ok (.iadd, 1) := by decide +kernel
theorem dX5_reckons_81 : decode cX5_reckons 81 = .ok (.iaload, 1) := by decide +kernel
theorem dX5_reckons_82 : decode cX5_reckons 82 = .ok (.imul, 1) := by decide +kernel
theorem dX5_reckons_83 : decode cX5_reckons 83 = .ok (.aload_n 0, 1) := by decide +kernel
theorem dX5_reckons_84 : decode cX5_reckons 84 = .ok (.getfield 16, 3) := by decide +kernel
theorem dX5_reckons_87 : decode cX5_reckons 87 = .ok (.iconst 3, 1) := by decide +kernel
theorem dX5_reckons_88 : decode cX5_reckons 88 = .ok (.iload_n 1, 1) := by decide +kernel
theorem dX5_reckons_89 : decode cX5_reckons 89 = .ok (.imul, 1) := by decide +kernel
theorem dX5_reckons_90 : decode cX5_reckons 90 = .ok (.iaload, 1) := by decide +kernel
theorem dX5_reckons_91 : decode cX5_reckons 91 = .ok (.iadd, 1) := by decide +kernel
theorem dX5_reckons_92 : decode cX5_reckons 92 = .ok (.istore_n 3, 1) := by decide +kernel
theorem dX5_reckons_93 : decode cX5_reckons 93 = .ok (.aload_n 0, 1) := by decide +kernel
theorem dX5_reckons_94 : decode cX5_reckons 94 = .ok (.getfield 25, 3) := by decide +kernel
theorem dX5_reckons_97 : decode cX5_reckons 97 = .ok (.iload_n 2, 1) := by decide +kernel
theorem dX5_reckons_98 : decode cX5_reckons 98 = .ok (.aload_n 0, 1) := by decide +kernel
theorem dX5_reckons_99 : decode cX5_reckons 99 = .ok (.getfield 25, 3) := by decide +kernel
theorem dX5_reckons_102 : decode cX5_reckons 102 = .ok (.iload_n 2, 1) := by decide +kernel
theorem dX5_reckons_103 : decode cX5_reckons 103 = .ok (.iaload, 1) := by decide +kernel
theorem dX5_reckons_104 : decode cX5_reckons 104 = .ok (.ldc 140, 2) := by decide +kernel
theorem dX5_reckons_106 : decode cX5_reckons 106 = .ok (.if_icmp .ne 16, 3) := by decide +kernel
theorem dX5_reckons_109 : decode cX5_reckons 109 = .ok (.aload_n 0, 1) := by decide +kernel
theorem dX5_reckons_110 : decode cX5_reckons 110 = .ok (.getfield 16, 3) := by decide +kernel
theorem dX5_reckons_113 : decode cX5_reckons 113 = .ok (.iconst 3, 1) := by decide +kernel
theorem dX5_reckons_114 : decode cX5_reckons 114 = .ok (.iload_n 1, 1) := by decide +kernel
theorem dX5_reckons_115 : decode cX5_reckons 115 = .ok (.imul, 1) := by decide +kernel
theorem dX5_reckons_116 : decode cX5_reckons 116 = .ok (.iconst 2, 1) := by decide +kernel
theorem dX5_reckons_117 : decode cX5_reckons 117 = .ok (.iadd, 1) := by decide +kernel
theorem dX5_reckons_118 : decode cX5_reckons 118 = .ok (.iaload, 1) := by decide +kernel
theorem dX5_reckons_119 : decode cX5_reckons 119 = .ok (.goto 22, 3) := by decide +kernel
theorem dX5_reckons_122 : decode cX5_reckons 122 = .ok (.aload_n 0, 1) := by decide +kernel
theorem dX5_reckons_123 : decode cX5_reckons 123 = .ok (.getfield 25, 3) := by decide +kernel
theorem dX5_reckons_126 : decode cX5_reckons 126 = .ok (.iload_n 2, 1) := by decide +kernel
theorem dX5_reckons_127 : decode cX5_reckons 127 = .ok (.iaload, 1) := by decide +kernel
theorem dX5_reckons_128 : decode cX5_reckons 128 = .ok (.aload_n 0, 1) := by decide +kernel
theorem dX5_reckons_129 : decode cX5_reckons 129 = .ok (.getfield 16, 3) := by decide +kernel
theorem dX5_reckons_132 : decode cX5_reckons 132 = .ok (.iconst 3, 1) := by decide +kernel
theorem dX5_reckons_133 : decode cX5_reckons 133 = .ok (.iload_n 1, 1) := by decide +kernel
theorem dX5_reckons_134 : decode cX5_reckons 134 = .ok (.imul, 1) := by decide +kernel
theorem dX5_reckons_135 : decode cX5_reckons 135 = .ok (.iconst 2, 1) := by decide +kernel
theorem dX5_reckons_136 : decode cX5_reckons 136 = .ok (.iadd, 1) := by decide +kernel
theorem dX5_reckons_137 : decode cX5_reckons 137 = .ok (.iaload, 1) := by decide +kernel
theorem dX5_reckons_138 : decode cX5_reckons 138 = .ok (.invokestatic 141, 3) := by decide +kernel
theorem dX5_reckons_141 : decode cX5_reckons 141 = .ok (.iastore, 1) := by decide +kernel
theorem dX5_reckons_142 : decode cX5_reckons 142 = .ok (.aload_n 0, 1) := by decide +kernel
theorem dX5_reckons_143 : decode cX5_reckons 143 = .ok (.getfield 25, 3) := by decide +kernel
theorem dX5_reckons_146 : decode cX5_reckons 146 = .ok (.iload_n 3, 1) := by decide +kernel
theorem dX5_reckons_147 : decode cX5_reckons 147 = .ok (.aload_n 0, 1) := by decide +kernel
theorem dX5_reckons_148 : decode cX5_reckons 148 = .ok (.getfield 25, 3) := by decide +kernel
theorem dX5_reckons_151 : decode cX5_reckons 151 = .ok (.iload_n 2, 1) := by decide +kernel
theorem dX5_reckons_152 : decode cX5_reckons 152 = .ok (.iaload, 1) := by decide +kernel
theorem dX5_reckons_153 : decode cX5_reckons 153 = .ok (.iastore, 1) := by decide +kernel
theorem dX5_reckons_154 : decode cX5_reckons 154 = .ok (.iinc 1 1, 3) := by decide +kernel
theorem dX5_reckons_157 : decode cX5_reckons 157 = .ok (.goto (-118), 3) := by decide +kernel
theorem dX5_reckons_160 : decode cX5_reckons 160 = .ok (.iconst 0, 1) := by decide +kernel
theorem dX5_reckons_161 : decode cX5_reckons 161 = .ok (.istore_n 1, 1) := by decide +kernel
theorem dX5_reckons_162 : decode cX5_reckons 162 = .ok (.iload_n 1, 1) := by decide +kernel
theorem dX5_reckons_163 : decode cX5_reckons 163 = .ok (.bipush 6, 2) := by decide +kernel
theorem dX5_reckons_165 : decode cX5_reckons 165 = .ok (.if_icmp .ge 142, 3) := by decide +kernel
theorem dX5_reckons_168 : decode cX5_reckons 168 = .ok (.iconst 0, 1) := by decide +kernel
theorem dX5_reckons_169 : decode cX5_reckons 169 = .ok (.istore_n 2, 1) := by decide +kernel
theorem dX5_reckons_170 : decode cX5_reckons 170 = .ok (.iload_n 2, 1) := by decide +kernel
theorem dX5_reckons_171 : decode cX5_reckons 171 = .ok (.bipush 6, 2) := by decide +kernel
theorem dX5_reckons_173 : decode cX5_reckons 173 = .ok (.if_icmp .ge 128, 3) := by decide +kernel
theorem dX5_reckons_176 : decode cX5_reckons 176 = .ok (.iconst 0, 1) := by decide +kernel
theorem dX5_reckons_177 : decode cX5_reckons 177 = .ok (.istore_n 3, 1) := by decide +kernel
theorem dX5_reckons_178 : decode cX5_reckons 178 = .ok (.iload_n 3, 1) := by decide +kernel
theorem dX5_reckons_179 : decode cX5_reckons 179 = .ok (.bipush 6, 2) := by decide +kernel
theorem dX5_reckons_181 : decode cX5_reckons 181 = .ok (.if_icmp .ge 114, 3) := by decide +kernel
theorem dX5_reckons_184 : decode cX5_reckons 184 = .ok (.aload_n 0, 1) := by decide +kernel
theorem dX5_reckons_185 : decode cX5_reckons 185 = .ok (.getfield 25, 3) := by decide +kernel
theorem dX5_reckons_188 : decode cX5_reckons 188 = .ok (.bipush 6, 2) := by decide +kernel
theorem dX5_reckons_190 : decode cX5_reckons 190 = .ok (.iload_n 2, 1) := by decide +kernel
theorem dX5_reckons_191 : decode cX5_reckons 191 = .ok (.imul, 1) := by decide +kernel
theorem dX5_reckons_192 : decode cX5_reckons 192 = .ok (.iload_n 1, 1) := by decide +kernel
theorem dX5_reckons_193 : decode cX5_reckons 193 = .ok (.iadd, 1) := by decide +kernel
theorem dX5_reckons_194 : decode cX5_reckons 194 = .ok (.iaload, 1) := by decide +kernel
theorem dX5_reckons_195 : decode cX5_reckons 195 = .ok (.ldc 140, 2) := by decide +kernel
theorem dX5_reckons_197 : decode cX5_reckons 197 = .ok (.if_icmp .eq 92, 3) := by decide +kernel
theorem dX5_reckons_200 : decode cX5_reckons 200 = .ok (.aload_n 0, 1) := by decide +kernel
theorem dX5_reckons_201 : decode cX5_reckons 201 = .ok (.getfield 25, 3) := by decide +kernel
theorem dX5_reckons_204 : decode cX5_reckons 204 = .ok (.bipush 6, 2) := by decide +kernel
theorem dX5_reckons_206 : decode cX5_reckons 206 = .ok (.iload_n 1, 1) := by decide +kernel
theorem dX5_reckons_207 : decode cX5_reckons 207 = .ok (.imul, 1) := by decide +kernel
theorem dX5_reckons_208 : decode cX5_reckons 208 = .ok (.iload_n 3, 1) := by decide +kernel
theorem dX5_reckons_209 : decode cX5_reckons 209 = .ok (.iadd, 1) := by decide +kernel
theorem dX5_reckons_210 : decode cX5_reckons 210 = .ok (.iaload, 1) := by decide +kernel
theorem dX5_reckons_211 : decode cX5_reckons 211 = .ok (.ldc 140, 2) := by decide +kernel
theorem dX5_reckons_213 : decode cX5_reckons 213 = .ok (.if_icmp .eq 76, 3) := by decide +kernel
theorem dX5_reckons_216 : decode cX5_reckons 216 = .ok (.aload_n 0, 1) := by decide +kernel
theorem dX5_reckons_217 : decode cX5_reckons 217 = .ok (.getfield 25, 3) := by decide +kernel
theorem dX5_reckons_220 : decode cX5_reckons 220 = .ok (.bipush 6, 2) := by decide +kernel
theorem dX5_reckons_222 : decode cX5_reckons 222 = .ok (.iload_n 2, 1) := by decide +kernel
theorem dX5_reckons_223 : decode cX5_reckons 223 = .ok (.imul, 1) := by decide +kernel
theorem dX5_reckons_224 : decode cX5_reckons 224 = .ok (.iload_n 1, 1) := by decide +kernel
theorem dX5_reckons_225 : decode cX5_reckons 225 = .ok (.iadd, 1) := by decide +kernel
theorem dX5_reckons_226 : decode cX5_reckons 226 = .ok (.iaload, 1) := by decide +kernel
theorem dX5_reckons_227 : decode cX5_reckons 227 = .ok (.aload_n 0, 1) := by decide +kernel
theorem dX5_reckons_228 : decode cX5_reckons 228 = .ok (.getfield 25, 3) := by decide +kernel
theorem dX5_reckons_231 : decode cX5_reckons 231 = .ok (.bipush 6, 2) := by decide +kernel
theorem dX5_reckons_233 : decode cX5_reckons 233 = .ok (.iload_n 1, 1) := by decide +kernel
theorem dX5_reckons_234 : decode cX5_reckons 234 = .ok (.imul, 1) := by decide +kernel
theorem dX5_reckons_235 : decode cX5_reckons 235 = .ok (.iload_n 3, 1) := by decide +kernel
theorem dX5_reckons_236 : decode cX5_reckons 236 = .ok (.iadd, 1) := by decide +kernel
theorem dX5_reckons_237 : decode cX5_reckons 237 = .ok (.iaload, 1) := by decide +kernel
theorem dX5_reckons_238 : decode cX5_reckons 238 = .ok (.iadd, 1) := by decide +kernel
theorem dX5_reckons_239 : decode cX5_reckons 239 = .ok (.istore 4, 2) := by decide +kernel
theorem dX5_reckons_241 : decode cX5_reckons 241 = .ok (.aload_n 0, 1) := by decide +kernel
theorem dX5_reckons_242 : decode cX5_reckons 242 = .ok (.getfield 25, 3) := by decide +kernel
theorem dX5_reckons_245 : decode cX5_reckons 245 = .ok (.bipush 6, 2) := by decide +kernel
theorem dX5_reckons_247 : decode cX5_reckons 247 = .ok (.iload_n 2, 1) := by decide +kernel
theorem dX5_reckons_248 : decode cX5_reckons 248 = .ok (.imul, 1) := by decide +kernel
theorem dX5_reckons_249 : decode cX5_reckons 249 = .ok (.iload_n 3, 1) := by decide +kernel
theorem dX5_reckons_250 : decode cX5_reckons 250 = .ok (.iadd, 1) := by decide +kernel
theorem dX5_reckons_251 : decode cX5_reckons 251 = .ok (.aload_n 0, 1) := by decide +kernel
theorem dX5_reckons_252 : decode cX5_reckons 252 = .ok (.getfield 25, 3) := by decide +kernel
theorem dX5_reckons_255 : decode cX5_reckons 255 = .ok (.bipush 6, 2) := by decide +kernel
theorem dX5_reckons_257 : decode cX5_reckons 257 = .ok (.iload_n 2, 1) := by decide +kernel
theorem dX5_reckons_258 : decode cX5_reckons 258 = .ok (.imul, 1) := by decide +kernel
theorem dX5_reckons_259 : decode cX5_reckons 259 = .ok (.iload_n 3, 1) := by decide +kernel
theorem dX5_reckons_260 : decode cX5_reckons 260 = .ok (.iadd, 1) := by decide +kernel
theorem dX5_reckons_261 : decode cX5_reckons 261 = .ok (.iaload, 1) := by decide +kernel
theorem dX5_reckons_262 : decode cX5_reckons 262 = .ok (.ldc 140, 2) := by decide +kernel
theorem dX5_reckons_264 : decode cX5_reckons 264 = .ok (.if_icmp .ne 8, 3) := by decide +kernel
theorem dX5_reckons_267 : decode cX5_reckons 267 = .ok (.iload 4, 2) := by decide +kernel
theorem dX5_reckons_269 : decode cX5_reckons 269 = .ok (.goto 19, 3) := by decide +kernel
theorem dX5_reckons_272 : decode cX5_reckons 272 = .ok (.aload_n 0, 1) := by decide +kernel
theorem dX5_reckons_273 : decode cX5_reckons 273 = .ok (.getfield 25, 3) := by decide +kernel
theorem dX5_reckons_276 : decode cX5_reckons 276 = .ok (.bipush 6, 2) := by decide +kernel
theorem dX5_reckons_278 : decode cX5_reckons 278 = .ok (.iload_n 2, 1) := by decide +kernel
theorem dX5_reckons_279 : decode cX5_reckons 279 = .ok (.imul, 1) := by decide +kernel
theorem dX5_reckons_280 : decode cX5_reckons 280 = .ok (.iload_n 3, 1) := by decide +kernel
theorem dX5_reckons_281 : decode cX5_reckons 281 = .ok (.iadd, 1) := by decide +kernel
theorem dX5_reckons_282 : decode cX5_reckons 282 = .ok (.iaload, 1) := by decide +kernel
theorem dX5_reckons_283 : decode cX5_reckons 283 = .ok (.iload 4, 2) := by decide +kernel
theorem dX5_reckons_285 : decode cX5_reckons 285 = .ok (.invokestatic 141, 3) := by decide +kernel
theorem dX5_reckons_288 : decode cX5_reckons 288 = .ok (.iastore, 1) := by decide +kernel
theorem dX5_reckons_289 : decode cX5_reckons 289 = .ok (.iinc 3 1, 3) := by decide +kernel
theorem dX5_reckons_292 : decode cX5_reckons 292 = .ok (.goto (-114), 3) := by decide +kernel
theorem dX5_reckons_295 : decode cX5_reckons 295 = .ok (.iinc 2 1, 3) := by decide +kernel
theorem dX5_reckons_298 : decode cX5_reckons 298 = .ok (.goto (-128), 3) := by decide +kernel
theorem dX5_reckons_301 : decode cX5_reckons 301 = .ok (.iinc 1 1, 3) := by decide +kernel
theorem dX5_reckons_304 : decode cX5_reckons 304 = .ok (.goto (-142), 3) := by decide +kernel
theorem dX5_reckons_307 : decode cX5_reckons 307 = .ok (.iconst 0, 1) := by decide +kernel
theorem dX5_reckons_308 : decode cX5_reckons 308 = .ok (.istore_n 1, 1) := by decide +kernel
theorem dX5_reckons_309 : decode cX5_reckons 309 = .ok (.iload_n 1, 1) := by decide +kernel
theorem dX5_reckons_310 : decode cX5_reckons 310 = .ok (.aload_n 0, 1) := by decide +kernel
theorem dX5_reckons_311 : decode cX5_reckons 311 = .ok (.getfield 137, 3) := by decide +kernel
theorem dX5_reckons_314 : decode cX5_reckons 314 = .ok (.if_icmp .ge 94, 3) := by decide +kernel
theorem dX5_reckons_317 : decode cX5_reckons 317 = .ok (.aload_n 0, 1) := by decide +kernel
theorem dX5_reckons_318 : decode cX5_reckons 318 = .ok (.getfield 28, 3) := by decide +kernel
theorem dX5_reckons_321 : decode cX5_reckons 321 = .ok (.iload_n 1, 1) := by decide +kernel
theorem dX5_reckons_322 : decode cX5_reckons 322 = .ok (.iload_n 1, 1) := by decide +kernel
theorem dX5_reckons_323 : decode cX5_reckons 323 = .ok (.ifCond .ne 8, 3) := by decide +kernel
theorem dX5_reckons_326 : decode cX5_reckons 326 = .ok (.bipush (-9), 2) := by decide +kernel
theorem dX5_reckons_328 : decode cX5_reckons 328 = .ok (.goto 26, 3) := by decide +kernel
theorem dX5_reckons_331 : decode cX5_reckons 331 = .ok (.aload_n 0, 1) := by decide +kernel
theorem dX5_reckons_332 : decode cX5_reckons 332 = .ok (.iconst 0, 1) := by decide +kernel
theorem dX5_reckons_333 : decode cX5_reckons 333 = .ok (.aload_n 0, 1) := by decide +kernel
theorem dX5_reckons_334 : decode cX5_reckons 334 = .ok (.getfield 134, 3) := by decide +kernel
theorem dX5_reckons_337 : decode cX5_reckons 337 = .ok (.aload_n 0, 1) := by decide +kernel
theorem dX5_reckons_338 : decode cX5_reckons 338 = .ok (.getfield 19, 3) := by decide +kernel
theorem dX5_reckons_341 : decode cX5_reckons 341 = .ok (.iload_n 1, 1) := by decide +kernel
theorem dX5_reckons_342 : decode cX5_reckons 342 = .ok (.iconst 1, 1) := by decide +kernel
theorem dX5_reckons_343 : decode cX5_reckons 343 = .ok (.isub, 1) := by decide +kernel
theorem dX5_reckons_344 : decode cX5_reckons 344 = .ok (.iaload, 1) := by decide +kernel
theorem dX5_reckons_345 : decode cX5_reckons 345 = .ok (.aload_n 0, 1) := by decide +kernel
theorem dX5_reckons_346 : decode cX5_reckons 346 = .ok (.getfield 19, 3) := by decide +kernel
theorem dX5_reckons_349 : decode cX5_reckons 349 = .ok (.iload_n 1, 1) := by decide +kernel
theorem dX5_reckons_350 : decode cX5_reckons 350 = .ok (.iaload, 1) := by decide +kernel
theorem dX5_reckons_351 : decode cX5_reckons 351 = .ok (.invokevirtual 123, 3) := by decide +kernel
theorem dX5_reckons_354 : decode cX5_reckons 354 = .ok (.iastore, 1) := by decide +kernel
theorem dX5_reckons_355 : decode cX5_reckons 355 = .ok (.aload_n 0, 1) := by decide +kernel
theorem dX5_reckons_356 : decode cX5_reckons 356 = .ok (.getfield 31, 3) := by decide +kernel
theorem dX5_reckons_359 : decode cX5_reckons 359 = .ok (.iload_n 1, 1) := by decide +kernel
theorem dX5_reckons_360 : decode cX5_reckons 360 = .ok (.iload_n 1, 1) := by decide +kernel
theorem dX5_reckons_361 : decode cX5_reckons 361 = .ok (.ifCond .ne 7, 3) := by decide +kernel
theorem dX5_reckons_364 : decode cX5_reckons 364 = .ok (.iconst 0, 1) := by decide +kernel
theorem dX5_reckons_365 : decode cX5_reckons 365 = .ok (.goto 36, 3) := by decide +kernel
theorem dX5_reckons_368 : decode cX5_reckons 368 = .ok (.aload_n 0, 1) := by decide +kernel
theorem dX5_reckons_369 : decode cX5_reckons 369 = .ok (.getfield 31, 3) := by decide +kernel
theorem dX5_reckons_372 : decode cX5_reckons 372 = .ok (.iload_n 1, 1) := by decide +kernel
theorem dX5_reckons_373 : decode cX5_reckons 373 = .ok (.iconst 1, 1) := by decide +kernel
theorem dX5_reckons_374 : decode cX5_reckons 374 = .ok (.isub, 1) := by decide +kernel
theorem dX5_reckons_375 : decode cX5_reckons 375 = .ok (.iaload, 1) := by decide +kernel
theorem dX5_reckons_376 : decode cX5_reckons 376 = .ok (.aload_n 0, 1) := by decide +kernel
theorem dX5_reckons_377 : decode cX5_reckons 377 = .ok (.getfield 22, 3) := by decide +kernel
theorem dX5_reckons_380 : decode cX5_reckons 380 = .ok (.iload_n 1, 1) := by decide +kernel
theorem dX5_reckons_381 : decode cX5_reckons 381 = .ok (.iconst 1, 1) := by decide +kernel
theorem dX5_reckons_382 : decode cX5_reckons 382 = .ok (.isub, 1) := by decide +kernel
theorem dX5_reckons_383 : decode cX5_reckons 383 = .ok (.iaload, 1) := by decide +kernel
theorem dX5_reckons_384 : decode cX5_reckons 384 = .ok (.iadd, 1) := by decide +kernel
theorem dX5_reckons_385 : decode cX5_reckons 385 = .ok (.aload_n 0, 1) := by decide +kernel
theorem dX5_reckons_386 : decode cX5_reckons 386 = .ok (.getfield 16, 3) := by decide +kernel
theorem dX5_reckons_389 : decode cX5_reckons 389 = .ok (.iconst 3, 1) := by decide +kernel
theorem dX5_reckons_390 : decode cX5_reckons 390 = .ok (.aload_n 0, 1) := by decide +kernel
theorem dX5_reckons_391 : decode cX5_reckons 391 = .ok (.getfield 28, 3) := by decide +kernel
theorem dX5_reckons_394 : decode cX5_reckons 394 = .ok (.iload_n 1, 1) := by decide +kernel
theorem dX5_reckons_395 : decode cX5_reckons 395 = .ok (.iaload, 1) := by decide +kernel
theorem dX5_reckons_396 : decode cX5_reckons 396 = .ok (.imul, 1) := by decide +kernel
theorem dX5_reckons_397 : decode cX5_reckons 397 = .ok (.iconst 2, 1) := by decide +kernel
theorem dX5_reckons_398 : decode cX5_reckons 398 = .ok (.iadd, 1) := by decide +kernel
theorem dX5_reckons_399 : decode cX5_reckons 399 = .ok (.iaload, 1) := by decide +kernel
theorem dX5_reckons_400 : decode cX5_reckons 400 = .ok (.iadd, 1) := by decide +kernel
theorem dX5_reckons_401 : decode cX5_reckons 401 = .ok (.iastore, 1) := by decide +kernel
theorem dX5_reckons_402 : decode cX5_reckons 402 = .ok (.iinc 1 1, 3) := by decide +kernel
theorem dX5_reckons_405 : decode cX5_reckons 405 = .ok (.goto (-96), 3) := by decide +kernel
theorem dX5_reckons_408 : decode cX5_reckons 408 = .ok (.return_, 1) := by decide +kernel
set_option maxRecDepth 20000 in
theorem ggX5_isTown_X5_in : GoodIn wsX5_isTown wsX5_in := goodIn_r _ [5] (by decide +kernel) (by decide +kernel)
set_option maxRecDepth 20000 in
theorem gX5_isTown_X5_in : GoodIn wsX5_isTown (va_wsS RX5 57 yX5_in wsX5_in) := goodIn_app (goodIn_of _ (by decide +kernel)) ggX5_isTown_X5_in
theorem dX5_isTown_0 : decode cX5_isTown 0 = .ok (.iload_n 1, 1) := by decide +kernel
theorem dX5_isTown_1 : decode cX5_isTown 1 = .ok (.iconst 0, 1) := by decide +kernel
theorem dX5_isTown_2 : decode cX5_isTown 2 = .ok (.aload_n 0, 1) := by decide +kernel
theorem dX5_isTown_3 : decode cX5_isTown 3 = .ok (.getfield 131, 3) := by decide +kernel
theorem dX5_isTown_6 : decode cX5_isTown 6 = .ok (.iconst 1, 1) := by decide +kernel
theorem dX5_isTown_7 : decode cX5_isTown 7 = .ok (.isub, 1) := by decide +kernel
theorem dX5_isTown_8 : decode cX5_isTown 8 = .ok (.invokestatic 57, 3) := by decide +kernel
theorem dX5_isTown_11 : decode cX5_isTown 11 = .ok (.ireturn, 1) := by decide +kernel
set_option maxRecDepth 20000 in
theorem ggX5_isHour_X5_in : GoodIn wsX5_isHour wsX5_in := goodIn_r _ [4] (by decide +kernel) (by decide +kernel)
set_option maxRecDepth 20000 in
theorem gX5_isHour_X5_in : GoodIn wsX5_isHour (va_wsS RX5 57 yX5_in wsX5_in) := goodIn_app (goodIn_of _ (by decide +kernel)) ggX5_isHour_X5_in
theorem dX5_isHour_0 : decode cX5_isHour 0 = .ok (.iload_n 0, 1) := by decide +kernel
theorem dX5_isHour_1 : decode cX5_isHour 1 = .ok (.iconst 0, 1) := by decide +kernel
theorem dX5_isHour_2 : decode cX5_isHour 2 = .ok (.sipush 999, 3) := by decide +kernel
theorem dX5_isHour_5 : decode cX5_isHour 5 = .ok (.invokestatic 57, 3) := by decide +kernel
theorem dX5_isHour_8 : decode cX5_isHour 8 = .ok (.ireturn, 1) := by decide +kernel
theorem dX5_farOf_0 : decode cX5_farOf 0 = .ok (.aload_n 0, 1) := by decide +kernel
theorem dX5_farOf_1 : decode cX5_farOf 1 = .ok (.getfield 25, 3) := by decide +kernel
theorem dX5_farOf_4 : decode cX5_farOf 4 = .ok (.bipush 6, 2) := by decide +kernel
theorem dX5_farOf_6 : decode cX5_farOf 6 = .ok (.iload_n 1, 1) := by decide +kernel
theorem dX5_farOf_7 : decode cX5_farOf 7 = .ok (.imul, 1) := by decide +kernel
theorem dX5_farOf_8 : decode cX5_farOf 8 = .ok (.iload_n 2, 1) := by decide +kernel
theorem dX5_farOf_9 : decode cX5_farOf 9 = .ok (.iadd, 1) := by decide +kernel
theorem dX5_farOf_10 : decode cX5_farOf 10 = .ok (.iaload, 1) := by decide +kernel
theorem dX5_farOf_11 : decode cX5_farOf 11 = .ok (.ldc 140, 2) := by decide +kernel
theorem dX5_farOf_13 : decode cX5_farOf 13 = .ok (.if_icmp .ne 8, 3) := by decide +kernel
theorem dX5_farOf_16 : decode cX5_farOf 16 = .ok (.bipush (-9), 2) := by decide +kernel
theorem dX5_farOf_18 : decode cX5_farOf 18 = .ok (.goto 14, 3) := by decide +kernel
theorem dX5_farOf_21 : decode cX5_farOf 21 = .ok (.aload_n 0, 1) := by decide +kernel
theorem dX5_farOf_22 : decode cX5_farOf 22 = .ok (.getfield 25, 3) := by decide +kernel
theorem dX5_farOf_25 : decode cX5_farOf 25 = .ok (.bipush 6, 2) := by decide +kernel
theorem dX5_farOf_27 : decode cX5_farOf 27 = .ok (.iload_n 1, 1) := by decide +kernel
theorem dX5_farOf_28 : decode cX5_farOf 28 = .ok (.imul, 1) := by decide +kernel
theorem dX5_farOf_29 : decode cX5_farOf 29 = .ok (.iload_n 2, 1) := by decide +kernel
theorem dX5_farOf_30 : decode cX5_farOf 30 = .ok (.iadd, 1) := by decide +kernel
theorem dX5_farOf_31 : decode cX5_farOf 31 = .ok (.iaload, 1) := by decide +kernel
theorem dX5_farOf_32 : decode cX5_farOf 32 = .ok (.ireturn, 1) := by decide +kernel
theorem dX5_roadsOf_0 : decode cX5_roadsOf 0 = .ok (.iconst 0, 1) := by decide +kernel
theorem dX5_roadsOf_1 : decode cX5_roadsOf 1 = .ok (.istore_n 2, 1) := by decide +kernel
theorem dX5_roadsOf_2 : decode cX5_roadsOf 2 = .ok (.iconst 0, 1) := by decide +kernel
theorem dX5_roadsOf_3 : decode cX5_roadsOf 3 = .ok (.istore_n 3, 1) := by decide +kernel
theorem dX5_roadsOf_4 : decode cX5_roadsOf 4 = .ok (.iload_n 3, 1) := by decide +kernel
theorem dX5_roadsOf_5 : decode cX5_roadsOf 5 = .ok (.aload_n 0, 1) := by decide +kernel
theorem dX5_roadsOf_6 : decode cX5_roadsOf 6 = .ok (.getfield 134, 3) := by decide +kernel
theorem dX5_roadsOf_9 : decode cX5_roadsOf 9 = .ok (.if_icmp .ge 43, 3) := by decide +kernel
theorem dX5_roadsOf_12 : decode cX5_roadsOf 12 = .ok (.iload_n 2, 1) := by decide +kernel
theorem dX5_roadsOf_13 : decode cX5_roadsOf 13 = .ok (.aload_n 0, 1) := by decide +kernel
theorem dX5_roadsOf_14 : decode cX5_roadsOf 14 = .ok (.getfield 16, 3) := by decide +kernel
theorem dX5_roadsOf_17 : decode cX5_roadsOf 17 = .ok (.iconst 3, 1) := by decide +kernel
theorem dX5_roadsOf_18 : decode cX5_roadsOf 18 = .ok (.iload_n 3, 1) := by decide +kernel
theorem dX5_roadsOf_19 : decode cX5_roadsOf 19 = .ok (.imul, 1) := by decide +kernel
theorem dX5_roadsOf_20 : decode cX5_roadsOf 20 = .ok (.iaload, 1) := by decide +kernel
theorem dX5_roadsOf_21 : decode cX5_roadsOf 21 = .ok (.iload_n 1, 1) := by decide +kernel
theorem dX5_roadsOf_22 : decode cX5_roadsOf 22 = .ok (.if_icmp .eq 17, 3) := by decide +kernel
theorem dX5_roadsOf_25 : decode cX5_roadsOf 25 = .ok (.aload_n 0, 1) := by decide +kernel
theorem dX5_roadsOf_26 : decode cX5_roadsOf 26 = .ok (.getfield 16, 3) := by decide +kernel
theorem dX5_roadsOf_29 : decode cX5_roadsOf 29 = .ok (.iconst 3, 1) := by decide +kernel
theorem dX5_roadsOf_30 : decode cX5_roadsOf 30 = .ok (.iload_n 3, 1) := by decide +kernel
theorem dX5_roadsOf_31 : decode cX5_roadsOf 31 = .ok (.imul, 1) := by decide +kernel
theorem dX5_roadsOf_32 : decode cX5_roadsOf 32 = .ok (.iconst 1, 1) := by decide +kernel
theorem dX5_roadsOf_33 : decode cX5_roadsOf 33 = .ok (.iadd, 1) := by decide +kernel
theorem dX5_roadsOf_34 : decode cX5_roadsOf 34 = .ok (.iaload, 1) := by decide +kernel
theorem dX5_roadsOf_35 : decode cX5_roadsOf 35 = .ok (.iload_n 1, 1) := by decide +kernel
theorem dX5_roadsOf_36 : decode cX5_roadsOf 36 = .ok (.if_icmp .ne 7, 3) := by decide +kernel
theorem dX5_roadsOf_39 : decode cX5_roadsOf 39 = .ok (.iconst 1, 1) := by decide +kernel
theorem dX5_roadsOf_40 : decode cX5_roadsOf 40 = .ok (.goto 4, 3) := by decide +kernel
theorem dX5_roadsOf_43 : decode cX5_roadsOf 43 = .ok (.iconst 0, 1) := by decide +kernel
theorem dX5_roadsOf_44 : decode cX5_roadsOf 44 = .ok (.iadd, 1) := by decide +kernel
theorem dX5_roadsOf_45 : decode cX5_roadsOf 45 = .ok (.istore_n 2, 1) := by decide +kernel
theorem dX5_roadsOf_46 : decode cX5_roadsOf 46 = .ok (.iinc 3 1, 3) := by decide +kernel
theorem dX5_roadsOf_49 : decode cX5_roadsOf 49 = .ok (.goto (-45), 3) := by decide +kernel
theorem dX5_roadsOf_52 : decode cX5_roadsOf 52 = .ok (.iload_n 2, 1) := by decide +kernel
theorem dX5_roadsOf_53 : decode cX5_roadsOf 53 = .ok (.ireturn, 1) := by decide +kernel
set_option maxRecDepth 20000 in
theorem ggX5_town_X5_isTown : GoodIn wsX5_town wsX5_isTown := goodIn_r _ [9, 10, 11, 12, 8, 13, 20, 21, 22, 23, 24, 25, 26, 27, 28, 29, 30, 31, 32, 33, 34, 35, 36, 37, 38, 39, 40, 41, 42, 43, 44, 45, 46, 47, 48, 49, 50] (by decide +kernel) (by decide +kernel)
set_option maxRecDepth 20000 in
theorem gX5_town_X5_isTown : GoodIn wsX5_town (wsV RX5 144 RX5 yX5_isTown wsX5_isTown) := goodIn_app (goodIn_of _ (by decide +kernel)) ggX5_town_X5_isTown
set_option maxRecDepth 20000 in
theorem ggX5_town_X5_in : GoodIn wsX5_town wsX5_in := goodIn_r _ [13] (by decide +kernel) (by decide +kernel)
set_option maxRecDepth 20000 in
theorem gX5_town_X5_in : GoodIn wsX5_town (va_wsS RX5 57 yX5_in wsX5_in) := goodIn_app (goodIn_of _ (by decide +kernel)) ggX5_town_X5_in
set_option maxRecDepth 20000 in
theorem ggX5_town_X5_roadsOf : GoodIn wsX5_town wsX5_roadsOf := goodIn_r _ [17, 18, 19, 20, 21, 22, 23, 24, 25, 26, 27, 28, 29, 30, 31, 32, 33, 34, 35, 36, 37, 38, 39, 40, 41, 42, 43, 44, 45, 46, 47, 48, 49, 50] (by decide +kernel) (by decide +kernel)
set_option maxRecDepth 20000 in
theorem gX5_town_X5_roadsOf : GoodIn wsX5_town (wsV RX5 148 RX5 yX5_roadsOf wsX5_roadsOf) := goodIn_app (goodIn_of _ (by decide +kernel)) ggX5_town_X5_roadsOf
theorem dX5_town_0 : decode cX5_town 0 = .ok (.aload_n 0, 1) := by decide +kernel
theorem dX5_town_1 : decode cX5_town 1 = .ok (.iconst 0, 1) := by decide +kernel
theorem dX5_town_2 : decode cX5_town 2 = .ok (.putfield 53, 3) := by decide +kernel
theorem dX5_town_5 : decode cX5_town 5 = .ok (.aload_n 0, 1) := by decide +kernel
theorem dX5_town_6 : decode cX5_town 6 = .ok (.iload_n 1, 1) := by decide +kernel
theorem dX5_town_7 : decode cX5_town 7 = .ok (.invokevirtual 144, 3) := by decide +kernel
theorem dX5_town_10 : decode cX5_town 10 = .ok (.ifCond .eq 12, 3) := by decide +kernel
theorem dX5_town_13 : decode cX5_town 13 = .ok (.iload_n 2, 1) := by decide +kernel
theorem dX5_town_14 : decode cX5_town 14 = .ok (.iconst 0, 1) := by decide +kernel
theorem dX5_town_15 : decode cX5_town 15 = .ok (.iconst 2, 1) := by decide +kernel
theorem dX5_town_16 : decode cX5_town 16 = .ok (.invokestatic 57, 3) := by decide +kernel
theorem dX5_town_19 : decode cX5_town 19 = .ok (.ifCond .ne 5, 3) := by decide +kernel
theorem dX5_town_22 : decode cX5_town 22 = .ok (.iconst (-1), 1) := by decide +kernel
theorem dX5_town_23 : decode cX5_town 23 = .ok (.ireturn, 1) := by decide +kernel
theorem dX5_town_24 : decode cX5_town 24 = .ok (.iconst 0, 1) := by decide +kernel
theorem dX5_town_25 : decode cX5_town 25 = .ok (.istore_n 3, 1) := by decide +kernel
theorem dX5_town_26 : decode cX5_town 26 = .ok (.iconst 0, 1) := by decide +kernel
theorem dX5_town_27 : decode cX5_town 27 = .ok (.istore 4, 2) := by decide +kernel
theorem dX5_town_29 : decode cX5_town 29 = .ok (.iload 4, 2) := by decide +kernel
theorem dX5_town_31 : decode cX5_town 31 = .ok (.aload_n 0, 1) := by decide +kernel
theorem dX5_town_32 : decode cX5_town 32 = .ok (.getfield 137, 3) := by decide +kernel
theorem dX5_town_35 : decode cX5_town 35 = .ok (.if_icmp .ge 28, 3) := by decide +kernel
theorem dX5_town_38 : decode cX5_town 38 = .ok (.iload_n 3, 1) := by decide +kernel
theorem dX5_town_39 : decode cX5_town 39 = .ok (.aload_n 0, 1) := by decide +kernel
theorem dX5_town_40 : decode cX5_town 40 = .ok (.getfield 19, 3) := by decide +kernel
theorem dX5_town_43 : decode cX5_town 43 = .ok (.iload 4, 2) := by decide +kernel
theorem dX5_town_45 : decode cX5_town 45 = .ok (.iaload, 1) := by decide +kernel
theorem dX5_town_46 : decode cX5_town 46 = .ok (.iload_n 1, 1) := by decide +kernel
theorem dX5_town_47 : decode cX5_town 47 = .ok (.if_icmp .ne 7, 3) := by decide +kernel
theorem dX5_town_50 : decode cX5_town 50 = .ok (.iconst 1, 1) := by decide +kernel
theorem dX5_town_51 : decode cX5_town 51 = .ok (.goto 4, 3) := by decide +kernel
theorem dX5_town_54 : decode cX5_town 54 = .ok (.iconst 0, 1) := by decide +kernel
theorem dX5_town_55 : decode cX5_town 55 = .ok (.iadd, 1) := by decide +kernel
theorem dX5_town_56 : decode cX5_town 56 = .ok (.istore_n 3, 1) := by decide +kernel
theorem dX5_town_57 : decode cX5_town 57 = .ok (.iinc 4 1, 3) := by decide +kernel
theorem dX5_town_60 : decode cX5_town 60 = .ok (.goto (-31), 3) := by decide +kernel
theorem dX5_town_63 : decode cX5_town 63 = .ok (.iload_n 2, 1) := by decide +kernel
theorem dX5_town_64 : decode cX5_town 64 = .ok (.ifCond .ne 12, 3) := by decide +kernel
theorem dX5_town_67 : decode cX5_town 67 = .ok (.aload_n 0, 1) := by decide +kernel
theorem dX5_town_68 : decode cX5_town 68 = .ok (.getfield 13, 3) := by decide +kernel
theorem dX5_town_71 : decode cX5_town 71 = .ok (.iload_n 1, 1) := by decide +kernel
theorem dX5_town_72 : decode cX5_town 72 = .ok (.iaload, 1) := by decide +kernel
theorem dX5_town_73 : decode cX5_town 73 = .ok (.goto 17, 3) := by decide +kernel
theorem dX5_town_76 : decode cX5_town 76 = .ok (.iload_n 2, 1) := by decide +kernel
theorem dX5_town_77 : decode cX5_town 77 = .ok (.iconst 1, 1) := by decide +kernel
theorem dX5_town_78 : decode cX5_town 78 = .ok (.if_icmp .ne 11, 3) := by decide +kernel
theorem dX5_town_81 : decode cX5_town 81 = .ok (.aload_n 0, 1) := by decide +kernel
theorem dX5_town_82 : decode cX5_town 82 = .ok (.iload_n 1, 1) := by decide +kernel
theorem dX5_town_83 : decode cX5_town 83 = .ok (.invokevirtual 148, 3) := by decide +kernel
theorem dX5_town_86 : decode cX5_town 86 = .ok (.goto 4, 3) := by decide +kernel
theorem dX5_town_89 : decode cX5_town 89 = .ok (.iload_n 3, 1) := by decide +kernel
theorem dX5_town_90 : decode cX5_town 90 = .ok (.ireturn, 1) := by decide +kernel
set_option maxRecDepth 20000 in
theorem ggX5_road_X5_in : GoodIn wsX5_road wsX5_in := goodIn_r _ [7] (by decide +kernel) (by decide +kernel)
set_option maxRecDepth 20000 in
theorem gX5_road_X5_in : GoodIn wsX5_road (va_wsS RX5 57 yX5_in wsX5_in) := goodIn_app (goodIn_of _ (by decide +kernel)) ggX5_road_X5_in
theorem dX5_road_0 : decode cX5_road 0 = .ok (.aload_n 0, 1) := by decide +kernel
theorem dX5_road_1 : decode cX5_road 1 = .ok (.iconst 0, 1) := by decide +kernel
theorem dX5_road_2 : decode cX5_road 2 = .ok (.putfield 53, 3) := by decide +kernel
theorem dX5_road_5 : decode cX5_road 5 = .ok (.iload_n 1, 1) := by decide +kernel
theorem dX5_road_6 : decode cX5_road 6 = .ok (.iconst 0, 1) := by decide +kernel
theorem dX5_road_7 : decode cX5_road 7 = .ok (.aload_n 0, 1) := by decide +kernel
theorem dX5_road_8 : decode cX5_road 8 = .ok (.getfield 134, 3) := by decide +kernel
theorem dX5_road_11 : decode cX5_road 11 = .ok (.iconst 1, 1) := by decide +kernel
theorem dX5_road_12 : decode cX5_road 12 = .ok (.isub, 1) := by decide +kernel
theorem dX5_road_13 : decode cX5_road 13 = .ok (.invokestatic 57, 3) := by decide +kernel
theorem dX5_road_16 : decode cX5_road 16 = .ok (.ifCond .eq 25, 3) := by decide +kernel
theorem dX5_road_19 : decode cX5_road 19 = .ok (.iload_n 2, 1) := by decide +kernel
theorem dX5_road_20 : decode cX5_road 20 = .ok (.iconst 0, 1) := by decide +kernel
theorem dX5_road_21 : decode cX5_road 21 = .ok (.iconst 2, 1) := by decide +kernel
theorem dX5_road_22 : decode cX5_road 22 = .ok (.invokestatic 57, 3) := by decide +kernel
theorem dX5_road_25 : decode cX5_road 25 = .ok (.ifCond .eq 16, 3) := by decide +kernel
theorem dX5_road_28 : decode cX5_road 28 = .ok (.aload_n 0, 1) := by decide +kernel
theorem dX5_road_29 : decode cX5_road 29 = .ok (.getfield 16, 3) := by decide +kernel
theorem dX5_road_32 : decode cX5_road 32 = .ok (.iconst 3, 1) := by decide +kernel
theorem dX5_road_33 : decode cX5_road 33 = .ok (.iload_n 1, 1) := by decide +kernel
theorem dX5_road_34 : decode cX5_road 34 = .ok (.imul, 1) := by decide +kernel
theorem dX5_road_35 : decode cX5_road 35 = .ok (.iload_n 2, 1) := by decide +kernel
theorem dX5_road_36 : decode cX5_road 36 = .ok (.iadd, 1) := by decide +kernel
theorem dX5_road_37 : decode cX5_road 37 = .ok (.iaload, 1) := by decide +kernel
theorem dX5_road_38 : decode cX5_road 38 = .ok (.goto 4, 3) := by decide +kernel
theorem dX5_road_41 : decode cX5_road 41 = .ok (.iconst (-1), 1) := by decide +kernel
theorem dX5_road_42 : decode cX5_road 42 = .ok (.ireturn, 1) := by decide +kernel
set_option maxRecDepth 20000 in
theorem ggX5_stop_X5_in : GoodIn wsX5_stop wsX5_in := goodIn_r _ [9] (by decide +kernel) (by decide +kernel)
set_option maxRecDepth 20000 in
theorem gX5_stop_X5_in : GoodIn wsX5_stop (va_wsS RX5 57 yX5_in wsX5_in) := goodIn_app (goodIn_of _ (by decide +kernel)) ggX5_stop_X5_in
theorem dX5_stop_0 : decode cX5_stop 0 = .ok (.aload_n 0, 1) := by decide +kernel
theorem dX5_stop_1 : decode cX5_stop 1 = .ok (.iconst 0, 1) := by decide +kernel
theorem dX5_stop_2 : decode cX5_stop 2 = .ok (.putfield 53, 3) := by decide +kernel
theorem dX5_stop_5 : decode cX5_stop 5 = .ok (.iload_n 1, 1) := by decide +kernel
theorem dX5_stop_6 : decode cX5_stop 6 = .ok (.iconst 0, 1) := by decide +kernel
theorem dX5_stop_7 : decode cX5_stop 7 = .ok (.aload_n 0, 1) := by decide +kernel
theorem dX5_stop_8 : decode cX5_stop 8 = .ok (.getfield 137, 3) := by decide +kernel
theorem dX5_stop_11 : decode cX5_stop 11 = .ok (.iconst 1, 1) := by decide +kernel
theorem dX5_stop_12 : decode cX5_stop 12 = .ok (.isub, 1) := by decide +kernel
theorem dX5_stop_13 : decode cX5_stop 13 = .ok (.invokestatic 57, 3) := by decide +kernel
theorem dX5_stop_16 : decode cX5_stop 16 = .ok (.ifCond .eq 12, 3) := by decide +kernel
theorem dX5_stop_19 : decode cX5_stop 19 = .ok (.iload_n 2, 1) := by decide +kernel
theorem dX5_stop_20 : decode cX5_stop 20 = .ok (.iconst 0, 1) := by decide +kernel
theorem dX5_stop_21 : decode cX5_stop 21 = .ok (.iconst 3, 1) := by decide +kernel
theorem dX5_stop_22 : decode cX5_stop 22 = .ok (.invokestatic 57, 3) := by decide +kernel
theorem dX5_stop_25 : decode cX5_stop 25 = .ok (.ifCond .ne 5, 3) := by decide +kernel
theorem dX5_stop_28 : decode cX5_stop 28 = .ok (.iconst (-1), 1) := by decide +kernel
theorem dX5_stop_29 : decode cX5_stop 29 = .ok (.ireturn, 1) := by decide +kernel
theorem dX5_stop_30 : decode cX5_stop 30 = .ok (.iload_n 2, 1) := by decide +kernel
theorem dX5_stop_31 : decode cX5_stop 31 = .ok (.ifCond .ne 12, 3) := by decide +kernel
theorem dX5_stop_34 : decode cX5_stop 34 = .ok (.aload_n 0, 1) := by decide +kernel
theorem dX5_stop_35 : decode cX5_stop 35 = .ok (.getfield 19, 3) := by decide +kernel
theorem dX5_stop_38 : decode cX5_stop 38 = .ok (.iload_n 1, 1) := by decide +kernel
theorem dX5_stop_39 : decode cX5_stop 39 = .ok (.iaload, 1) := by decide +kernel
theorem dX5_stop_40 : decode cX5_stop 40 = .ok (.goto 44, 3) := by decide +kernel
theorem dX5_stop_43 : decode cX5_stop 43 = .ok (.iload_n 2, 1) := by decide +kernel
theorem dX5_stop_44 : decode cX5_stop 44 = .ok (.iconst 1, 1) := by decide +kernel
theorem dX5_stop_45 : decode cX5_stop 45 = .ok (.if_icmp .ne 12, 3) := by decide +kernel
theorem dX5_stop_48 : decode cX5_stop 48 = .ok (.aload_n 0, 1) := by decide +kernel
theorem dX5_stop_49 : decode cX5_stop 49 = .ok (.getfield 22, 3) := by decide +kernel
theorem dX5_stop_52 : decode cX5_stop 52 = .ok (.iload_n 1, 1) := by decide +kernel
theorem dX5_stop_53 : decode cX5_stop 53 = .ok (.iaload, 1) := by decide +kernel
theorem dX5_stop_54 : decode cX5_stop 54 = .ok (.goto 30, 3) := by decide +kernel
theorem dX5_stop_57 : decode cX5_stop 57 = .ok (.iload_n 2, 1) := by decide +kernel
theorem dX5_stop_58 : decode cX5_stop 58 = .ok (.iconst 2, 1) := by decide +kernel
theorem dX5_stop_59 : decode cX5_stop 59 = .ok (.if_icmp .ne 12, 3) := by decide +kernel
theorem dX5_stop_62 : decode cX5_stop 62 = .ok (.aload_n 0, 1) := by decide +kernel
theorem dX5_stop_63 : decode cX5_stop 63 = .ok (.getfield 31, 3) := by decide +kernel
theorem dX5_stop_66 : decode cX5_stop 66 = .ok (.iload_n 1, 1) := by decide +kernel
theorem dX5_stop_67 : decode cX5_stop 67 = .ok (.iaload, 1) := by decide +kernel
theorem dX5_stop_68 : decode cX5_stop 68 = .ok (.goto 16, 3) := by decide +kernel
theorem dX5_stop_71 : decode cX5_stop 71 = .ok (.aload_n 0, 1) := by decide +kernel
theorem dX5_stop_72 : decode cX5_stop 72 = .ok (.getfield 31, 3) := by decide +kernel
theorem dX5_stop_75 : decode cX5_stop 75 = .ok (.iload_n 1, 1) := by decide +kernel
theorem dX5_stop_76 : decode cX5_stop 76 = .ok (.iaload, 1) := by decide +kernel
theorem dX5_stop_77 : decode cX5_stop 77 = .ok (.aload_n 0, 1) := by decide +kernel
theorem dX5_stop_78 : decode cX5_stop 78 = .ok (.getfield 22, 3) := by decide +kernel
theorem dX5_stop_81 : decode cX5_stop 81 = .ok (.iload_n 1, 1) := by decide +kernel
theorem dX5_stop_82 : decode cX5_stop 82 = .ok (.iaload, 1) := by decide +kernel
theorem dX5_stop_83 : decode cX5_stop 83 = .ok (.iadd, 1) := by decide +kernel
theorem dX5_stop_84 : decode cX5_stop 84 = .ok (.ireturn, 1) := by decide +kernel
set_option maxRecDepth 20000 in
theorem ggX5_far_X5_isTown : GoodIn wsX5_far wsX5_isTown := goodIn_r _ [6, 7, 8, 9, 5, 10, 17, 18, 19, 20, 21, 22, 23, 24, 25, 26, 27, 28, 29, 30, 31, 32, 33, 34, 35, 36, 37, 38, 39, 40, 41, 42, 43, 44, 45, 46, 47] (by decide +kernel) (by decide +kernel)
set_option maxRecDepth 20000 in
theorem gX5_far_X5_isTown : GoodIn wsX5_far (wsV RX5 144 RX5 yX5_isTown wsX5_isTown) := goodIn_app (goodIn_of _ (by decide +kernel)) ggX5_far_X5_isTown
set_option maxRecDepth 20000 in
theorem ggX5_far_X5_farOf : GoodIn wsX5_far wsX5_farOf := goodIn_r _ [14, 15, 16, 17, 18, 19, 20, 21, 22, 23, 24, 25, 26, 27, 28, 29, 30, 31, 32, 33, 34, 35, 36, 37, 38, 39, 40, 41, 42, 43, 44, 45, 46, 47] (by decide +kernel) (by decide +kernel)
set_option maxRecDepth 20000 in
theorem gX5_far_X5_farOf : GoodIn wsX5_far (wsV RX5 151 RX5 yX5_farOf wsX5_farOf) := goodIn_app (goodIn_of _ (by decide +kernel)) ggX5_far_X5_farOf
theorem dX5_far_0 : decode cX5_far 0 = .ok (.aload_n 0, 1) := by decide +kernel
theorem dX5_far_1 : decode cX5_far 1 = .ok (.iconst 0, 1) := by decide +kernel
theorem dX5_far_2 : decode cX5_far 2 = .ok (.putfield 53, 3) := by decide +kernel
theorem dX5_far_5 : decode cX5_far 5 = .ok (.aload_n 0, 1) := by decide +kernel
theorem dX5_far_6 : decode cX5_far 6 = .ok (.iload_n 1, 1) := by decide +kernel
theorem dX5_far_7 : decode cX5_far 7 = .ok (.invokevirtual 144, 3) := by decide +kernel
theorem dX5_far_10 : decode cX5_far 10 = .ok (.ifCond .eq 20, 3) := by decide +kernel
theorem dX5_far_13 : decode cX5_far 13 = .ok (.aload_n 0, 1) := by decide +kernel
theorem dX5_far_14 : decode cX5_far 14 = .ok (.iload_n 2, 1) := by decide +kernel
theorem dX5_far_15 : decode cX5_far 15 = .ok (.invokevirtual 144, 3) := by decide +kernel
theorem dX5_far_18 : decode cX5_far 18 = .ok (.ifCond .eq 12, 3) := by decide +kernel
theorem dX5_far_21 : decode cX5_far 21 = .ok (.aload_n 0, 1) := by decide +kernel
theorem dX5_far_22 : decode cX5_far 22 = .ok (.iload_n 1, 1) := by decide +kernel
theorem dX5_far_23 : decode cX5_far 23 = .ok (.iload_n 2, 1) := by decide +kernel
theorem dX5_far_24 : decode cX5_far 24 = .ok (.invokevirtual 151, 3) := by decide +kernel
theorem dX5_far_27 : decode cX5_far 27 = .ok (.goto 4, 3) := by decide +kernel
theorem dX5_far_30 : decode cX5_far 30 = .ok (.iconst (-1), 1) := by decide +kernel
theorem dX5_far_31 : decode cX5_far 31 = .ok (.ireturn, 1) := by decide +kernel
theorem dX5_cameTo_0 : decode cX5_cameTo 0 = .ok (.iconst 0, 1) := by decide +kernel
theorem dX5_cameTo_1 : decode cX5_cameTo 1 = .ok (.istore_n 2, 1) := by decide +kernel
theorem dX5_cameTo_2 : decode cX5_cameTo 2 = .ok (.iconst 0, 1) := by decide +kernel
theorem dX5_cameTo_3 : decode cX5_cameTo 3 = .ok (.istore_n 3, 1) := by decide +kernel
theorem dX5_cameTo_4 : decode cX5_cameTo 4 = .ok (.iload_n 3, 1) := by decide +kernel
theorem dX5_cameTo_5 : decode cX5_cameTo 5 = .ok (.aload_n 0, 1) := by decide +kernel
theorem dX5_cameTo_6 : decode cX5_cameTo 6 = .ok (.getfield 137, 3) := by decide +kernel
theorem dX5_cameTo_9 : decode cX5_cameTo 9 = .ok (.if_icmp .ge 27, 3) := by decide +kernel
theorem dX5_cameTo_12 : decode cX5_cameTo 12 = .ok (.iload_n 2, 1) := by decide +kernel
theorem dX5_cameTo_13 : decode cX5_cameTo 13 = .ok (.aload_n 0, 1) := by decide +kernel
theorem dX5_cameTo_14 : decode cX5_cameTo 14 = .ok (.getfield 31, 3) := by decide +kernel
theorem dX5_cameTo_17 : decode cX5_cameTo 17 = .ok (.iload_n 3, 1) := by decide +kernel
theorem dX5_cameTo_18 : decode cX5_cameTo 18 = .ok (.iaload, 1) := by decide +kernel
theorem dX5_cameTo_19 : decode cX5_cameTo 19 = .ok (.iload_n 1, 1) := by decide +kernel
theorem dX5_cameTo_20 : decode cX5_cameTo 20 = .ok (.if_icmp .gt 7, 3) := by decide +kernel
theorem dX5_cameTo_23 : decode cX5_cameTo 23 = .ok (.iconst 1, 1) := by decide +kernel
theorem dX5_cameTo_24 : decode cX5_cameTo 24 = .ok (.goto 4, 3) := by decide +kernel
theorem dX5_cameTo_27 : decode cX5_cameTo 27 = .ok (.iconst 0, 1) := by decide +kernel
theorem dX5_cameTo_28 : decode cX5_cameTo 28 = .ok (.iadd, 1) := by decide +kernel
theorem dX5_cameTo_29 : decode cX5_cameTo 29 = .ok (.istore_n 2, 1) := by decide +kernel
theorem dX5_cameTo_30 : decode cX5_cameTo 30 = .ok (.iinc 3 1, 3) := by decide +kernel
theorem dX5_cameTo_33 : decode cX5_cameTo 33 = .ok (.goto (-29), 3) := by decide +kernel
theorem dX5_cameTo_36 : decode cX5_cameTo 36 = .ok (.iload_n 2, 1) := by decide +kernel
theorem dX5_cameTo_37 : decode cX5_cameTo 37 = .ok (.ireturn, 1) := by decide +kernel
set_option maxRecDepth 20000 in
theorem ggX5_seeks_X5_cameTo : GoodIn wsX5_seeks wsX5_cameTo := goodIn_r _ [14, 7, 5, 15, 16, 17, 18, 19, 20, 21, 22, 23, 24, 25, 26, 27, 28, 29, 30, 31, 32, 33, 34, 35, 36, 37, 38, 39, 40, 41, 42, 43, 44, 45] (by decide +kernel) (by decide +kernel)
set_option maxRecDepth 20000 in
theorem gX5_seeks_X5_cameTo : GoodIn wsX5_seeks (wsV RX5 166 RX5 yX5_cameTo wsX5_cameTo) := goodIn_app (goodIn_of _ (by decide +kernel)) ggX5_seeks_X5_cameTo
theorem dX5_seeks_0 : decode cX5_seeks 0 = .ok (.aload_n 0, 1) := by decide +kernel
theorem dX5_seeks_1 : decode cX5_seeks 1 = .ok (.bipush (-9), 2) := by decide +kernel
theorem dX5_seeks_3 : decode cX5_seeks 3 = .ok (.putfield 154, 3) := by decide +kernel
theorem dX5_seeks_6 : decode cX5_seeks 6 = .ok (.aload_n 0, 1) := by decide +kernel
theorem dX5_seeks_7 : decode cX5_seeks 7 = .ok (.bipush (-9), 2) := by decide +kernel
theorem dX5_seeks_9 : decode cX5_seeks 9 = .ok (.putfield 157, 3) := by decide +kernel
theorem dX5_seeks_12 : decode cX5_seeks 12 = .ok (.aload_n 0, 1) := by decide +kernel
theorem dX5_seeks_13 : decode cX5_seeks 13 = .ok (.iconst 0, 1) := by decide +kernel
theorem dX5_seeks_14 : decode cX5_seeks 14 = .ok (.putfield 160, 3) := by decide +kernel
theorem dX5_seeks_17 : decode cX5_seeks 17 = .ok (.aload_n 0, 1) := by decide +kernel
theorem dX5_seeks_18 : decode cX5_seeks 18 = .ok (.bipush (-9), 2) := by decide +kernel
theorem dX5_seeks_20 : decode cX5_seeks 20 = .ok (.putfield 163, 3) := by decide +kernel
theorem dX5_seeks_23 : decode cX5_seeks 23 = .ok (.aload_n 0, 1) := by decide +kernel
theorem dX5_seeks_24 : decode cX5_seeks 24 = .ok (.iload_n 1, 1) := by decide +kernel
theorem dX5_seeks_25 : decode cX5_seeks 25 = .ok (.invokevirtual 166, 3) := by decide +kernel
theorem dX5_seeks_28 : decode cX5_seeks 28 = .ok (.iconst 1, 1) := by decide +kernel
theorem dX5_seeks_29 : decode cX5_seeks 29 = .ok (.isub, 1) := by decide +kernel
theorem dX5_seeks_30 : decode cX5_seeks 30 = .ok (.istore_n 2, 1) := by decide +kernel
theorem dX5_seeks_31 : decode cX5_seeks 31 = .ok (.iload_n 2, 1) := by decide +kernel
theorem dX5_seeks_32 : decode cX5_seeks 32 = .ok (.ifCond .ge 4, 3) := by decide +kernel
theorem dX5_seeks_35 : decode cX5_seeks 35 = .ok (.return_, 1) := by decide +kernel
theorem dX5_seeks_36 : decode cX5_seeks 36 = .ok (.aload_n 0, 1) := by decide +kernel
theorem dX5_seeks_37 : decode cX5_seeks 37 = .ok (.getfield 31, 3) := by decide +kernel
theorem dX5_seeks_40 : decode cX5_seeks 40 = .ok (.iload_n 2, 1) := by decide +kernel
theorem dX5_seeks_41 : decode cX5_seeks 41 = .ok (.iaload, 1) := by decide +kernel
theorem dX5_seeks_42 : decode cX5_seeks 42 = .ok (.aload_n 0, 1) := by decide +kernel
theorem dX5_seeks_43 : decode cX5_seeks 43 = .ok (.getfield 22, 3) := by decide +kernel
theorem dX5_seeks_46 : decode cX5_seeks 46 = .ok (.iload_n 2, 1) := by decide +kernel
theorem dX5_seeks_47 : decode cX5_seeks 47 = .ok (.iaload, 1) := by decide +kernel
theorem dX5_seeks_48 : decode cX5_seeks 48 = .ok (.iadd, 1) := by decide +kernel
theorem dX5_seeks_49 : decode cX5_seeks 49 = .ok (.istore_n 3, 1) := by decide +kernel
theorem dX5_seeks_50 : decode cX5_seeks 50 = .ok (.iload_n 1, 1) := by decide +kernel
theorem dX5_seeks_51 : decode cX5_seeks 51 = .ok (.iload_n 3, 1) := by decide +kernel
theorem dX5_seeks_52 : decode cX5_seeks 52 = .ok (.if_icmp .le 13, 3) := by decide +kernel
theorem dX5_seeks_55 : decode cX5_seeks 55 = .ok (.iload_n 2, 1) := by decide +kernel
theorem dX5_seeks_56 : decode cX5_seeks 56 = .ok (.aload_n 0, 1) := by decide +kernel
theorem dX5_seeks_57 : decode cX5_seeks 57 = .ok (.getfield 137, 3) := by decide +kernel
theorem dX5_seeks_60 : decode cX5_seeks 60 = .ok (.iconst 1, 1) := by decide +kernel
theorem dX5_seeks_61 : decode cX5_seeks 61 = .ok (.isub, 1) := by decide +kernel
theorem dX5_seeks_62 : decode cX5_seeks 62 = .ok (.if_icmp .ne 16, 3) := by decide +kernel
theorem dX5_seeks_65 : decode cX5_seeks 65 = .ok (.aload_n 0, 1) := by decide +kernel
theorem dX5_seeks_66 : decode cX5_seeks 66 = .ok (.aload_n 0, 1) := by decide +kernel
theorem dX5_seeks_67 : decode cX5_seeks 67 = .ok (.getfield 19, 3) := by decide +kernel
theorem dX5_seeks_70 : decode cX5_seeks 70 = .ok (.iload_n 2, 1) := by decide +kernel
theorem dX5_seeks_71 : decode cX5_seeks 71 = .ok (.iaload, 1) := by decide +kernel
theorem dX5_seeks_72 : decode cX5_seeks 72 = .ok (.putfield 154, 3) := by decide +kernel
theorem dX5_seeks_75 : decode cX5_seeks 75 = .ok (.goto 32, 3) := by decide +kernel
theorem dX5_seeks_78 : decode cX5_seeks 78 = .ok (.aload_n 0, 1) := by decide +kernel
theorem dX5_seeks_79 : decode cX5_seeks 79 = .ok (.aload_n 0, 1) := by decide +kernel
theorem dX5_seeks_80 : decode cX5_seeks 80 = .ok (.getfield 28, 3) := by decide +kernel
theorem dX5_seeks_83 : decode cX5_seeks 83 = .ok (.iload_n 2, 1) := by decide +kernel
theorem dX5_seeks_84 : decode cX5_seeks 84 = .ok (.iconst 1, 1) := by decide +kernel
theorem dX5_seeks_85 : decode cX5_seeks 85 = .ok (.iadd, 1) := by decide +kernel
theorem dX5_seeks_86 : decode cX5_seeks 86 = .ok (.iaload, 1) := by decide +kernel
theorem dX5_seeks_87 : decode cX5_seeks 87 = .ok (.putfield 157, 3) := by decide +kernel
theorem dX5_seeks_90 : decode cX5_seeks 90 = .ok (.aload_n 0, 1) := by decide +kernel
theorem dX5_seeks_91 : decode cX5_seeks 91 = .ok (.iload_n 1, 1) := by decide +kernel
theorem dX5_seeks_92 : decode cX5_seeks 92 = .ok (.iload_n 3, 1) := by decide +kernel
theorem dX5_seeks_93 : decode cX5_seeks 93 = .ok (.isub, 1) := by decide +kernel
theorem dX5_seeks_94 : decode cX5_seeks 94 = .ok (.putfield 160, 3) := by decide +kernel
theorem dX5_seeks_97 : decode cX5_seeks 97 = .ok (.aload_n 0, 1) := by decide +kernel
theorem dX5_seeks_98 : decode cX5_seeks 98 = .ok (.aload_n 0, 1) := by decide +kernel
theorem dX5_seeks_99 : decode cX5_seeks 99 = .ok (.getfield 19, 3) := by decide +kernel
theorem dX5_seeks_102 : decode cX5_seeks 102 = .ok (.iload_n 2, 1) := by decide +kernel
theorem dX5_seeks_103 : decode cX5_seeks 103 = .ok (.iaload, 1) := by decide +kernel
theorem dX5_seeks_104 : decode cX5_seeks 104 = .ok (.putfield 163, 3) := by decide +kernel
theorem dX5_seeks_107 : decode cX5_seeks 107 = .ok (.return_, 1) := by decide +kernel
set_option maxRecDepth 20000 in
theorem ggX5_where_X5_isHour : GoodIn wsX5_where wsX5_isHour := goodIn_r _ [8, 9, 10, 7, 11] (by decide +kernel) (by decide +kernel)
set_option maxRecDepth 20000 in
theorem gX5_where_X5_isHour : GoodIn wsX5_where (va_wsS RX5 169 yX5_isHour wsX5_isHour) := goodIn_app (goodIn_of _ (by decide +kernel)) ggX5_where_X5_isHour
set_option maxRecDepth 20000 in
theorem ggX5_where_X5_in : GoodIn wsX5_where wsX5_in := goodIn_r _ [11] (by decide +kernel) (by decide +kernel)
set_option maxRecDepth 20000 in
theorem gX5_where_X5_in : GoodIn wsX5_where (va_wsS RX5 57 yX5_in wsX5_in) := goodIn_app (goodIn_of _ (by decide +kernel)) ggX5_where_X5_in
set_option maxRecDepth 20000 in
theorem ggX5_where_X5_seeks : GoodIn wsX5_where wsX5_seeks := goodIn_r _ [15, 2, 3, 4, 16, 17, 18, 19, 20, 21, 22, 23, 24, 7, 25, 26, 27, 28, 29, 30, 31, 32, 33, 34, 35, 36, 37, 38, 39, 40, 41, 42, 43, 44, 45, 46, 47, 48, 49, 50, 51, 52, 53, 54, 55, 56] (by decide +kernel) (by decide +kernel)
set_option maxRecDepth 20000 in
theorem gX5_where_X5_seeks : GoodIn wsX5_where (wsV RX5 172 RX5 yX5_seeks wsX5_seeks) := goodIn_app (goodIn_of _ (by decide +kernel)) ggX5_where_X5_seeks
set_option maxRecDepth 20000 in
theorem ggX5_where_X5_cameTo : GoodIn wsX5_where wsX5_cameTo := goodIn_r _ [25, 19, 17, 26, 27, 28, 29, 30, 31, 32, 33, 34, 35, 36, 37, 38, 39, 40, 41, 42, 43, 44, 45, 46, 47, 48, 49, 50, 51, 52, 53, 54, 55, 56] (by decide +kernel) (by decide +kernel)
set_option maxRecDepth 20000 in
theorem gX5_where_X5_cameTo : GoodIn wsX5_where (wsV RX5 166 RX5 yX5_cameTo wsX5_cameTo) := goodIn_app (goodIn_of _ (by decide +kernel)) ggX5_where_X5_cameTo
theorem dX5_where_0 : decode cX5_where 0 = .ok (.aload_n 0, 1) := by decide +kernel
theorem dX5_where_1 : decode cX5_where 1 = .ok (.iconst 0, 1) := by decide +kernel
theorem dX5_where_2 : decode cX5_where 2 = .ok (.putfield 53, 3) := by decide +kernel
theorem dX5_where_5 : decode cX5_where 5 = .ok (.iload_n 1, 1) := by decide +kernel
theorem dX5_where_6 : decode cX5_where 6 = .ok (.invokestatic 169, 3) := by decide +kernel
theorem dX5_where_9 : decode cX5_where 9 = .ok (.ifCond .eq 12, 3) := by decide +kernel
theorem dX5_where_12 : decode cX5_where 12 = .ok (.iload_n 2, 1) := by decide +kernel
theorem dX5_where_13 : decode cX5_where 13 = .ok (.iconst 0, 1) := by decide +kernel
theorem dX5_where_14 : decode cX5_where 14 = .ok (.iconst 3, 1) := by decide +kernel
theorem dX5_where_15 : decode cX5_where 15 = .ok (.invokestatic 57, 3) := by decide +kernel
theorem dX5_where_18 : decode cX5_where 18 = .ok (.ifCond .ne 5, 3) := by decide +kernel
theorem dX5_where_21 : decode cX5_where 21 = .ok (.iconst (-1), 1) := by decide +kernel
theorem dX5_where_22 : decode cX5_where 22 = .ok (.ireturn, 1) := by decide +kernel
theorem dX5_where_23 : decode cX5_where 23 = .ok (.aload_n 0, 1) := by decide +kernel
theorem dX5_where_24 : decode cX5_where 24 = .ok (.iload_n 1, 1) := by decide +kernel
theorem dX5_where_25 : decode cX5_where 25 = .ok (.invokevirtual 172, 3) := by decide +kernel
theorem dX5_where_28 : decode cX5_where 28 = .ok (.iload_n 2, 1) := by decide +kernel
theorem dX5_where_29 : decode cX5_where 29 = .ok (.ifCond .ne 10, 3) := by decide +kernel
theorem dX5_where_32 : decode cX5_where 32 = .ok (.aload_n 0, 1) := by decide +kernel
theorem dX5_where_33 : decode cX5_where 33 = .ok (.getfield 154, 3) := by decide +kernel
theorem dX5_where_36 : decode cX5_where 36 = .ok (.goto 32, 3) := by decide +kernel
theorem dX5_where_39 : decode cX5_where 39 = .ok (.iload_n 2, 1) := by decide +kernel
theorem dX5_where_40 : decode cX5_where 40 = .ok (.iconst 1, 1) := by decide +kernel
theorem dX5_where_41 : decode cX5_where 41 = .ok (.if_icmp .ne 10, 3) := by decide +kernel
theorem dX5_where_44 : decode cX5_where 44 = .ok (.aload_n 0, 1) := by decide +kernel
theorem dX5_where_45 : decode cX5_where 45 = .ok (.getfield 157, 3) := by decide +kernel
theorem dX5_where_48 : decode cX5_where 48 = .ok (.goto 20, 3) := by decide +kernel
theorem dX5_where_51 : decode cX5_where 51 = .ok (.iload_n 2, 1) := by decide +kernel
theorem dX5_where_52 : decode cX5_where 52 = .ok (.iconst 2, 1) := by decide +kernel
theorem dX5_where_53 : decode cX5_where 53 = .ok (.if_icmp .ne 10, 3) := by decide +kernel
theorem dX5_where_56 : decode cX5_where 56 = .ok (.aload_n 0, 1) := by decide +kernel
theorem dX5_where_57 : decode cX5_where 57 = .ok (.getfield 160, 3) := by decide +kernel
theorem dX5_where_60 : decode cX5_where 60 = .ok (.goto 8, 3) := by decide +kernel
theorem dX5_where_63 : decode cX5_where 63 = .ok (.aload_n 0, 1) := by decide +kernel
theorem dX5_where_64 : decode cX5_where 64 = .ok (.iload_n 1, 1) := by decide +kernel
theorem dX5_where_65 : decode cX5_where 65 = .ok (.invokevirtual 166, 3) := by decide +kernel
theorem dX5_where_68 : decode cX5_where 68 = .ok (.ireturn, 1) := by decide +kernel
set_option maxRecDepth 20000 in
theorem ggX5_farOn_X5_farOf : GoodIn wsX5_farOn wsX5_farOf := goodIn_r _ [6, 7, 8, 12, 13, 14, 15, 16, 17, 18, 19, 20, 21, 22, 23, 24, 25, 26, 27, 28, 29, 30, 31, 32, 33, 34, 35, 36, 37, 38, 39, 40, 41, 42] (by decide +kernel) (by decide +kernel)
set_option maxRecDepth 20000 in
theorem gX5_farOn_X5_farOf : GoodIn wsX5_farOn (wsV RX5 151 RX5 yX5_farOf wsX5_farOf) := goodIn_app (goodIn_of _ (by decide +kernel)) ggX5_farOn_X5_farOf
set_option maxRecDepth 20000 in
theorem ggX5_farOn_X5_lesser : GoodIn wsX5_farOn wsX5_lesser := goodIn_r _ [11] (by decide +kernel) (by decide +kernel)
set_option maxRecDepth 20000 in
theorem gX5_farOn_X5_lesser : GoodIn wsX5_farOn (va_wsS RX5 141 yX5_lesser wsX5_lesser) := goodIn_app (goodIn_of _ (by decide +kernel)) ggX5_farOn_X5_lesser
theorem dX5_farOn_0 : decode cX5_farOn 0 = .ok (.iload 4, 2) := by decide +kernel
theorem dX5_farOn_2 : decode cX5_farOn 2 = .ok (.istore 5, 2) := by decide +kernel
theorem dX5_farOn_4 : decode cX5_farOn 4 = .ok (.aload_n 0, 1) := by decide +kernel
theorem dX5_farOn_5 : decode cX5_farOn 5 = .ok (.getfield 16, 3) := by decide +kernel
theorem dX5_farOn_8 : decode cX5_farOn 8 = .ok (.iconst 3, 1) := by decide +kernel
theorem dX5_farOn_9 : decode cX5_farOn 9 = .ok (.iload_n 2, 1) := by decide +kernel
theorem dX5_farOn_10 : decode cX5_farOn 10 = .ok (.imul, 1) := by decide +kernel
theorem dX5_farOn_11 : decode cX5_farOn 11 = .ok (.iaload, 1) := by decide +kernel
theorem dX5_farOn_12 : decode cX5_farOn 12 = .ok (.iload 4, 2) := by decide +kernel
theorem dX5_farOn_14 : decode cX5_farOn 14 = .ok (.if_icmp .ne 16, 3) := by decide +kernel
theorem dX5_farOn_17 : decode cX5_farOn 17 = .ok (.aload_n 0, 1) := by decide +kernel
theorem dX5_farOn_18 : decode cX5_farOn 18 = .ok (.getfield 16, 3) := by decide +kernel
theorem dX5_farOn_21 : decode cX5_farOn 21 = .ok (.iconst 3, 1) := by decide +kernel
theorem dX5_farOn_22 : decode cX5_farOn 22 = .ok (.iload_n 2, 1) := by decide +kernel
theorem dX5_farOn_23 : decode cX5_farOn 23 = .ok (.imul, 1) := by decide +kernel
theorem dX5_farOn_24 : decode cX5_farOn 24 = .ok (.iconst 1, 1) := by decide +kernel
theorem dX5_farOn_25 : decode cX5_farOn 25 = .ok (.iadd, 1) := by decide +kernel
theorem dX5_farOn_26 : decode cX5_farOn 26 = .ok (.iaload, 1) := by decide +kernel
theorem dX5_farOn_27 : decode cX5_farOn 27 = .ok (.goto 11, 3) := by decide +kernel
theorem dX5_farOn_30 : decode cX5_farOn 30 = .ok (.aload_n 0, 1) := by decide +kernel
theorem dX5_farOn_31 : decode cX5_farOn 31 = .ok (.getfield 16, 3) := by decide +kernel
theorem dX5_farOn_34 : decode cX5_farOn 34 = .ok (.iconst 3, 1) := by decide +kernel
theorem dX5_farOn_35 : decode cX5_farOn 35 = .ok (.iload_n 2, 1) := by decide +kernel
theorem dX5_farOn_36 : decode cX5_farOn 36 = .ok (.imul, 1) := by decide +kernel
theorem dX5_farOn_37 : decode cX5_farOn 37 = .ok (.iaload, 1) := by decide +kernel
theorem dX5_farOn_38 : decode cX5_farOn 38 = .ok (.istore 6, 2) := by decide +kernel
theorem dX5_farOn_40 : decode cX5_farOn 40 = .ok (.aload_n 0, 1) := by decide +kernel
theorem dX5_farOn_41 : decode cX5_farOn 41 = .ok (.iload_n 1, 1) := by decide +kernel
theorem dX5_farOn_42 : decode cX5_farOn 42 = .ok (.iload 5, 2) := by decide +kernel
theorem dX5_farOn_44 : decode cX5_farOn 44 = .ok (.invokevirtual 151, 3) := by decide +kernel
theorem dX5_farOn_47 : decode cX5_farOn 47 = .ok (.istore 7, 2) := by decide +kernel
theorem dX5_farOn_49 : decode cX5_farOn 49 = .ok (.aload_n 0, 1) := by decide +kernel
theorem dX5_farOn_50 : decode cX5_farOn 50 = .ok (.iload_n 1, 1) := by decide +kernel
theorem dX5_farOn_51 : decode cX5_farOn 51 = .ok (.iload 6, 2) := by decide +kernel
theorem dX5_farOn_53 : decode cX5_farOn 53 = .ok (.invokevirtual 151, 3) := by decide +kernel
theorem dX5_farOn_56 : decode cX5_farOn 56 = .ok (.istore 8, 2) := by decide +kernel
theorem dX5_farOn_58 : decode cX5_farOn 58 = .ok (.iload 7, 2) := by decide +kernel
theorem dX5_farOn_60 : decode cX5_farOn 60 = .ok (.bipush (-9), 2) := by decide +kernel
theorem dX5_farOn_62 : decode cX5_farOn 62 = .ok (.if_icmp .ne 8, 3) := by decide +kernel
theorem dX5_farOn_65 : decode cX5_farOn 65 = .ok (.bipush (-9), 2) := by decide +kernel
theorem dX5_farOn_67 : decode cX5_farOn 67 = .ok (.goto 25, 3) := by decide +kernel
theorem dX5_farOn_70 : decode cX5_farOn 70 = .ok (.iload 7, 2) := by decide +kernel
theorem dX5_farOn_72 : decode cX5_farOn 72 = .ok (.iload_n 3, 1) := by decide +kernel
theorem dX5_farOn_73 : decode cX5_farOn 73 = .ok (.iadd, 1) := by decide +kernel
theorem dX5_farOn_74 : decode cX5_farOn 74 = .ok (.iload 8, 2) := by decide +kernel
theorem dX5_farOn_76 : decode cX5_farOn 76 = .ok (.aload_n 0, 1) := by decide +kernel
theorem dX5_farOn_77 : decode cX5_farOn 77 = .ok (.getfield 16, 3) := by decide +kernel
theorem dX5_farOn_80 : decode cX5_farOn 80 = .ok (.iconst 3, 1) := by decide +kernel
theorem dX5_farOn_81 : decode cX5_farOn 81 = .ok (.iload_n 2, 1) := by decide +kernel
theorem dX5_farOn_82 : decode cX5_farOn 82 = .ok (.imul, 1) := by decide +kernel
theorem dX5_farOn_83 : decode cX5_farOn 83 = .ok (.iconst 2, 1) := by decide +kernel
theorem dX5_farOn_84 : decode cX5_farOn 84 = .ok (.iadd, 1) := by decide +kernel
theorem dX5_farOn_85 : decode cX5_farOn 85 = .ok (.iaload, 1) := by decide +kernel
theorem dX5_farOn_86 : decode cX5_farOn 86 = .ok (.iadd, 1) := by decide +kernel
theorem dX5_farOn_87 : decode cX5_farOn 87 = .ok (.iload_n 3, 1) := by decide +kernel
theorem dX5_farOn_88 : decode cX5_farOn 88 = .ok (.isub, 1) := by decide +kernel
theorem dX5_farOn_89 : decode cX5_farOn 89 = .ok (.invokestatic 141, 3) := by decide +kernel
theorem dX5_farOn_92 : decode cX5_farOn 92 = .ok (.ireturn, 1) := by decide +kernel
