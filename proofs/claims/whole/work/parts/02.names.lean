theorem dX0_init_0 : decode cX0_init 0 = .ok (.aload_n 0, 1) := by decide +kernel
theorem dX0_init_1 : decode cX0_init 1 = .ok (.invokespecial 3, 3) := by decide +kernel
theorem dX0_init_4 : decode cX0_init 4 = .ok (.aload_n 0, 1) := by decide +kernel
theorem dX0_init_5 : decode cX0_init 5 = .ok (.bipush 6, 2) := by decide +kernel
theorem dX0_init_7 : decode cX0_init 7 = .ok (.newarray .int, 2) := by decide +kernel
theorem dX0_init_9 : decode cX0_init 9 = .ok (.putfield 9, 3) := by decide +kernel
theorem dX0_init_12 : decode cX0_init 12 = .ok (.aload_n 0, 1) := by decide +kernel
theorem dX0_init_13 : decode cX0_init 13 = .ok (.bipush 6, 2) := by decide +kernel
theorem dX0_init_15 : decode cX0_init 15 = .ok (.newarray .int, 2) := by decide +kernel
theorem dX0_init_17 : decode cX0_init 17 = .ok (.putfield 15, 3) := by decide +kernel
theorem dX0_init_20 : decode cX0_init 20 = .ok (.aload_n 0, 1) := by decide +kernel
theorem dX0_init_21 : decode cX0_init 21 = .ok (.iconst 0, 1) := by decide +kernel
theorem dX0_init_22 : decode cX0_init 22 = .ok (.putfield 18, 3) := by decide +kernel
theorem dX0_init_25 : decode cX0_init 25 = .ok (.aload_n 0, 1) := by decide +kernel
theorem dX0_init_26 : decode cX0_init 26 = .ok (.ldc 22, 2) := by decide +kernel
theorem dX0_init_28 : decode cX0_init 28 = .ok (.putfield 23, 3) := by decide +kernel
theorem dX0_init_31 : decode cX0_init 31 = .ok (.return_, 1) := by decide +kernel
set_option maxRecDepth 20000 in
theorem ggX0_find_X1_bidOf : GoodIn wsX0_find wsX1_bidOf := goodIn_r _ [9, 10, 11, 12, 13, 8, 14, 15, 35, 36, 37, 38, 39, 40, 41, 42, 43, 44, 45, 46, 47, 48] (by decide +kernel) (by decide +kernel)
set_option maxRecDepth 20000 in
theorem gX0_find_X1_bidOf : GoodIn wsX0_find (wsV RX0 26 RX1 yX1_bidOf wsX1_bidOf) := goodIn_app (goodIn_of _ (by decide +kernel)) ggX0_find_X1_bidOf
set_option maxRecDepth 20000 in
theorem ggX0_find_X0_extend : GoodIn wsX0_find wsX0_extend := goodIn_r _ [19, 4, 20, 21, 22, 23, 8, 24, 25, 11, 12, 13, 14, 15, 26, 27, 28, 18, 29, 2, 3, 30, 5, 6, 7, 9, 10, 16, 17, 31, 32, 33, 34, 35, 36, 37, 38, 39, 40, 41, 42, 43, 44, 45, 46, 47, 48] (by decide +kernel) (by decide +kernel)
set_option maxRecDepth 20000 in
theorem gX0_find_X0_extend : GoodIn wsX0_find (va_wsS RX0 32 yX0_extend wsX0_extend) := goodIn_app (goodIn_of _ (by decide +kernel)) ggX0_find_X0_extend
theorem dX0_find_0 : decode cX0_find 0 = .ok (.aload_n 0, 1) := by decide +kernel
theorem dX0_find_1 : decode cX0_find 1 = .ok (.ldc 22, 2) := by decide +kernel
theorem dX0_find_3 : decode cX0_find 3 = .ok (.putfield 23, 3) := by decide +kernel
theorem dX0_find_6 : decode cX0_find 6 = .ok (.aload_n 0, 1) := by decide +kernel
theorem dX0_find_7 : decode cX0_find 7 = .ok (.iconst 0, 1) := by decide +kernel
theorem dX0_find_8 : decode cX0_find 8 = .ok (.putfield 18, 3) := by decide +kernel
theorem dX0_find_11 : decode cX0_find 11 = .ok (.aload_n 0, 1) := by decide +kernel
theorem dX0_find_12 : decode cX0_find 12 = .ok (.getfield 9, 3) := by decide +kernel
theorem dX0_find_15 : decode cX0_find 15 = .ok (.iconst 0, 1) := by decide +kernel
theorem dX0_find_16 : decode cX0_find 16 = .ok (.iload_n 2, 1) := by decide +kernel
theorem dX0_find_17 : decode cX0_find 17 = .ok (.iastore, 1) := by decide +kernel
theorem dX0_find_18 : decode cX0_find 18 = .ok (.aload_n 0, 1) := by decide +kernel
theorem dX0_find_19 : decode cX0_find 19 = .ok (.aload_n 1, 1) := by decide +kernel
theorem dX0_find_20 : decode cX0_find 20 = .ok (.iconst 1, 1) := by decide +kernel
theorem dX0_find_21 : decode cX0_find 21 = .ok (.iconst 1, 1) := by decide +kernel
theorem dX0_find_22 : decode cX0_find 22 = .ok (.iload_n 2, 1) := by decide +kernel
theorem dX0_find_23 : decode cX0_find 23 = .ok (.ishl, 1) := by decide +kernel
theorem dX0_find_24 : decode cX0_find 24 = .ok (.aload_n 1, 1) := by decide +kernel
theorem dX0_find_25 : decode cX0_find 25 = .ok (.iload_n 2, 1) := by decide +kernel
theorem dX0_find_26 : decode cX0_find 26 = .ok (.invokevirtual 26, 3) := by decide +kernel
theorem dX0_find_29 : decode cX0_find 29 = .ok (.invokestatic 32, 3) := by decide +kernel
theorem dX0_find_32 : decode cX0_find 32 = .ok (.return_, 1) := by decide +kernel
set_option maxRecDepth 20000 in
theorem ggX0_extend_X1_distance : GoodIn wsX0_extend wsX1_distance := goodIn_r _ [7, 8, 9, 10, 11, 6, 12, 13, 33, 34, 35, 36, 37, 38, 39, 40, 41, 42, 43, 44, 45, 46] (by decide +kernel) (by decide +kernel)
set_option maxRecDepth 20000 in
theorem gX0_extend_X1_distance : GoodIn wsX0_extend (wsV RX0 36 RX1 yX1_distance wsX1_distance) := goodIn_app (goodIn_of _ (by decide +kernel)) ggX0_extend_X1_distance
set_option maxRecDepth 20000 in
theorem ggX0_extend_X0_offer : GoodIn wsX0_extend wsX0_offer := goodIn_r _ [18, 19, 20, 21, 1, 29, 30, 31, 32] (by decide +kernel) (by decide +kernel)
set_option maxRecDepth 20000 in
theorem gX0_extend_X0_offer : GoodIn wsX0_extend (wsV RX0 40 RX0 yX0_offer wsX0_offer) := goodIn_app (goodIn_of _ (by decide +kernel)) ggX0_extend_X0_offer
set_option maxRecDepth 20000 in
theorem ggX0_extend_X1_bidOf : GoodIn wsX0_extend wsX1_bidOf := goodIn_r _ [25, 26, 9, 10, 11, 6, 12, 13, 33, 34, 35, 36, 37, 38, 39, 40, 41, 42, 43, 44, 45, 46] (by decide +kernel) (by decide +kernel)
set_option maxRecDepth 20000 in
theorem gX0_extend_X1_bidOf : GoodIn wsX0_extend (wsV RX0 26 RX1 yX1_bidOf wsX1_bidOf) := goodIn_app (goodIn_of _ (by decide +kernel)) ggX0_extend_X1_bidOf
set_option maxRecDepth 20000 in
theorem ggX0_extend_X0_extend : GoodIn wsX0_extend wsX0_extend := goodIn_r _ [0, 1, 2, 3, 4, 5, 6, 7, 8, 9, 10, 11, 12, 13, 14, 15, 16, 17, 18, 19, 20, 21, 22, 23, 24, 25, 26, 27, 28, 29, 30, 31, 32, 33, 34, 35, 36, 37, 38, 39, 40, 41, 42, 43, 44, 45, 46] (by decide +kernel) (by decide +kernel)
set_option maxRecDepth 20000 in
theorem gX0_extend_X0_extend : GoodIn wsX0_extend (va_wsS RX0 32 yX0_extend wsX0_extend) := goodIn_app (goodIn_of _ (by decide +kernel)) ggX0_extend_X0_extend
theorem dX0_extend_0 : decode cX0_extend 0 = .ok (.iload_n 2, 1) := by decide +kernel
theorem dX0_extend_1 : decode cX0_extend 1 = .ok (.iconst 1, 1) := by decide +kernel
theorem dX0_extend_2 : decode cX0_extend 2 = .ok (.if_icmp .lt 9, 3) := by decide +kernel
theorem dX0_extend_5 : decode cX0_extend 5 = .ok (.iload_n 2, 1) := by decide +kernel
theorem dX0_extend_6 : decode cX0_extend 6 = .ok (.bipush 6, 2) := by decide +kernel
theorem dX0_extend_8 : decode cX0_extend 8 = .ok (.if_icmp .le 4, 3) := by decide +kernel
theorem dX0_extend_11 : decode cX0_extend 11 = .ok (.return_, 1) := by decide +kernel
theorem dX0_extend_12 : decode cX0_extend 12 = .ok (.aload_n 0, 1) := by decide +kernel
theorem dX0_extend_13 : decode cX0_extend 13 = .ok (.getfield 9, 3) := by decide +kernel
theorem dX0_extend_16 : decode cX0_extend 16 = .ok (.iload_n 2, 1) := by decide +kernel
theorem dX0_extend_17 : decode cX0_extend 17 = .ok (.iconst 1, 1) := by decide +kernel
theorem dX0_extend_18 : decode cX0_extend 18 = .ok (.isub, 1) := by decide +kernel
theorem dX0_extend_19 : decode cX0_extend 19 = .ok (.iaload, 1) := by decide +kernel
theorem dX0_extend_20 : decode cX0_extend 20 = .ok (.istore 5, 2) := by decide +kernel
theorem dX0_extend_22 : decode cX0_extend 22 = .ok (.aload_n 0, 1) := by decide +kernel
theorem dX0_extend_23 : decode cX0_extend 23 = .ok (.iload_n 2, 1) := by decide +kernel
theorem dX0_extend_24 : decode cX0_extend 24 = .ok (.iload 4, 2) := by decide +kernel
theorem dX0_extend_26 : decode cX0_extend 26 = .ok (.aload_n 1, 1) := by decide +kernel
theorem dX0_extend_27 : decode cX0_extend 27 = .ok (.iload 5, 2) := by decide +kernel
theorem dX0_extend_29 : decode cX0_extend 29 = .ok (.aload_n 0, 1) := by decide +kernel
theorem dX0_extend_30 : decode cX0_extend 30 = .ok (.getfield 9, 3) := by decide +kernel
theorem dX0_extend_33 : decode cX0_extend 33 = .ok (.iconst 0, 1) := by decide +kernel
theorem dX0_extend_34 : decode cX0_extend 34 = .ok (.iaload, 1) := by decide +kernel
theorem dX0_extend_35 : decode cX0_extend 35 = .ok (.invokevirtual 36, 3) := by decide +kernel
theorem dX0_extend_38 : decode cX0_extend 38 = .ok (.isub, 1) := by decide +kernel
theorem dX0_extend_39 : decode cX0_extend 39 = .ok (.invokevirtual 40, 3) := by decide +kernel
theorem dX0_extend_42 : decode cX0_extend 42 = .ok (.iload_n 2, 1) := by decide +kernel
theorem dX0_extend_43 : decode cX0_extend 43 = .ok (.bipush 6, 2) := by decide +kernel
theorem dX0_extend_45 : decode cX0_extend 45 = .ok (.if_icmp .lt 4, 3) := by decide +kernel
theorem dX0_extend_48 : decode cX0_extend 48 = .ok (.return_, 1) := by decide +kernel
theorem dX0_extend_49 : decode cX0_extend 49 = .ok (.iconst 0, 1) := by decide +kernel
theorem dX0_extend_50 : decode cX0_extend 50 = .ok (.istore 6, 2) := by decide +kernel
theorem dX0_extend_52 : decode cX0_extend 52 = .ok (.iload 6, 2) := by decide +kernel
theorem dX0_extend_54 : decode cX0_extend 54 = .ok (.aload_n 1, 1) := by decide +kernel
theorem dX0_extend_55 : decode cX0_extend 55 = .ok (.getfield 44, 3) := by decide +kernel
theorem dX0_extend_58 : decode cX0_extend 58 = .ok (.if_icmp .ge 72, 3) := by decide +kernel
theorem dX0_extend_61 : decode cX0_extend 61 = .ok (.aload_n 1, 1) := by decide +kernel
theorem dX0_extend_62 : decode cX0_extend 62 = .ok (.iload 5, 2) := by decide +kernel
theorem dX0_extend_64 : decode cX0_extend 64 = .ok (.iload 6, 2) := by decide +kernel
theorem dX0_extend_66 : decode cX0_extend 66 = .ok (.invokevirtual 36, 3) := by decide +kernel
theorem dX0_extend_69 : decode cX0_extend 69 = .ok (.istore 7, 2) := by decide +kernel
theorem dX0_extend_71 : decode cX0_extend 71 = .ok (.iload_n 3, 1) := by decide +kernel
theorem dX0_extend_72 : decode cX0_extend 72 = .ok (.iconst 1, 1) := by decide +kernel
theorem dX0_extend_73 : decode cX0_extend 73 = .ok (.iload 6, 2) := by decide +kernel
theorem dX0_extend_75 : decode cX0_extend 75 = .ok (.ishl, 1) := by decide +kernel
theorem dX0_extend_76 : decode cX0_extend 76 = .ok (.iand, 1) := by decide +kernel
theorem dX0_extend_77 : decode cX0_extend 77 = .ok (.ifCond .ne 47, 3) := by decide +kernel
theorem dX0_extend_80 : decode cX0_extend 80 = .ok (.iload 7, 2) := by decide +kernel
theorem dX0_extend_82 : decode cX0_extend 82 = .ok (.bipush (-9), 2) := by decide +kernel
theorem dX0_extend_84 : decode cX0_extend 84 = .ok (.if_icmp .ne 6, 3) := by decide +kernel
theorem dX0_extend_87 : decode cX0_extend 87 = .ok (.goto 37, 3) := by decide +kernel
theorem dX0_extend_90 : decode cX0_extend 90 = .ok (.aload_n 0, 1) := by decide +kernel
theorem dX0_extend_91 : decode cX0_extend 91 = .ok (.getfield 9, 3) := by decide +kernel
theorem dX0_extend_94 : decode cX0_extend 94 = .ok (.iload_n 2, 1) := by decide +kernel
theorem dX0_extend_95 : decode cX0_extend 95 = .ok (.iload 6, 2) := by decide +kernel
theorem dX0_extend_97 : decode cX0_extend 97 = .ok (.iastore, 1) := by decide +kernel
theorem dX0_extend_98 : decode cX0_extend 98 = .ok (.aload_n 0, 1) := by decide +kernel
theorem dX0_extend_99 : decode cX0_extend 99 = .ok (.aload_n 1, 1) := by decide +kernel
theorem dX0_extend_100 : decode cX0_extend 100 = .ok (.iload_n 2, 1) := by decide +kernel
theorem dX0_extend_101 : decode cX0_extend 101 = .ok (.iconst 1, 1) := by decide +kernel
theorem dX0_extend_102 : decode cX0_extend 102 = .ok (.iadd, 1) := by decide +kernel
theorem dX0_extend_103 : decode cX0_extend 103 = .ok (.iload_n 3, 1) := by decide +kernel
theorem dX0_extend_104 : decode cX0_extend 104 = .ok (.iconst 1, 1) := by decide +kernel
theorem dX0_extend_105 : decode cX0_extend 105 = .ok (.iload 6, 2) := by decide +kernel
theorem dX0_extend_107 : decode cX0_extend 107 = .ok (.ishl, 1) := by decide +kernel
theorem dX0_extend_108 : decode cX0_extend 108 = .ok (.ior, 1) := by decide +kernel
theorem dX0_extend_109 : decode cX0_extend 109 = .ok (.iload 4, 2) := by decide +kernel
theorem dX0_extend_111 : decode cX0_extend 111 = .ok (.aload_n 1, 1) := by decide +kernel
theorem dX0_extend_112 : decode cX0_extend 112 = .ok (.iload 6, 2) := by decide +kernel
theorem dX0_extend_114 : decode cX0_extend 114 = .ok (.invokevirtual 26, 3) := by decide +kernel
theorem dX0_extend_117 : decode cX0_extend 117 = .ok (.iadd, 1) := by decide +kernel
theorem dX0_extend_118 : decode cX0_extend 118 = .ok (.iload 7, 2) := by decide +kernel
theorem dX0_extend_120 : decode cX0_extend 120 = .ok (.isub, 1) := by decide +kernel
theorem dX0_extend_121 : decode cX0_extend 121 = .ok (.invokestatic 32, 3) := by decide +kernel
theorem dX0_extend_124 : decode cX0_extend 124 = .ok (.iinc 6 1, 3) := by decide +kernel
theorem dX0_extend_127 : decode cX0_extend 127 = .ok (.goto (-75), 3) := by decide +kernel
theorem dX0_extend_130 : decode cX0_extend 130 = .ok (.return_, 1) := by decide +kernel
theorem dX0_offer_0 : decode cX0_offer 0 = .ok (.iload_n 2, 1) := by decide +kernel
theorem dX0_offer_1 : decode cX0_offer 1 = .ok (.aload_n 0, 1) := by decide +kernel
theorem dX0_offer_2 : decode cX0_offer 2 = .ok (.getfield 23, 3) := by decide +kernel
theorem dX0_offer_5 : decode cX0_offer 5 = .ok (.if_icmp .le 9, 3) := by decide +kernel
theorem dX0_offer_8 : decode cX0_offer 8 = .ok (.iload_n 1, 1) := by decide +kernel
theorem dX0_offer_9 : decode cX0_offer 9 = .ok (.bipush 6, 2) := by decide +kernel
theorem dX0_offer_11 : decode cX0_offer 11 = .ok (.if_icmp .le 4, 3) := by decide +kernel
theorem dX0_offer_14 : decode cX0_offer 14 = .ok (.return_, 1) := by decide +kernel
theorem dX0_offer_15 : decode cX0_offer 15 = .ok (.aload_n 0, 1) := by decide +kernel
theorem dX0_offer_16 : decode cX0_offer 16 = .ok (.iload_n 2, 1) := by decide +kernel
theorem dX0_offer_17 : decode cX0_offer 17 = .ok (.putfield 23, 3) := by decide +kernel
theorem dX0_offer_20 : decode cX0_offer 20 = .ok (.aload_n 0, 1) := by decide +kernel
theorem dX0_offer_21 : decode cX0_offer 21 = .ok (.iload_n 1, 1) := by decide +kernel
theorem dX0_offer_22 : decode cX0_offer 22 = .ok (.putfield 18, 3) := by decide +kernel
theorem dX0_offer_25 : decode cX0_offer 25 = .ok (.iconst 0, 1) := by decide +kernel
theorem dX0_offer_26 : decode cX0_offer 26 = .ok (.istore_n 3, 1) := by decide +kernel
theorem dX0_offer_27 : decode cX0_offer 27 = .ok (.iload_n 3, 1) := by decide +kernel
theorem dX0_offer_28 : decode cX0_offer 28 = .ok (.iload_n 1, 1) := by decide +kernel
theorem dX0_offer_29 : decode cX0_offer 29 = .ok (.if_icmp .ge 21, 3) := by decide +kernel
theorem dX0_offer_32 : decode cX0_offer 32 = .ok (.aload_n 0, 1) := by decide +kernel
theorem dX0_offer_33 : decode cX0_offer 33 = .ok (.getfield 15, 3) := by decide +kernel
theorem dX0_offer_36 : decode cX0_offer 36 = .ok (.iload_n 3, 1) := by decide +kernel
theorem dX0_offer_37 : decode cX0_offer 37 = .ok (.aload_n 0, 1) := by decide +kernel
theorem dX0_offer_38 : decode cX0_offer 38 = .ok (.getfield 9, 3) := by decide +kernel
theorem dX0_offer_41 : decode cX0_offer 41 = .ok (.iload_n 3, 1) := by decide +kernel
theorem dX0_offer_42 : decode cX0_offer 42 = .ok (.iaload, 1) := by decide +kernel
theorem dX0_offer_43 : decode cX0_offer 43 = .ok (.iastore, 1) := by decide +kernel
theorem dX0_offer_44 : decode cX0_offer 44 = .ok (.iinc 3 1, 3) := by decide +kernel
theorem dX0_offer_47 : decode cX0_offer 47 = .ok (.goto (-20), 3) := by decide +kernel
theorem dX0_offer_50 : decode cX0_offer 50 = .ok (.return_, 1) := by decide +kernel
theorem dX0_townOf_0 : decode cX0_townOf 0 = .ok (.iload_n 1, 1) := by decide +kernel
theorem dX0_townOf_1 : decode cX0_townOf 1 = .ok (.ifCond .lt 20, 3) := by decide +kernel
theorem dX0_townOf_4 : decode cX0_townOf 4 = .ok (.iload_n 1, 1) := by decide +kernel
theorem dX0_townOf_5 : decode cX0_townOf 5 = .ok (.aload_n 0, 1) := by decide +kernel
theorem dX0_townOf_6 : decode cX0_townOf 6 = .ok (.getfield 18, 3) := by decide +kernel
theorem dX0_townOf_9 : decode cX0_townOf 9 = .ok (.if_icmp .ge 12, 3) := by decide +kernel
theorem dX0_townOf_12 : decode cX0_townOf 12 = .ok (.aload_n 0, 1) := by decide +kernel
theorem dX0_townOf_13 : decode cX0_townOf 13 = .ok (.getfield 15, 3) := by decide +kernel
theorem dX0_townOf_16 : decode cX0_townOf 16 = .ok (.iload_n 1, 1) := by decide +kernel
theorem dX0_townOf_17 : decode cX0_townOf 17 = .ok (.iaload, 1) := by decide +kernel
theorem dX0_townOf_18 : decode cX0_townOf 18 = .ok (.goto 5, 3) := by decide +kernel
theorem dX0_townOf_21 : decode cX0_townOf 21 = .ok (.bipush (-9), 2) := by decide +kernel
theorem dX0_townOf_23 : decode cX0_townOf 23 = .ok (.ireturn, 1) := by decide +kernel
theorem dX1_init_0 : decode cX1_init 0 = .ok (.aload_n 0, 1) := by decide +kernel
theorem dX1_init_1 : decode cX1_init 1 = .ok (.invokespecial 3, 3) := by decide +kernel
theorem dX1_init_4 : decode cX1_init 4 = .ok (.aload_n 0, 1) := by decide +kernel
theorem dX1_init_5 : decode cX1_init 5 = .ok (.iconst 0, 1) := by decide +kernel
theorem dX1_init_6 : decode cX1_init 6 = .ok (.putfield 9, 3) := by decide +kernel
theorem dX1_init_9 : decode cX1_init 9 = .ok (.aload_n 0, 1) := by decide +kernel
theorem dX1_init_10 : decode cX1_init 10 = .ok (.bipush 6, 2) := by decide +kernel
theorem dX1_init_12 : decode cX1_init 12 = .ok (.newarray .int, 2) := by decide +kernel
theorem dX1_init_14 : decode cX1_init 14 = .ok (.putfield 15, 3) := by decide +kernel
theorem dX1_init_17 : decode cX1_init 17 = .ok (.aload_n 0, 1) := by decide +kernel
theorem dX1_init_18 : decode cX1_init 18 = .ok (.iconst 0, 1) := by decide +kernel
theorem dX1_init_19 : decode cX1_init 19 = .ok (.putfield 19, 3) := by decide +kernel
theorem dX1_init_22 : decode cX1_init 22 = .ok (.aload_n 0, 1) := by decide +kernel
theorem dX1_init_23 : decode cX1_init 23 = .ok (.bipush 10, 2) := by decide +kernel
theorem dX1_init_25 : decode cX1_init 25 = .ok (.newarray .int, 2) := by decide +kernel
theorem dX1_init_27 : decode cX1_init 27 = .ok (.putfield 22, 3) := by decide +kernel
theorem dX1_init_30 : decode cX1_init 30 = .ok (.aload_n 0, 1) := by decide +kernel
theorem dX1_init_31 : decode cX1_init 31 = .ok (.bipush 10, 2) := by decide +kernel
theorem dX1_init_33 : decode cX1_init 33 = .ok (.newarray .int, 2) := by decide +kernel
theorem dX1_init_35 : decode cX1_init 35 = .ok (.putfield 25, 3) := by decide +kernel
theorem dX1_init_38 : decode cX1_init 38 = .ok (.aload_n 0, 1) := by decide +kernel
theorem dX1_init_39 : decode cX1_init 39 = .ok (.bipush 10, 2) := by decide +kernel
theorem dX1_init_41 : decode cX1_init 41 = .ok (.newarray .int, 2) := by decide +kernel
theorem dX1_init_43 : decode cX1_init 43 = .ok (.putfield 28, 3) := by decide +kernel
theorem dX1_init_46 : decode cX1_init 46 = .ok (.aload_n 0, 1) := by decide +kernel
theorem dX1_init_47 : decode cX1_init 47 = .ok (.iconst 0, 1) := by decide +kernel
theorem dX1_init_48 : decode cX1_init 48 = .ok (.putfield 31, 3) := by decide +kernel
theorem dX1_init_51 : decode cX1_init 51 = .ok (.aload_n 0, 1) := by decide +kernel
theorem dX1_init_52 : decode cX1_init 52 = .ok (.bipush 10, 2) := by decide +kernel
theorem dX1_init_54 : decode cX1_init 54 = .ok (.newarray .int, 2) := by decide +kernel
theorem dX1_init_56 : decode cX1_init 56 = .ok (.putfield 34, 3) := by decide +kernel
theorem dX1_init_59 : decode cX1_init 59 = .ok (.aload_n 0, 1) := by decide +kernel
theorem dX1_init_60 : decode cX1_init 60 = .ok (.bipush 10, 2) := by decide +kernel
theorem dX1_init_62 : decode cX1_init 62 = .ok (.newarray .int, 2) := by decide +kernel
theorem dX1_init_64 : decode cX1_init 64 = .ok (.putfield 37, 3) := by decide +kernel
theorem dX1_init_67 : decode cX1_init 67 = .ok (.aload_n 0, 1) := by decide +kernel
theorem dX1_init_68 : decode cX1_init 68 = .ok (.bipush 10, 2) := by decide +kernel
theorem dX1_init_70 : decode cX1_init 70 = .ok (.newarray .int, 2) := by decide +kernel
theorem dX1_init_72 : decode cX1_init 72 = .ok (.putfield 40, 3) := by decide +kernel
theorem dX1_init_75 : decode cX1_init 75 = .ok (.aload_n 0, 1) := by decide +kernel
theorem dX1_init_76 : decode cX1_init 76 = .ok (.bipush 10, 2) := by decide +kernel
theorem dX1_init_78 : decode cX1_init 78 = .ok (.newarray .int, 2) := by decide +kernel
theorem dX1_init_80 : decode cX1_init 80 = .ok (.putfield 43, 3) := by decide +kernel
theorem dX1_init_83 : decode cX1_init 83 = .ok (.aload_n 0, 1) := by decide +kernel
theorem dX1_init_84 : decode cX1_init 84 = .ok (.bipush 36, 2) := by decide +kernel
theorem dX1_init_86 : decode cX1_init 86 = .ok (.newarray .int, 2) := by decide +kernel
theorem dX1_init_88 : decode cX1_init 88 = .ok (.putfield 46, 3) := by decide +kernel
theorem dX1_init_91 : decode cX1_init 91 = .ok (.aload_n 0, 1) := by decide +kernel
theorem dX1_init_92 : decode cX1_init 92 = .ok (.iconst 0, 1) := by decide +kernel
theorem dX1_init_93 : decode cX1_init 93 = .ok (.putfield 49, 3) := by decide +kernel
theorem dX1_init_96 : decode cX1_init 96 = .ok (.aload_n 0, 1) := by decide +kernel
theorem dX1_init_97 : decode cX1_init 97 = .ok (.sipush 296, 3) := by decide +kernel
theorem dX1_init_100 : decode cX1_init 100 = .ok (.newarray .int, 2) := by decide +kernel
theorem dX1_init_102 : decode cX1_init 102 = .ok (.putfield 52, 3) := by decide +kernel
theorem dX1_init_105 : decode cX1_init 105 = .ok (.return_, 1) := by decide +kernel
theorem dX1_reset_0 : decode cX1_reset 0 = .ok (.aload_n 0, 1) := by decide +kernel
theorem dX1_reset_1 : decode cX1_reset 1 = .ok (.iconst 0, 1) := by decide +kernel
theorem dX1_reset_2 : decode cX1_reset 2 = .ok (.putfield 9, 3) := by decide +kernel
theorem dX1_reset_5 : decode cX1_reset 5 = .ok (.aload_n 0, 1) := by decide +kernel
theorem dX1_reset_6 : decode cX1_reset 6 = .ok (.iconst 0, 1) := by decide +kernel
theorem dX1_reset_7 : decode cX1_reset 7 = .ok (.putfield 19, 3) := by decide +kernel
theorem dX1_reset_10 : decode cX1_reset 10 = .ok (.aload_n 0, 1) := by decide +kernel
theorem dX1_reset_11 : decode cX1_reset 11 = .ok (.iconst 0, 1) := by decide +kernel
theorem dX1_reset_12 : decode cX1_reset 12 = .ok (.putfield 31, 3) := by decide +kernel
theorem dX1_reset_15 : decode cX1_reset 15 = .ok (.return_, 1) := by decide +kernel
theorem dX1_addTown_0 : decode cX1_addTown 0 = .ok (.aload_n 0, 1) := by decide +kernel
theorem dX1_addTown_1 : decode cX1_addTown 1 = .ok (.getfield 9, 3) := by decide +kernel
theorem dX1_addTown_4 : decode cX1_addTown 4 = .ok (.bipush 6, 2) := by decide +kernel
theorem dX1_addTown_6 : decode cX1_addTown 6 = .ok (.if_icmp .lt 4, 3) := by decide +kernel
theorem dX1_addTown_9 : decode cX1_addTown 9 = .ok (.return_, 1) := by decide +kernel
theorem dX1_addTown_10 : decode cX1_addTown 10 = .ok (.aload_n 0, 1) := by decide +kernel
theorem dX1_addTown_11 : decode cX1_addTown 11 = .ok (.getfield 15, 3) := by decide +kernel
theorem dX1_addTown_14 : decode cX1_addTown 14 = .ok (.aload_n 0, 1) := by decide +kernel
theorem dX1_addTown_15 : decode cX1_addTown 15 = .ok (.getfield 9, 3) := by decide +kernel
theorem dX1_addTown_18 : decode cX1_addTown 18 = .ok (.iload_n 1, 1) := by decide +kernel
theorem dX1_addTown_19 : decode cX1_addTown 19 = .ok (.iastore, 1) := by decide +kernel
theorem dX1_addTown_20 : decode cX1_addTown 20 = .ok (.aload_n 0, 1) := by decide +kernel
theorem dX1_addTown_21 : decode cX1_addTown 21 = .ok (.dup, 1) := by decide +kernel
theorem dX1_addTown_22 : decode cX1_addTown 22 = .ok (.getfield 9, 3) := by decide +kernel
theorem dX1_addTown_25 : decode cX1_addTown 25 = .ok (.iconst 1, 1) := by decide +kernel
theorem dX1_addTown_26 : decode cX1_addTown 26 = .ok (.iadd, 1) := by decide +kernel
theorem dX1_addTown_27 : decode cX1_addTown 27 = .ok (.putfield 9, 3) := by decide +kernel
theorem dX1_addTown_30 : decode cX1_addTown 30 = .ok (.return_, 1) := by decide +kernel
theorem dX1_addRoad_0 : decode cX1_addRoad 0 = .ok (.aload_n 0, 1) := by decide +kernel
theorem dX1_addRoad_1 : decode cX1_addRoad 1 = .ok (.getfield 19, 3) := by decide +kernel
theorem dX1_addRoad_4 : decode cX1_addRoad 4 = .ok (.bipush 10, 2) := by decide +kernel
theorem dX1_addRoad_6 : decode cX1_addRoad 6 = .ok (.if_icmp .lt 4, 3) := by decide +kernel
theorem dX1_addRoad_9 : decode cX1_addRoad 9 = .ok (.return_, 1) := by decide +kernel
theorem dX1_addRoad_10 : decode cX1_addRoad 10 = .ok (.aload_n 0, 1) := by decide +kernel
theorem dX1_addRoad_11 : decode cX1_addRoad 11 = .ok (.getfield 22, 3) := by decide +kernel
theorem dX1_addRoad_14 : decode cX1_addRoad 14 = .ok (.aload_n 0, 1) := by decide +kernel
theorem dX1_addRoad_15 : decode cX1_addRoad 15 = .ok (.getfield 19, 3) := by decide +kernel
theorem dX1_addRoad_18 : decode cX1_addRoad 18 = .ok (.iload_n 1, 1) := by decide +kernel
theorem dX1_addRoad_19 : decode cX1_addRoad 19 = .ok (.iastore, 1) := by decide +kernel
theorem dX1_addRoad_20 : decode cX1_addRoad 20 = .ok (.aload_n 0, 1) := by decide +kernel
theorem dX1_addRoad_21 : decode cX1_addRoad 21 = .ok (.getfield 25, 3) := by decide +kernel
theorem dX1_addRoad_24 : decode cX1_addRoad 24 = .ok (.aload_n 0, 1) := by decide +kernel
theorem dX1_addRoad_25 : decode cX1_addRoad 25 = .ok (.getfield 19, 3) := by decide +kernel
theorem dX1_addRoad_28 : decode cX1_addRoad 28 = .ok (.iload_n 2, 1) := by decide +kernel
theorem dX1_addRoad_29 : decode cX1_addRoad 29 = .ok (.iastore, 1) := by decide +kernel
theorem dX1_addRoad_30 : decode cX1_addRoad 30 = .ok (.aload_n 0, 1) := by decide +kernel
theorem dX1_addRoad_31 : decode cX1_addRoad 31 = .ok (.getfield 28, 3) := by decide +kernel
theorem dX1_addRoad_34 : decode cX1_addRoad 34 = .ok (.aload_n 0, 1) := by decide +kernel
theorem dX1_addRoad_35 : decode cX1_addRoad 35 = .ok (.getfield 19, 3) := by decide +kernel
theorem dX1_addRoad_38 : decode cX1_addRoad 38 = .ok (.iload_n 3, 1) := by decide +kernel
theorem dX1_addRoad_39 : decode cX1_addRoad 39 = .ok (.iastore, 1) := by decide +kernel
theorem dX1_addRoad_40 : decode cX1_addRoad 40 = .ok (.aload_n 0, 1) := by decide +kernel
theorem dX1_addRoad_41 : decode cX1_addRoad 41 = .ok (.dup, 1) := by decide +kernel
theorem dX1_addRoad_42 : decode cX1_addRoad 42 = .ok (.getfield 19, 3) := by decide +kernel
theorem dX1_addRoad_45 : decode cX1_addRoad 45 = .ok (.iconst 1, 1) := by decide +kernel
theorem dX1_addRoad_46 : decode cX1_addRoad 46 = .ok (.iadd, 1) := by decide +kernel
theorem dX1_addRoad_47 : decode cX1_addRoad 47 = .ok (.putfield 19, 3) := by decide +kernel
theorem dX1_addRoad_50 : decode cX1_addRoad 50 = .ok (.return_, 1) := by decide +kernel
set_option maxRecDepth 20000 in
theorem ggX1_addStop_X1_wayToNextStop : GoodIn wsX1_addStop wsX1_wayToNextStop := goodIn_r _ [11, 1, 2, 12, 13, 14, 15, 16, 17, 10, 18, 27, 28, 29, 30, 31, 32, 33, 34, 35, 36, 37, 38, 39, 40] (by decide +kernel) (by decide +kernel)
set_option maxRecDepth 20000 in
theorem gX1_addStop_X1_wayToNextStop : GoodIn wsX1_addStop (wsV RX1 55 RX1 yX1_wayToNextStop wsX1_wayToNextStop) := goodIn_app (goodIn_of _ (by decide +kernel)) ggX1_addStop_X1_wayToNextStop
set_option maxRecDepth 20000 in
theorem ggX1_addStop_X1_isRoad : GoodIn wsX1_addStop wsX1_isRoad := goodIn_r _ [22, 12, 27, 28, 29, 30, 31, 32, 33, 34, 35, 36, 37, 38, 39, 40] (by decide +kernel) (by decide +kernel)
set_option maxRecDepth 20000 in
theorem gX1_addStop_X1_isRoad : GoodIn wsX1_addStop (wsV RX1 59 RX1 yX1_isRoad wsX1_isRoad) := goodIn_app (goodIn_of _ (by decide +kernel)) ggX1_addStop_X1_isRoad
set_option maxRecDepth 20000 in
theorem ggX1_addStop_X1_isStop : GoodIn wsX1_addStop wsX1_isStop := goodIn_r _ [18, 1, 27, 28, 29, 30, 31, 32, 33, 34, 35, 36, 37, 38, 39, 40] (by decide +kernel) (by decide +kernel)
set_option maxRecDepth 20000 in
theorem gX1_addStop_X1_isStop : GoodIn wsX1_addStop (wsV RX1 63 RX1 yX1_isStop wsX1_isStop) := goodIn_app (goodIn_of _ (by decide +kernel)) ggX1_addStop_X1_isStop
set_option maxRecDepth 20000 in
theorem ggX1_addStop_X1_leaves : GoodIn wsX1_addStop wsX1_leaves := goodIn_r _ [26, 5, 3, 15, 16, 17, 10, 18, 1, 27, 28, 29, 30, 31, 32, 33, 34, 35, 36, 37, 38, 39, 40] (by decide +kernel) (by decide +kernel)
set_option maxRecDepth 20000 in
theorem gX1_addStop_X1_leaves : GoodIn wsX1_addStop (wsV RX1 66 RX1 yX1_leaves wsX1_leaves) := goodIn_app (goodIn_of _ (by decide +kernel)) ggX1_addStop_X1_leaves
theorem dX1_addStop_0 : decode cX1_addStop 0 = .ok (.aload_n 0, 1) := by decide +kernel
theorem dX1_addStop_1 : decode cX1_addStop 1 = .ok (.getfield 31, 3) := by decide +kernel
theorem dX1_addStop_4 : decode cX1_addStop 4 = .ok (.bipush 10, 2) := by decide +kernel
theorem dX1_addStop_6 : decode cX1_addStop 6 = .ok (.if_icmp .lt 4, 3) := by decide +kernel
theorem dX1_addStop_9 : decode cX1_addStop 9 = .ok (.return_, 1) := by decide +kernel
theorem dX1_addStop_10 : decode cX1_addStop 10 = .ok (.aload_n 0, 1) := by decide +kernel
theorem dX1_addStop_11 : decode cX1_addStop 11 = .ok (.iload_n 1, 1) := by decide +kernel
theorem dX1_addStop_12 : decode cX1_addStop 12 = .ok (.invokevirtual 55, 3) := by decide +kernel
theorem dX1_addStop_15 : decode cX1_addStop 15 = .ok (.istore_n 3, 1) := by decide +kernel
theorem dX1_addStop_16 : decode cX1_addStop 16 = .ok (.aload_n 0, 1) := by decide +kernel
theorem dX1_addStop_17 : decode cX1_addStop 17 = .ok (.getfield 34, 3) := by decide +kernel
theorem dX1_addStop_20 : decode cX1_addStop 20 = .ok (.aload_n 0, 1) := by decide +kernel
theorem dX1_addStop_21 : decode cX1_addStop 21 = .ok (.getfield 31, 3) := by decide +kernel
theorem dX1_addStop_24 : decode cX1_addStop 24 = .ok (.iload_n 1, 1) := by decide +kernel
theorem dX1_addStop_25 : decode cX1_addStop 25 = .ok (.iastore, 1) := by decide +kernel
theorem dX1_addStop_26 : decode cX1_addStop 26 = .ok (.aload_n 0, 1) := by decide +kernel
theorem dX1_addStop_27 : decode cX1_addStop 27 = .ok (.getfield 37, 3) := by decide +kernel
theorem dX1_addStop_30 : decode cX1_addStop 30 = .ok (.aload_n 0, 1) := by decide +kernel
theorem dX1_addStop_31 : decode cX1_addStop 31 = .ok (.getfield 31, 3) := by decide +kernel
theorem dX1_addStop_34 : decode cX1_addStop 34 = .ok (.iload_n 2, 1) := by decide +kernel
theorem dX1_addStop_35 : decode cX1_addStop 35 = .ok (.iastore, 1) := by decide +kernel
theorem dX1_addStop_36 : decode cX1_addStop 36 = .ok (.aload_n 0, 1) := by decide +kernel
theorem dX1_addStop_37 : decode cX1_addStop 37 = .ok (.getfield 43, 3) := by decide +kernel
theorem dX1_addStop_40 : decode cX1_addStop 40 = .ok (.aload_n 0, 1) := by decide +kernel
theorem dX1_addStop_41 : decode cX1_addStop 41 = .ok (.getfield 31, 3) := by decide +kernel
theorem dX1_addStop_44 : decode cX1_addStop 44 = .ok (.iload_n 3, 1) := by decide +kernel
theorem dX1_addStop_45 : decode cX1_addStop 45 = .ok (.iastore, 1) := by decide +kernel
theorem dX1_addStop_46 : decode cX1_addStop 46 = .ok (.aload_n 0, 1) := by decide +kernel
theorem dX1_addStop_47 : decode cX1_addStop 47 = .ok (.getfield 40, 3) := by decide +kernel
theorem dX1_addStop_50 : decode cX1_addStop 50 = .ok (.aload_n 0, 1) := by decide +kernel
theorem dX1_addStop_51 : decode cX1_addStop 51 = .ok (.getfield 31, 3) := by decide +kernel
theorem dX1_addStop_54 : decode cX1_addStop 54 = .ok (.aload_n 0, 1) := by decide +kernel
theorem dX1_addStop_55 : decode cX1_addStop 55 = .ok (.iload_n 3, 1) := by decide +kernel
theorem dX1_addStop_56 : decode cX1_addStop 56 = .ok (.invokevirtual 59, 3) := by decide +kernel
theorem dX1_addStop_59 : decode cX1_addStop 59 = .ok (.ifCond .eq 36, 3) := by decide +kernel
theorem dX1_addStop_62 : decode cX1_addStop 62 = .ok (.aload_n 0, 1) := by decide +kernel
theorem dX1_addStop_63 : decode cX1_addStop 63 = .ok (.aload_n 0, 1) := by decide +kernel
theorem dX1_addStop_64 : decode cX1_addStop 64 = .ok (.getfield 31, 3) := by decide +kernel
theorem dX1_addStop_67 : decode cX1_addStop 67 = .ok (.iconst 1, 1) := by decide +kernel
theorem dX1_addStop_68 : decode cX1_addStop 68 = .ok (.isub, 1) := by decide +kernel
theorem dX1_addStop_69 : decode cX1_addStop 69 = .ok (.invokevirtual 63, 3) := by decide +kernel
theorem dX1_addStop_72 : decode cX1_addStop 72 = .ok (.ifCond .eq 23, 3) := by decide +kernel
theorem dX1_addStop_75 : decode cX1_addStop 75 = .ok (.aload_n 0, 1) := by decide +kernel
theorem dX1_addStop_76 : decode cX1_addStop 76 = .ok (.aload_n 0, 1) := by decide +kernel
theorem dX1_addStop_77 : decode cX1_addStop 77 = .ok (.getfield 31, 3) := by decide +kernel
theorem dX1_addStop_80 : decode cX1_addStop 80 = .ok (.iconst 1, 1) := by decide +kernel
theorem dX1_addStop_81 : decode cX1_addStop 81 = .ok (.isub, 1) := by decide +kernel
theorem dX1_addStop_82 : decode cX1_addStop 82 = .ok (.invokevirtual 66, 3) := by decide +kernel
theorem dX1_addStop_85 : decode cX1_addStop 85 = .ok (.aload_n 0, 1) := by decide +kernel
theorem dX1_addStop_86 : decode cX1_addStop 86 = .ok (.getfield 28, 3) := by decide +kernel
theorem dX1_addStop_89 : decode cX1_addStop 89 = .ok (.iload_n 3, 1) := by decide +kernel
theorem dX1_addStop_90 : decode cX1_addStop 90 = .ok (.iaload, 1) := by decide +kernel
theorem dX1_addStop_91 : decode cX1_addStop 91 = .ok (.iadd, 1) := by decide +kernel
theorem dX1_addStop_92 : decode cX1_addStop 92 = .ok (.goto 4, 3) := by decide +kernel
theorem dX1_addStop_95 : decode cX1_addStop 95 = .ok (.iconst 0, 1) := by decide +kernel
theorem dX1_addStop_96 : decode cX1_addStop 96 = .ok (.iastore, 1) := by decide +kernel
theorem dX1_addStop_97 : decode cX1_addStop 97 = .ok (.aload_n 0, 1) := by decide +kernel
theorem dX1_addStop_98 : decode cX1_addStop 98 = .ok (.dup, 1) := by decide +kernel
theorem dX1_addStop_99 : decode cX1_addStop 99 = .ok (.getfield 31, 3) := by decide +kernel
theorem dX1_addStop_102 : decode cX1_addStop 102 = .ok (.iconst 1, 1) := by decide +kernel
theorem dX1_addStop_103 : decode cX1_addStop 103 = .ok (.iadd, 1) := by decide +kernel
theorem dX1_addStop_104 : decode cX1_addStop 104 = .ok (.putfield 31, 3) := by decide +kernel
theorem dX1_addStop_107 : decode cX1_addStop 107 = .ok (.return_, 1) := by decide +kernel
set_option maxRecDepth 20000 in
theorem ggX1_wayToNextStop_X1_isStop : GoodIn wsX1_wayToNextStop wsX1_isStop := goodIn_r _ [10, 1, 11, 12, 13, 14, 15, 16, 17, 18, 19, 20, 21, 22, 23, 24] (by decide +kernel) (by decide +kernel)
set_option maxRecDepth 20000 in
theorem gX1_wayToNextStop_X1_isStop : GoodIn wsX1_wayToNextStop (wsV RX1 63 RX1 yX1_isStop wsX1_isStop) := goodIn_app (goodIn_of _ (by decide +kernel)) ggX1_wayToNextStop_X1_isStop
theorem dX1_wayToNextStop_0 : decode cX1_wayToNextStop 0 = .ok (.aload_n 0, 1) := by decide +kernel
theorem dX1_wayToNextStop_1 : decode cX1_wayToNextStop 1 = .ok (.aload_n 0, 1) := by decide +kernel
theorem dX1_wayToNextStop_2 : decode cX1_wayToNextStop 2 = .ok (.getfield 31, 3) := by decide +kernel
theorem dX1_wayToNextStop_5 : decode cX1_wayToNextStop 5 = .ok (.iconst 1, 1) := by decide +kernel
theorem dX1_wayToNextStop_6 : decode cX1_wayToNextStop 6 = .ok (.isub, 1) := by decide +kernel
theorem dX1_wayToNextStop_7 : decode cX1_wayToNextStop 7 = .ok (.invokevirtual 63, 3) := by decide +kernel
theorem dX1_wayToNextStop_10 : decode cX1_wayToNextStop 10 = .ok (.ifCond .ne 6, 3) := by decide +kernel
theorem dX1_wayToNextStop_13 : decode cX1_wayToNextStop 13 = .ok (.bipush (-9), 2) := by decide +kernel
theorem dX1_wayToNextStop_15 : decode cX1_wayToNextStop 15 = .ok (.ireturn, 1) := by decide +kernel
theorem dX1_wayToNextStop_16 : decode cX1_wayToNextStop 16 = .ok (.aload_n 0, 1) := by decide +kernel
theorem dX1_wayToNextStop_17 : decode cX1_wayToNextStop 17 = .ok (.getfield 34, 3) := by decide +kernel
theorem dX1_wayToNextStop_20 : decode cX1_wayToNextStop 20 = .ok (.aload_n 0, 1) := by decide +kernel
theorem dX1_wayToNextStop_21 : decode cX1_wayToNextStop 21 = .ok (.getfield 31, 3) := by decide +kernel
theorem dX1_wayToNextStop_24 : decode cX1_wayToNextStop 24 = .ok (.iconst 1, 1) := by decide +kernel
theorem dX1_wayToNextStop_25 : decode cX1_wayToNextStop 25 = .ok (.isub, 1) := by decide +kernel
theorem dX1_wayToNextStop_26 : decode cX1_wayToNextStop 26 = .ok (.iaload, 1) := by decide +kernel
theorem dX1_wayToNextStop_27 : decode cX1_wayToNextStop 27 = .ok (.istore_n 2, 1) := by decide +kernel
theorem dX1_wayToNextStop_28 : decode cX1_wayToNextStop 28 = .ok (.iconst 0, 1) := by decide +kernel
theorem dX1_wayToNextStop_29 : decode cX1_wayToNextStop 29 = .ok (.istore_n 3, 1) := by decide +kernel
theorem dX1_wayToNextStop_30 : decode cX1_wayToNextStop 30 = .ok (.iload_n 3, 1) := by decide +kernel
theorem dX1_wayToNextStop_31 : decode cX1_wayToNextStop 31 = .ok (.aload_n 0, 1) := by decide +kernel
theorem dX1_wayToNextStop_32 : decode cX1_wayToNextStop 32 = .ok (.getfield 19, 3) := by decide +kernel
theorem dX1_wayToNextStop_35 : decode cX1_wayToNextStop 35 = .ok (.if_icmp .ge 51, 3) := by decide +kernel
theorem dX1_wayToNextStop_38 : decode cX1_wayToNextStop 38 = .ok (.aload_n 0, 1) := by decide +kernel
theorem dX1_wayToNextStop_39 : decode cX1_wayToNextStop 39 = .ok (.getfield 22, 3) := by decide +kernel
theorem dX1_wayToNextStop_42 : decode cX1_wayToNextStop 42 = .ok (.iload_n 3, 1) := by decide +kernel
theorem dX1_wayToNextStop_43 : decode cX1_wayToNextStop 43 = .ok (.iaload, 1) := by decide +kernel
theorem dX1_wayToNextStop_44 : decode cX1_wayToNextStop 44 = .ok (.iload_n 2, 1) := by decide +kernel
theorem dX1_wayToNextStop_45 : decode cX1_wayToNextStop 45 = .ok (.if_icmp .ne 13, 3) := by decide +kernel
theorem dX1_wayToNextStop_48 : decode cX1_wayToNextStop 48 = .ok (.aload_n 0, 1) := by decide +kernel
theorem dX1_wayToNextStop_49 : decode cX1_wayToNextStop 49 = .ok (.getfield 25, 3) := by decide +kernel
theorem dX1_wayToNextStop_52 : decode cX1_wayToNextStop 52 = .ok (.iload_n 3, 1) := by decide +kernel
theorem dX1_wayToNextStop_53 : decode cX1_wayToNextStop 53 = .ok (.iaload, 1) := by decide +kernel
theorem dX1_wayToNextStop_54 : decode cX1_wayToNextStop 54 = .ok (.iload_n 1, 1) := by decide +kernel
theorem dX1_wayToNextStop_55 : decode cX1_wayToNextStop 55 = .ok (.if_icmp .eq 23, 3) := by decide +kernel
theorem dX1_wayToNextStop_58 : decode cX1_wayToNextStop 58 = .ok (.aload_n 0, 1) := by decide +kernel
theorem dX1_wayToNextStop_59 : decode cX1_wayToNextStop 59 = .ok (.getfield 22, 3) := by decide +kernel
theorem dX1_wayToNextStop_62 : decode cX1_wayToNextStop 62 = .ok (.iload_n 3, 1) := by decide +kernel
theorem dX1_wayToNextStop_63 : decode cX1_wayToNextStop 63 = .ok (.iaload, 1) := by decide +kernel
theorem dX1_wayToNextStop_64 : decode cX1_wayToNextStop 64 = .ok (.iload_n 1, 1) := by decide +kernel
theorem dX1_wayToNextStop_65 : decode cX1_wayToNextStop 65 = .ok (.if_icmp .ne 15, 3) := by decide +kernel
theorem dX1_wayToNextStop_68 : decode cX1_wayToNextStop 68 = .ok (.aload_n 0, 1) := by decide +kernel
theorem dX1_wayToNextStop_69 : decode cX1_wayToNextStop 69 = .ok (.getfield 25, 3) := by decide +kernel
theorem dX1_wayToNextStop_72 : decode cX1_wayToNextStop 72 = .ok (.iload_n 3, 1) := by decide +kernel
theorem dX1_wayToNextStop_73 : decode cX1_wayToNextStop 73 = .ok (.iaload, 1) := by decide +kernel
theorem dX1_wayToNextStop_74 : decode cX1_wayToNextStop 74 = .ok (.iload_n 2, 1) := by decide +kernel
theorem dX1_wayToNextStop_75 : decode cX1_wayToNextStop 75 = .ok (.if_icmp .ne 5, 3) := by decide +kernel
theorem dX1_wayToNextStop_78 : decode cX1_wayToNextStop 78 = .ok (.iload_n 3, 1) := by decide +kernel
theorem dX1_wayToNextStop_79 : decode cX1_wayToNextStop 79 = .ok (.ireturn, 1) := by decide +kernel
theorem dX1_wayToNextStop_80 : decode cX1_wayToNextStop 80 = .ok (.iinc 3 1, 3) := by decide +kernel
theorem dX1_wayToNextStop_83 : decode cX1_wayToNextStop 83 = .ok (.goto (-53), 3) := by decide +kernel
theorem dX1_wayToNextStop_86 : decode cX1_wayToNextStop 86 = .ok (.bipush (-9), 2) := by decide +kernel
theorem dX1_wayToNextStop_88 : decode cX1_wayToNextStop 88 = .ok (.ireturn, 1) := by decide +kernel
set_option maxRecDepth 20000 in
theorem ggX1_canStopNext_X1_isTown : GoodIn wsX1_canStopNext wsX1_isTown := goodIn_r _ [6, 7, 20, 21, 22, 23, 24, 25, 26, 27, 28, 29, 30, 31, 32, 33] (by decide +kernel) (by decide +kernel)
set_option maxRecDepth 20000 in
theorem gX1_canStopNext_X1_isTown : GoodIn wsX1_canStopNext (wsV RX1 69 RX1 yX1_isTown wsX1_isTown) := goodIn_app (goodIn_of _ (by decide +kernel)) ggX1_canStopNext_X1_isTown
set_option maxRecDepth 20000 in
theorem ggX1_canStopNext_X1_wayToNextStop : GoodIn wsX1_canStopNext wsX1_wayToNextStop := goodIn_r _ [11, 1, 12, 13, 14, 15, 16, 17, 18, 5, 19, 20, 21, 22, 23, 24, 25, 26, 27, 28, 29, 30, 31, 32, 33] (by decide +kernel) (by decide +kernel)
set_option maxRecDepth 20000 in
theorem gX1_canStopNext_X1_wayToNextStop : GoodIn wsX1_canStopNext (wsV RX1 55 RX1 yX1_wayToNextStop wsX1_wayToNextStop) := goodIn_app (goodIn_of _ (by decide +kernel)) ggX1_canStopNext_X1_wayToNextStop
theorem dX1_canStopNext_0 : decode cX1_canStopNext 0 = .ok (.aload_n 0, 1) := by decide +kernel
theorem dX1_canStopNext_1 : decode cX1_canStopNext 1 = .ok (.iload_n 1, 1) := by decide +kernel
theorem dX1_canStopNext_2 : decode cX1_canStopNext 2 = .ok (.invokevirtual 69, 3) := by decide +kernel
theorem dX1_canStopNext_5 : decode cX1_canStopNext 5 = .ok (.ifCond .eq 24, 3) := by decide +kernel
theorem dX1_canStopNext_8 : decode cX1_canStopNext 8 = .ok (.aload_n 0, 1) := by decide +kernel
theorem dX1_canStopNext_9 : decode cX1_canStopNext 9 = .ok (.getfield 31, 3) := by decide +kernel
theorem dX1_canStopNext_12 : decode cX1_canStopNext 12 = .ok (.ifCond .eq 13, 3) := by decide +kernel
theorem dX1_canStopNext_15 : decode cX1_canStopNext 15 = .ok (.aload_n 0, 1) := by decide +kernel
theorem dX1_canStopNext_16 : decode cX1_canStopNext 16 = .ok (.iload_n 1, 1) := by decide +kernel
theorem dX1_canStopNext_17 : decode cX1_canStopNext 17 = .ok (.invokevirtual 55, 3) := by decide +kernel
theorem dX1_canStopNext_20 : decode cX1_canStopNext 20 = .ok (.bipush (-9), 2) := by decide +kernel
theorem dX1_canStopNext_22 : decode cX1_canStopNext 22 = .ok (.if_icmp .eq 7, 3) := by decide +kernel
theorem dX1_canStopNext_25 : decode cX1_canStopNext 25 = .ok (.iconst 1, 1) := by decide +kernel
theorem dX1_canStopNext_26 : decode cX1_canStopNext 26 = .ok (.goto 4, 3) := by decide +kernel
theorem dX1_canStopNext_29 : decode cX1_canStopNext 29 = .ok (.iconst 0, 1) := by decide +kernel
theorem dX1_canStopNext_30 : decode cX1_canStopNext 30 = .ok (.ireturn, 1) := by decide +kernel
set_option maxRecDepth 20000 in
theorem ggX1_measure_X1_measureRoads : GoodIn wsX1_measure wsX1_measureRoads := goodIn_r _ [6, 7, 1, 8, 9, 10, 11, 12, 13, 14, 5, 15, 16, 17, 18, 19, 20, 21, 22, 23, 34, 35, 36, 37, 38, 39, 40, 41, 42, 43, 44, 45, 46, 47] (by decide +kernel) (by decide +kernel)
set_option maxRecDepth 20000 in
theorem gX1_measure_X1_measureRoads : GoodIn wsX1_measure (wsV RX1 72 RX1 yX1_measureRoads wsX1_measureRoads) := goodIn_app (goodIn_of _ (by decide +kernel)) ggX1_measure_X1_measureRoads
set_option maxRecDepth 20000 in
theorem ggX1_measure_X1_distance : GoodIn wsX1_measure wsX1_distance := goodIn_r _ [23, 7, 16, 17, 18, 5, 19, 1, 34, 35, 36, 37, 38, 39, 40, 41, 42, 43, 44, 45, 46, 47] (by decide +kernel) (by decide +kernel)
set_option maxRecDepth 20000 in
theorem gX1_measure_X1_distance : GoodIn wsX1_measure (wsV RX1 75 RX1 yX1_distance wsX1_distance) := goodIn_app (goodIn_of _ (by decide +kernel)) ggX1_measure_X1_distance
set_option maxRecDepth 20000 in
theorem ggX1_measure_X1_shorten : GoodIn wsX1_measure wsX1_shorten := goodIn_r _ [15, 7, 16, 17, 18, 5, 19, 1, 20, 21, 22, 23, 34, 35, 36, 37, 38, 39, 40, 41, 42, 43, 44, 45, 46, 47] (by decide +kernel) (by decide +kernel)
set_option maxRecDepth 20000 in
theorem gX1_measure_X1_shorten : GoodIn wsX1_measure (wsV RX1 79 RX1 yX1_shorten wsX1_shorten) := goodIn_app (goodIn_of _ (by decide +kernel)) ggX1_measure_X1_shorten
set_option maxRecDepth 20000 in
theorem ggX1_measure_X1_listPlaces : GoodIn wsX1_measure wsX1_listPlaces := goodIn_r _ [27, 28, 1, 8, 11, 29, 30, 31, 5, 32, 33, 34, 35, 36, 37, 38, 39, 40, 41, 42, 43, 44, 45, 46, 47] (by decide +kernel) (by decide +kernel)
set_option maxRecDepth 20000 in
theorem gX1_measure_X1_listPlaces : GoodIn wsX1_measure (wsV RX1 83 RX1 yX1_listPlaces wsX1_listPlaces) := goodIn_app (goodIn_of _ (by decide +kernel)) ggX1_measure_X1_listPlaces
theorem dX1_measure_0 : decode cX1_measure 0 = .ok (.aload_n 0, 1) := by decide +kernel
theorem dX1_measure_1 : decode cX1_measure 1 = .ok (.invokevirtual 72, 3) := by decide +kernel
theorem dX1_measure_4 : decode cX1_measure 4 = .ok (.iconst 0, 1) := by decide +kernel
theorem dX1_measure_5 : decode cX1_measure 5 = .ok (.istore_n 1, 1) := by decide +kernel
theorem dX1_measure_6 : decode cX1_measure 6 = .ok (.iload_n 1, 1) := by decide +kernel
theorem dX1_measure_7 : decode cX1_measure 7 = .ok (.aload_n 0, 1) := by decide +kernel
theorem dX1_measure_8 : decode cX1_measure 8 = .ok (.getfield 9, 3) := by decide +kernel
theorem dX1_measure_11 : decode cX1_measure 11 = .ok (.if_icmp .ge 82, 3) := by decide +kernel
theorem dX1_measure_14 : decode cX1_measure 14 = .ok (.iconst 0, 1) := by decide +kernel
theorem dX1_measure_15 : decode cX1_measure 15 = .ok (.istore_n 2, 1) := by decide +kernel
theorem dX1_measure_16 : decode cX1_measure 16 = .ok (.iload_n 2, 1) := by decide +kernel
theorem dX1_measure_17 : decode cX1_measure 17 = .ok (.aload_n 0, 1) := by decide +kernel
theorem dX1_measure_18 : decode cX1_measure 18 = .ok (.getfield 9, 3) := by decide +kernel
theorem dX1_measure_21 : decode cX1_measure 21 = .ok (.if_icmp .ge 66, 3) := by decide +kernel
theorem dX1_measure_24 : decode cX1_measure 24 = .ok (.iconst 0, 1) := by decide +kernel
theorem dX1_measure_25 : decode cX1_measure 25 = .ok (.istore_n 3, 1) := by decide +kernel
theorem dX1_measure_26 : decode cX1_measure 26 = .ok (.iload_n 3, 1) := by decide +kernel
theorem dX1_measure_27 : decode cX1_measure 27 = .ok (.aload_n 0, 1) := by decide +kernel
theorem dX1_measure_28 : decode cX1_measure 28 = .ok (.getfield 9, 3) := by decide +kernel
theorem dX1_measure_31 : decode cX1_measure 31 = .ok (.if_icmp .ge 50, 3) := by decide +kernel
theorem dX1_measure_34 : decode cX1_measure 34 = .ok (.aload_n 0, 1) := by decide +kernel
theorem dX1_measure_35 : decode cX1_measure 35 = .ok (.iload_n 2, 1) := by decide +kernel
theorem dX1_measure_36 : decode cX1_measure 36 = .ok (.iload_n 1, 1) := by decide +kernel
theorem dX1_measure_37 : decode cX1_measure 37 = .ok (.invokevirtual 75, 3) := by decide +kernel
theorem dX1_measure_40 : decode cX1_measure 40 = .ok (.istore 4, 2) := by decide +kernel
theorem dX1_measure_42 : decode cX1_measure 42 = .ok (.aload_n 0, 1) := by decide +kernel
theorem dX1_measure_43 : decode cX1_measure 43 = .ok (.iload_n 1, 1) := by decide +kernel
theorem dX1_measure_44 : decode cX1_measure 44 = .ok (.iload_n 3, 1) := by decide +kernel
theorem dX1_measure_45 : decode cX1_measure 45 = .ok (.invokevirtual 75, 3) := by decide +kernel
theorem dX1_measure_48 : decode cX1_measure 48 = .ok (.istore 5, 2) := by decide +kernel
theorem dX1_measure_50 : decode cX1_measure 50 = .ok (.iload 4, 2) := by decide +kernel
theorem dX1_measure_52 : decode cX1_measure 52 = .ok (.bipush (-9), 2) := by decide +kernel
theorem dX1_measure_54 : decode cX1_measure 54 = .ok (.if_icmp .eq 21, 3) := by decide +kernel
theorem dX1_measure_57 : decode cX1_measure 57 = .ok (.iload 5, 2) := by decide +kernel
theorem dX1_measure_59 : decode cX1_measure 59 = .ok (.bipush (-9), 2) := by decide +kernel
theorem dX1_measure_61 : decode cX1_measure 61 = .ok (.if_icmp .eq 14, 3) := by decide +kernel
theorem dX1_measure_64 : decode cX1_measure 64 = .ok (.aload_n 0, 1) := by decide +kernel
theorem dX1_measure_65 : decode cX1_measure 65 = .ok (.iload_n 2, 1) := by decide +kernel
theorem dX1_measure_66 : decode cX1_measure 66 = .ok (.iload_n 3, 1) := by decide +kernel
theorem dX1_measure_67 : decode cX1_measure 67 = .ok (.iload 4, 2) := by decide +kernel
theorem dX1_measure_69 : decode cX1_measure 69 = .ok (.iload 5, 2) := by decide +kernel
theorem dX1_measure_71 : decode cX1_measure 71 = .ok (.iadd, 1) := by decide +kernel
theorem dX1_measure_72 : decode cX1_measure 72 = .ok (.invokevirtual 79, 3) := by decide +kernel
theorem dX1_measure_75 : decode cX1_measure 75 = .ok (.iinc 3 1, 3) := by decide +kernel
theorem dX1_measure_78 : decode cX1_measure 78 = .ok (.goto (-52), 3) := by decide +kernel
theorem dX1_measure_81 : decode cX1_measure 81 = .ok (.iinc 2 1, 3) := by decide +kernel
theorem dX1_measure_84 : decode cX1_measure 84 = .ok (.goto (-68), 3) := by decide +kernel
theorem dX1_measure_87 : decode cX1_measure 87 = .ok (.iinc 1 1, 3) := by decide +kernel
theorem dX1_measure_90 : decode cX1_measure 90 = .ok (.goto (-84), 3) := by decide +kernel
theorem dX1_measure_93 : decode cX1_measure 93 = .ok (.aload_n 0, 1) := by decide +kernel
theorem dX1_measure_94 : decode cX1_measure 94 = .ok (.invokevirtual 83, 3) := by decide +kernel
theorem dX1_measure_97 : decode cX1_measure 97 = .ok (.return_, 1) := by decide +kernel
set_option maxRecDepth 20000 in
theorem ggX1_measureRoads_X1_shorten : GoodIn wsX1_measureRoads wsX1_shorten := goodIn_r _ [11, 1, 12, 13, 14, 10, 15, 2, 16, 17, 18, 19, 20, 21, 22, 23, 24, 25, 26, 27, 28, 29, 30, 31, 32, 33] (by decide +kernel) (by decide +kernel)
set_option maxRecDepth 20000 in
theorem gX1_measureRoads_X1_shorten : GoodIn wsX1_measureRoads (wsV RX1 79 RX1 yX1_shorten wsX1_shorten) := goodIn_app (goodIn_of _ (by decide +kernel)) ggX1_measureRoads_X1_shorten
theorem dX1_measureRoads_0 : decode cX1_measureRoads 0 = .ok (.iconst 0, 1) := by decide +kernel
theorem dX1_measureRoads_1 : decode cX1_measureRoads 1 = .ok (.istore_n 1, 1) := by decide +kernel
theorem dX1_measureRoads_2 : decode cX1_measureRoads 2 = .ok (.iload_n 1, 1) := by decide +kernel
theorem dX1_measureRoads_3 : decode cX1_measureRoads 3 = .ok (.aload_n 0, 1) := by decide +kernel
theorem dX1_measureRoads_4 : decode cX1_measureRoads 4 = .ok (.getfield 46, 3) := by decide +kernel
theorem dX1_measureRoads_7 : decode cX1_measureRoads 7 = .ok (.arraylength, 1) := by decide +kernel
theorem dX1_measureRoads_8 : decode cX1_measureRoads 8 = .ok (.if_icmp .ge 17, 3) := by decide +kernel
theorem dX1_measureRoads_11 : decode cX1_measureRoads 11 = .ok (.aload_n 0, 1) := by decide +kernel
theorem dX1_measureRoads_12 : decode cX1_measureRoads 12 = .ok (.getfield 46, 3) := by decide +kernel
theorem dX1_measureRoads_15 : decode cX1_measureRoads 15 = .ok (.iload_n 1, 1) := by decide +kernel
theorem dX1_measureRoads_16 : decode cX1_measureRoads 16 = .ok (.bipush (-9), 2) := by decide +kernel
theorem dX1_measureRoads_18 : decode cX1_measureRoads 18 = .ok (.iastore, 1) := by decide +kernel
theorem dX1_measureRoads_19 : decode cX1_measureRoads 19 = .ok (.iinc 1 1, 3) := by decide +kernel
theorem dX1_measureRoads_22 : decode cX1_measureRoads 22 = .ok (.goto (-20), 3) := by decide +kernel
theorem dX1_measureRoads_25 : decode cX1_measureRoads 25 = .ok (.iconst 0, 1) := by decide +kernel
theorem dX1_measureRoads_26 : decode cX1_measureRoads 26 = .ok (.istore_n 1, 1) := by decide +kernel
theorem dX1_measureRoads_27 : decode cX1_measureRoads 27 = .ok (.iload_n 1, 1) := by decide +kernel
theorem dX1_measureRoads_28 : decode cX1_measureRoads 28 = .ok (.aload_n 0, 1) := by decide +kernel
theorem dX1_measureRoads_29 : decode cX1_measureRoads 29 = .ok (.getfield 9, 3) := by decide +kernel
theorem dX1_measureRoads_32 : decode cX1_measureRoads 32 = .ok (.if_icmp .ge 16, 3) := by decide +kernel
theorem dX1_measureRoads_35 : decode cX1_measureRoads 35 = .ok (.aload_n 0, 1) := by decide +kernel
theorem dX1_measureRoads_36 : decode cX1_measureRoads 36 = .ok (.iload_n 1, 1) := by decide +kernel
theorem dX1_measureRoads_37 : decode cX1_measureRoads 37 = .ok (.iload_n 1, 1) := by decide +kernel
theorem dX1_measureRoads_38 : decode cX1_measureRoads 38 = .ok (.iconst 0, 1) := by decide +kernel
theorem dX1_measureRoads_39 : decode cX1_measureRoads 39 = .ok (.invokevirtual 79, 3) := by decide +kernel
theorem dX1_measureRoads_42 : decode cX1_measureRoads 42 = .ok (.iinc 1 1, 3) := by decide +kernel
theorem dX1_measureRoads_45 : decode cX1_measureRoads 45 = .ok (.goto (-18), 3) := by decide +kernel
theorem dX1_measureRoads_48 : decode cX1_measureRoads 48 = .ok (.iconst 0, 1) := by decide +kernel
theorem dX1_measureRoads_49 : decode cX1_measureRoads 49 = .ok (.istore_n 1, 1) := by decide +kernel
theorem dX1_measureRoads_50 : decode cX1_measureRoads 50 = .ok (.iload_n 1, 1) := by decide +kernel
theorem dX1_measureRoads_51 : decode cX1_measureRoads 51 = .ok (.aload_n 0, 1) := by decide +kernel
theorem dX1_measureRoads_52 : decode cX1_measureRoads 52 = .ok (.getfield 19, 3) := by decide +kernel
theorem dX1_measureRoads_55 : decode cX1_measureRoads 55 = .ok (.if_icmp .ge 53, 3) := by decide +kernel
theorem dX1_measureRoads_58 : decode cX1_measureRoads 58 = .ok (.aload_n 0, 1) := by decide +kernel
theorem dX1_measureRoads_59 : decode cX1_measureRoads 59 = .ok (.aload_n 0, 1) := by decide +kernel
theorem dX1_measureRoads_60 : decode cX1_measureRoads 60 = .ok (.getfield 22, 3) := by decide +kernel
theorem dX1_measureRoads_63 : decode cX1_measureRoads 63 = .ok (.iload_n 1, 1) := by decide +kernel
theorem dX1_measureRoads_64 : decode cX1_measureRoads 64 = .ok (.iaload, 1) := by decide +kernel
theorem dX1_measureRoads_65 : decode cX1_measureRoads 65 = .ok (.aload_n 0, 1) := by decide +kernel
theorem dX1_measureRoads_66 : decode cX1_measureRoads 66 = .ok (.getfield 25, 3) := by decide +kernel
theorem dX1_measureRoads_69 : decode cX1_measureRoads 69 = .ok (.iload_n 1, 1) := by decide +kernel
theorem dX1_measureRoads_70 : decode cX1_measureRoads 70 = .ok (.iaload, 1) := by decide +kernel
theorem dX1_measureRoads_71 : decode cX1_measureRoads 71 = .ok (.aload_n 0, 1) := by decide +kernel
theorem dX1_measureRoads_72 : decode cX1_measureRoads 72 = .ok (.getfield 28, 3) := by decide +kernel
theorem dX1_measureRoads_75 : decode cX1_measureRoads 75 = .ok (.iload_n 1, 1) := by decide +kernel
theorem dX1_measureRoads_76 : decode cX1_measureRoads 76 = .ok (.iaload, 1) := by decide +kernel
theorem dX1_measureRoads_77 : decode cX1_measureRoads 77 = .ok (.invokevirtual 79, 3) := by decide +kernel
theorem dX1_measureRoads_80 : decode cX1_measureRoads 80 = .ok (.aload_n 0, 1) := by decide +kernel
theorem dX1_measureRoads_81 : decode cX1_measureRoads 81 = .ok (.aload_n 0, 1) := by decide +kernel
theorem dX1_measureRoads_82 : decode cX1_measureRoads 82 = .ok (.getfield 25, 3) := by decide +kernel
theorem dX1_measureRoads_85 : decode cX1_measureRoads 85 = .ok (.iload_n 1, 1) := by decide +kernel
theorem dX1_measureRoads_86 : decode cX1_measureRoads 86 = .ok (.iaload, 1) := by decide +kernel
theorem dX1_measureRoads_87 : decode cX1_measureRoads 87 = .ok (.aload_n 0, 1) := by decide +kernel
theorem dX1_measureRoads_88 : decode cX1_measureRoads 88 = .ok (.getfield 22, 3) := by decide +kernel
theorem dX1_measureRoads_91 : decode cX1_measureRoads 91 = .ok (.iload_n 1, 1) := by decide +kernel
theorem dX1_measureRoads_92 : decode cX1_measureRoads 92 = .ok (.iaload, 1) := by decide +kernel
theorem dX1_measureRoads_93 : decode cX1_measureRoads 93 = .ok (.aload_n 0, 1) := by decide +kernel
theorem dX1_measureRoads_94 : decode cX1_measureRoads 94 = .ok (.getfield 28, 3) := by decide +kernel
theorem dX1_measureRoads_97 : decode cX1_measureRoads 97 = .ok (.iload_n 1, 1) := by decide +kernel
theorem dX1_measureRoads_98 : decode cX1_measureRoads 98 = .ok (.iaload, 1) := by decide +kernel
theorem dX1_measureRoads_99 : decode cX1_measureRoads 99 = .ok (.invokevirtual 79, 3) := by decide +kernel
theorem dX1_measureRoads_102 : decode cX1_measureRoads 102 = .ok (.iinc 1 1, 3) := by decide +kernel
theorem dX1_measureRoads_105 : decode cX1_measureRoads 105 = .ok (.goto (-55), 3) := by decide +kernel
theorem dX1_measureRoads_108 : decode cX1_measureRoads 108 = .ok (.return_, 1) := by decide +kernel
set_option maxRecDepth 20000 in
theorem ggX1_shorten_X1_isTown : GoodIn wsX1_shorten wsX1_isTown := goodIn_r _ [6, 7, 12, 13, 14, 15, 16, 17, 18, 19, 20, 21, 22, 23, 24, 25] (by decide +kernel) (by decide +kernel)
set_option maxRecDepth 20000 in
theorem gX1_shorten_X1_isTown : GoodIn wsX1_shorten (wsV RX1 69 RX1 yX1_isTown wsX1_isTown) := goodIn_app (goodIn_of _ (by decide +kernel)) ggX1_shorten_X1_isTown
set_option maxRecDepth 20000 in
theorem ggX1_shorten_X1_distance : GoodIn wsX1_shorten wsX1_distance := goodIn_r _ [11, 1, 2, 3, 4, 5, 6, 7, 12, 13, 14, 15, 16, 17, 18, 19, 20, 21, 22, 23, 24, 25] (by decide +kernel) (by decide +kernel)
set_option maxRecDepth 20000 in
theorem gX1_shorten_X1_distance : GoodIn wsX1_shorten (wsV RX1 75 RX1 yX1_distance wsX1_distance) := goodIn_app (goodIn_of _ (by decide +kernel)) ggX1_shorten_X1_distance
theorem dX1_shorten_0 : decode cX1_shorten 0 = .ok (.aload_n 0, 1) := by decide +kernel
theorem dX1_shorten_1 : decode cX1_shorten 1 = .ok (.iload_n 1, 1) := by decide +kernel
theorem dX1_shorten_2 : decode cX1_shorten 2 = .ok (.invokevirtual 69, 3) := by decide +kernel
theorem dX1_shorten_5 : decode cX1_shorten 5 = .ok (.ifCond .eq 11, 3) := by decide +kernel
theorem dX1_shorten_8 : decode cX1_shorten 8 = .ok (.aload_n 0, 1) := by decide +kernel
theorem dX1_shorten_9 : decode cX1_shorten 9 = .ok (.iload_n 2, 1) := by decide +kernel
theorem dX1_shorten_10 : decode cX1_shorten 10 = .ok (.invokevirtual 69, 3) := by decide +kernel
theorem dX1_shorten_13 : decode cX1_shorten 13 = .ok (.ifCond .ne 4, 3) := by decide +kernel
theorem dX1_shorten_16 : decode cX1_shorten 16 = .ok (.return_, 1) := by decide +kernel
theorem dX1_shorten_17 : decode cX1_shorten 17 = .ok (.aload_n 0, 1) := by decide +kernel
theorem dX1_shorten_18 : decode cX1_shorten 18 = .ok (.iload_n 1, 1) := by decide +kernel
theorem dX1_shorten_19 : decode cX1_shorten 19 = .ok (.iload_n 2, 1) := by decide +kernel
theorem dX1_shorten_20 : decode cX1_shorten 20 = .ok (.invokevirtual 75, 3) := by decide +kernel
theorem dX1_shorten_23 : decode cX1_shorten 23 = .ok (.istore 4, 2) := by decide +kernel
theorem dX1_shorten_25 : decode cX1_shorten 25 = .ok (.iload 4, 2) := by decide +kernel
theorem dX1_shorten_27 : decode cX1_shorten 27 = .ok (.bipush (-9), 2) := by decide +kernel
theorem dX1_shorten_29 : decode cX1_shorten 29 = .ok (.if_icmp .eq 9, 3) := by decide +kernel
theorem dX1_shorten_32 : decode cX1_shorten 32 = .ok (.iload_n 3, 1) := by decide +kernel
theorem dX1_shorten_33 : decode cX1_shorten 33 = .ok (.iload 4, 2) := by decide +kernel
theorem dX1_shorten_35 : decode cX1_shorten 35 = .ok (.if_icmp .ge 15, 3) := by decide +kernel
theorem dX1_shorten_38 : decode cX1_shorten 38 = .ok (.aload_n 0, 1) := by decide +kernel
theorem dX1_shorten_39 : decode cX1_shorten 39 = .ok (.getfield 46, 3) := by decide +kernel
theorem dX1_shorten_42 : decode cX1_shorten 42 = .ok (.iload_n 1, 1) := by decide +kernel
theorem dX1_shorten_43 : decode cX1_shorten 43 = .ok (.bipush 6, 2) := by decide +kernel
theorem dX1_shorten_45 : decode cX1_shorten 45 = .ok (.imul, 1) := by decide +kernel
theorem dX1_shorten_46 : decode cX1_shorten 46 = .ok (.iload_n 2, 1) := by decide +kernel
theorem dX1_shorten_47 : decode cX1_shorten 47 = .ok (.iadd, 1) := by decide +kernel
theorem dX1_shorten_48 : decode cX1_shorten 48 = .ok (.iload_n 3, 1) := by decide +kernel
theorem dX1_shorten_49 : decode cX1_shorten 49 = .ok (.iastore, 1) := by decide +kernel
theorem dX1_shorten_50 : decode cX1_shorten 50 = .ok (.return_, 1) := by decide +kernel
set_option maxRecDepth 20000 in
theorem ggX1_listPlaces_X1_addPlace : GoodIn wsX1_listPlaces wsX1_addPlace := goodIn_r _ [9, 1, 10, 11, 12, 13, 14, 15, 16, 17, 18, 19, 20, 21, 22, 23, 24] (by decide +kernel) (by decide +kernel)
set_option maxRecDepth 20000 in
theorem gX1_listPlaces_X1_addPlace : GoodIn wsX1_listPlaces (wsV RX1 86 RX1 yX1_addPlace wsX1_addPlace) := goodIn_app (goodIn_of _ (by decide +kernel)) ggX1_listPlaces_X1_addPlace
theorem dX1_listPlaces_0 : decode cX1_listPlaces 0 = .ok (.aload_n 0, 1) := by decide +kernel
theorem dX1_listPlaces_1 : decode cX1_listPlaces 1 = .ok (.iconst 0, 1) := by decide +kernel
theorem dX1_listPlaces_2 : decode cX1_listPlaces 2 = .ok (.putfield 49, 3) := by decide +kernel
theorem dX1_listPlaces_5 : decode cX1_listPlaces 5 = .ok (.iconst 0, 1) := by decide +kernel
theorem dX1_listPlaces_6 : decode cX1_listPlaces 6 = .ok (.istore_n 1, 1) := by decide +kernel
theorem dX1_listPlaces_7 : decode cX1_listPlaces 7 = .ok (.iload_n 1, 1) := by decide +kernel
theorem dX1_listPlaces_8 : decode cX1_listPlaces 8 = .ok (.aload_n 0, 1) := by decide +kernel
theorem dX1_listPlaces_9 : decode cX1_listPlaces 9 = .ok (.getfield 9, 3) := by decide +kernel
theorem dX1_listPlaces_12 : decode cX1_listPlaces 12 = .ok (.if_icmp .ge 14, 3) := by decide +kernel
theorem dX1_listPlaces_15 : decode cX1_listPlaces 15 = .ok (.aload_n 0, 1) := by decide +kernel
theorem dX1_listPlaces_16 : decode cX1_listPlaces 16 = .ok (.iload_n 1, 1) := by decide +kernel
theorem dX1_listPlaces_17 : decode cX1_listPlaces 17 = .ok (.invokevirtual 86, 3) := by decide +kernel
theorem dX1_listPlaces_20 : decode cX1_listPlaces 20 = .ok (.iinc 1 1, 3) := by decide +kernel
theorem dX1_listPlaces_23 : decode cX1_listPlaces 23 = .ok (.goto (-16), 3) := by decide +kernel
theorem dX1_listPlaces_26 : decode cX1_listPlaces 26 = .ok (.iconst 0, 1) := by decide +kernel
theorem dX1_listPlaces_27 : decode cX1_listPlaces 27 = .ok (.istore_n 1, 1) := by decide +kernel
theorem dX1_listPlaces_28 : decode cX1_listPlaces 28 = .ok (.iload_n 1, 1) := by decide +kernel
theorem dX1_listPlaces_29 : decode cX1_listPlaces 29 = .ok (.aload_n 0, 1) := by decide +kernel
theorem dX1_listPlaces_30 : decode cX1_listPlaces 30 = .ok (.getfield 19, 3) := by decide +kernel
theorem dX1_listPlaces_33 : decode cX1_listPlaces 33 = .ok (.if_icmp .ge 39, 3) := by decide +kernel
theorem dX1_listPlaces_36 : decode cX1_listPlaces 36 = .ok (.iconst 1, 1) := by decide +kernel
theorem dX1_listPlaces_37 : decode cX1_listPlaces 37 = .ok (.istore_n 2, 1) := by decide +kernel
theorem dX1_listPlaces_38 : decode cX1_listPlaces 38 = .ok (.iload_n 2, 1) := by decide +kernel
theorem dX1_listPlaces_39 : decode cX1_listPlaces 39 = .ok (.aload_n 0, 1) := by decide +kernel
theorem dX1_listPlaces_40 : decode cX1_listPlaces 40 = .ok (.getfield 28, 3) := by decide +kernel
theorem dX1_listPlaces_43 : decode cX1_listPlaces 43 = .ok (.iload_n 1, 1) := by decide +kernel
theorem dX1_listPlaces_44 : decode cX1_listPlaces 44 = .ok (.iaload, 1) := by decide +kernel
theorem dX1_listPlaces_45 : decode cX1_listPlaces 45 = .ok (.if_icmp .ge 21, 3) := by decide +kernel
theorem dX1_listPlaces_48 : decode cX1_listPlaces 48 = .ok (.aload_n 0, 1) := by decide +kernel
theorem dX1_listPlaces_49 : decode cX1_listPlaces 49 = .ok (.bipush 100, 2) := by decide +kernel
theorem dX1_listPlaces_51 : decode cX1_listPlaces 51 = .ok (.iload_n 1, 1) := by decide +kernel
theorem dX1_listPlaces_52 : decode cX1_listPlaces 52 = .ok (.iconst 1, 1) := by decide +kernel
theorem dX1_listPlaces_53 : decode cX1_listPlaces 53 = .ok (.iadd, 1) := by decide +kernel
theorem dX1_listPlaces_54 : decode cX1_listPlaces 54 = .ok (.imul, 1) := by decide +kernel
theorem dX1_listPlaces_55 : decode cX1_listPlaces 55 = .ok (.iload_n 2, 1) := by decide +kernel
theorem dX1_listPlaces_56 : decode cX1_listPlaces 56 = .ok (.iadd, 1) := by decide +kernel
theorem dX1_listPlaces_57 : decode cX1_listPlaces 57 = .ok (.invokevirtual 86, 3) := by decide +kernel
theorem dX1_listPlaces_60 : decode cX1_listPlaces 60 = .ok (.iinc 2 1, 3) := by decide +kernel
theorem dX1_listPlaces_63 : decode cX1_listPlaces 63 = .ok (.goto (-25), 3) := by decide +kernel
theorem dX1_listPlaces_66 : decode cX1_listPlaces 66 = .ok (.iinc 1 1, 3) := by decide +kernel
theorem dX1_listPlaces_69 : decode cX1_listPlaces 69 = .ok (.goto (-41), 3) := by decide +kernel
theorem dX1_listPlaces_72 : decode cX1_listPlaces 72 = .ok (.return_, 1) := by decide +kernel
theorem dX1_addPlace_0 : decode cX1_addPlace 0 = .ok (.aload_n 0, 1) := by decide +kernel
theorem dX1_addPlace_1 : decode cX1_addPlace 1 = .ok (.getfield 49, 3) := by decide +kernel
theorem dX1_addPlace_4 : decode cX1_addPlace 4 = .ok (.sipush 296, 3) := by decide +kernel
theorem dX1_addPlace_7 : decode cX1_addPlace 7 = .ok (.if_icmp .lt 4, 3) := by decide +kernel
theorem dX1_addPlace_10 : decode cX1_addPlace 10 = .ok (.return_, 1) := by decide +kernel
theorem dX1_addPlace_11 : decode cX1_addPlace 11 = .ok (.aload_n 0, 1) := by decide +kernel
theorem dX1_addPlace_12 : decode cX1_addPlace 12 = .ok (.getfield 52, 3) := by decide +kernel
theorem dX1_addPlace_15 : decode cX1_addPlace 15 = .ok (.aload_n 0, 1) := by decide +kernel
theorem dX1_addPlace_16 : decode cX1_addPlace 16 = .ok (.getfield 49, 3) := by decide +kernel
theorem dX1_addPlace_19 : decode cX1_addPlace 19 = .ok (.iload_n 1, 1) := by decide +kernel
theorem dX1_addPlace_20 : decode cX1_addPlace 20 = .ok (.iastore, 1) := by decide +kernel
theorem dX1_addPlace_21 : decode cX1_addPlace 21 = .ok (.aload_n 0, 1) := by decide +kernel
theorem dX1_addPlace_22 : decode cX1_addPlace 22 = .ok (.dup, 1) := by decide +kernel
theorem dX1_addPlace_23 : decode cX1_addPlace 23 = .ok (.getfield 49, 3) := by decide +kernel
theorem dX1_addPlace_26 : decode cX1_addPlace 26 = .ok (.iconst 1, 1) := by decide +kernel
theorem dX1_addPlace_27 : decode cX1_addPlace 27 = .ok (.iadd, 1) := by decide +kernel
theorem dX1_addPlace_28 : decode cX1_addPlace 28 = .ok (.putfield 49, 3) := by decide +kernel
theorem dX1_addPlace_31 : decode cX1_addPlace 31 = .ok (.return_, 1) := by decide +kernel
theorem dX1_isTown_0 : decode cX1_isTown 0 = .ok (.iload_n 1, 1) := by decide +kernel
theorem dX1_isTown_1 : decode cX1_isTown 1 = .ok (.ifCond .lt 15, 3) := by decide +kernel
theorem dX1_isTown_4 : decode cX1_isTown 4 = .ok (.iload_n 1, 1) := by decide +kernel
theorem dX1_isTown_5 : decode cX1_isTown 5 = .ok (.aload_n 0, 1) := by decide +kernel
theorem dX1_isTown_6 : decode cX1_isTown 6 = .ok (.getfield 9, 3) := by decide +kernel
theorem dX1_isTown_9 : decode cX1_isTown 9 = .ok (.if_icmp .ge 7, 3) := by decide +kernel
theorem dX1_isTown_12 : decode cX1_isTown 12 = .ok (.iconst 1, 1) := by decide +kernel
theorem dX1_isTown_13 : decode cX1_isTown 13 = .ok (.goto 4, 3) := by decide +kernel
theorem dX1_isTown_16 : decode cX1_isTown 16 = .ok (.iconst 0, 1) := by decide +kernel
theorem dX1_isTown_17 : decode cX1_isTown 17 = .ok (.ireturn, 1) := by decide +kernel
theorem dX1_isRoad_0 : decode cX1_isRoad 0 = .ok (.iload_n 1, 1) := by decide +kernel
theorem dX1_isRoad_1 : decode cX1_isRoad 1 = .ok (.ifCond .lt 15, 3) := by decide +kernel
theorem dX1_isRoad_4 : decode cX1_isRoad 4 = .ok (.iload_n 1, 1) := by decide +kernel
theorem dX1_isRoad_5 : decode cX1_isRoad 5 = .ok (.aload_n 0, 1) := by decide +kernel
theorem dX1_isRoad_6 : decode cX1_isRoad 6 = .ok (.getfield 19, 3) := by decide +kernel
theorem dX1_isRoad_9 : decode cX1_isRoad 9 = .ok (.if_icmp .ge 7, 3) := by decide +kernel
theorem dX1_isRoad_12 : decode cX1_isRoad 12 = .ok (.iconst 1, 1) := by decide +kernel
theorem dX1_isRoad_13 : decode cX1_isRoad 13 = .ok (.goto 4, 3) := by decide +kernel
theorem dX1_isRoad_16 : decode cX1_isRoad 16 = .ok (.iconst 0, 1) := by decide +kernel
theorem dX1_isRoad_17 : decode cX1_isRoad 17 = .ok (.ireturn, 1) := by decide +kernel
theorem dX1_isStop_0 : decode cX1_isStop 0 = .ok (.iload_n 1, 1) := by decide +kernel
theorem dX1_isStop_1 : decode cX1_isStop 1 = .ok (.ifCond .lt 15, 3) := by decide +kernel
theorem dX1_isStop_4 : decode cX1_isStop 4 = .ok (.iload_n 1, 1) := by decide +kernel
theorem dX1_isStop_5 : decode cX1_isStop 5 = .ok (.aload_n 0, 1) := by decide +kernel
theorem dX1_isStop_6 : decode cX1_isStop 6 = .ok (.getfield 31, 3) := by decide +kernel
theorem dX1_isStop_9 : decode cX1_isStop 9 = .ok (.if_icmp .ge 7, 3) := by decide +kernel
theorem dX1_isStop_12 : decode cX1_isStop 12 = .ok (.iconst 1, 1) := by decide +kernel
theorem dX1_isStop_13 : decode cX1_isStop 13 = .ok (.goto 4, 3) := by decide +kernel
theorem dX1_isStop_16 : decode cX1_isStop 16 = .ok (.iconst 0, 1) := by decide +kernel
theorem dX1_isStop_17 : decode cX1_isStop 17 = .ok (.ireturn, 1) := by decide +kernel
set_option maxRecDepth 20000 in
theorem ggX1_bidOf_X1_isTown : GoodIn wsX1_bidOf wsX1_isTown := goodIn_r _ [6, 7, 8, 9, 10, 11, 12, 13, 14, 15, 16, 17, 18, 19, 20, 21] (by decide +kernel) (by decide +kernel)
set_option maxRecDepth 20000 in
theorem gX1_bidOf_X1_isTown : GoodIn wsX1_bidOf (wsV RX1 69 RX1 yX1_isTown wsX1_isTown) := goodIn_app (goodIn_of _ (by decide +kernel)) ggX1_bidOf_X1_isTown
theorem dX1_bidOf_0 : decode cX1_bidOf 0 = .ok (.aload_n 0, 1) := by decide +kernel
theorem dX1_bidOf_1 : decode cX1_bidOf 1 = .ok (.iload_n 1, 1) := by decide +kernel
theorem dX1_bidOf_2 : decode cX1_bidOf 2 = .ok (.invokevirtual 69, 3) := by decide +kernel
theorem dX1_bidOf_5 : decode cX1_bidOf 5 = .ok (.ifCond .eq 12, 3) := by decide +kernel
theorem dX1_bidOf_8 : decode cX1_bidOf 8 = .ok (.aload_n 0, 1) := by decide +kernel
theorem dX1_bidOf_9 : decode cX1_bidOf 9 = .ok (.getfield 15, 3) := by decide +kernel
theorem dX1_bidOf_12 : decode cX1_bidOf 12 = .ok (.iload_n 1, 1) := by decide +kernel
theorem dX1_bidOf_13 : decode cX1_bidOf 13 = .ok (.iaload, 1) := by decide +kernel
theorem dX1_bidOf_14 : decode cX1_bidOf 14 = .ok (.goto 4, 3) := by decide +kernel
theorem dX1_bidOf_17 : decode cX1_bidOf 17 = .ok (.iconst 0, 1) := by decide +kernel
theorem dX1_bidOf_18 : decode cX1_bidOf 18 = .ok (.ireturn, 1) := by decide +kernel
theorem dX1_roadsOf_0 : decode cX1_roadsOf 0 = .ok (.iconst 0, 1) := by decide +kernel
theorem dX1_roadsOf_1 : decode cX1_roadsOf 1 = .ok (.istore_n 2, 1) := by decide +kernel
theorem dX1_roadsOf_2 : decode cX1_roadsOf 2 = .ok (.iconst 0, 1) := by decide +kernel
theorem dX1_roadsOf_3 : decode cX1_roadsOf 3 = .ok (.istore_n 3, 1) := by decide +kernel
theorem dX1_roadsOf_4 : decode cX1_roadsOf 4 = .ok (.iload_n 3, 1) := by decide +kernel
theorem dX1_roadsOf_5 : decode cX1_roadsOf 5 = .ok (.aload_n 0, 1) := by decide +kernel
theorem dX1_roadsOf_6 : decode cX1_roadsOf 6 = .ok (.getfield 19, 3) := by decide +kernel
theorem dX1_roadsOf_9 : decode cX1_roadsOf 9 = .ok (.if_icmp .ge 32, 3) := by decide +kernel
theorem dX1_roadsOf_12 : decode cX1_roadsOf 12 = .ok (.aload_n 0, 1) := by decide +kernel
theorem dX1_roadsOf_13 : decode cX1_roadsOf 13 = .ok (.getfield 22, 3) := by decide +kernel
theorem dX1_roadsOf_16 : decode cX1_roadsOf 16 = .ok (.iload_n 3, 1) := by decide +kernel
theorem dX1_roadsOf_17 : decode cX1_roadsOf 17 = .ok (.iaload, 1) := by decide +kernel
theorem dX1_roadsOf_18 : decode cX1_roadsOf 18 = .ok (.iload_n 1, 1) := by decide +kernel
theorem dX1_roadsOf_19 : decode cX1_roadsOf 19 = .ok (.if_icmp .eq 13, 3) := by decide +kernel
theorem dX1_roadsOf_22 : decode cX1_roadsOf 22 = .ok (.aload_n 0, 1) := by decide +kernel
theorem dX1_roadsOf_23 : decode cX1_roadsOf 23 = .ok (.getfield 25, 3) := by decide +kernel
theorem dX1_roadsOf_26 : decode cX1_roadsOf 26 = .ok (.iload_n 3, 1) := by decide +kernel
theorem dX1_roadsOf_27 : decode cX1_roadsOf 27 = .ok (.iaload, 1) := by decide +kernel
theorem dX1_roadsOf_28 : decode cX1_roadsOf 28 = .ok (.iload_n 1, 1) := by decide +kernel
theorem dX1_roadsOf_29 : decode cX1_roadsOf 29 = .ok (.if_icmp .ne 6, 3) := by decide +kernel
theorem dX1_roadsOf_32 : decode cX1_roadsOf 32 = .ok (.iinc 2 1, 3) := by decide +kernel
theorem dX1_roadsOf_35 : decode cX1_roadsOf 35 = .ok (.iinc 3 1, 3) := by decide +kernel
theorem dX1_roadsOf_38 : decode cX1_roadsOf 38 = .ok (.goto (-34), 3) := by decide +kernel
theorem dX1_roadsOf_41 : decode cX1_roadsOf 41 = .ok (.iload_n 2, 1) := by decide +kernel
theorem dX1_roadsOf_42 : decode cX1_roadsOf 42 = .ok (.ireturn, 1) := by decide +kernel
theorem dX1_stopsOf_0 : decode cX1_stopsOf 0 = .ok (.iconst 0, 1) := by decide +kernel
theorem dX1_stopsOf_1 : decode cX1_stopsOf 1 = .ok (.istore_n 2, 1) := by decide +kernel
theorem dX1_stopsOf_2 : decode cX1_stopsOf 2 = .ok (.iconst 0, 1) := by decide +kernel
theorem dX1_stopsOf_3 : decode cX1_stopsOf 3 = .ok (.istore_n 3, 1) := by decide +kernel
theorem dX1_stopsOf_4 : decode cX1_stopsOf 4 = .ok (.iload_n 3, 1) := by decide +kernel
theorem dX1_stopsOf_5 : decode cX1_stopsOf 5 = .ok (.aload_n 0, 1) := by decide +kernel
theorem dX1_stopsOf_6 : decode cX1_stopsOf 6 = .ok (.getfield 31, 3) := by decide +kernel
theorem dX1_stopsOf_9 : decode cX1_stopsOf 9 = .ok (.if_icmp .ge 22, 3) := by decide +kernel
theorem dX1_stopsOf_12 : decode cX1_stopsOf 12 = .ok (.aload_n 0, 1) := by decide +kernel
theorem dX1_stopsOf_13 : decode cX1_stopsOf 13 = .ok (.getfield 34, 3) := by decide +kernel
theorem dX1_stopsOf_16 : decode cX1_stopsOf 16 = .ok (.iload_n 3, 1) := by decide +kernel
theorem dX1_stopsOf_17 : decode cX1_stopsOf 17 = .ok (.iaload, 1) := by decide +kernel
theorem dX1_stopsOf_18 : decode cX1_stopsOf 18 = .ok (.iload_n 1, 1) := by decide +kernel
theorem dX1_stopsOf_19 : decode cX1_stopsOf 19 = .ok (.if_icmp .ne 6, 3) := by decide +kernel
theorem dX1_stopsOf_22 : decode cX1_stopsOf 22 = .ok (.iinc 2 1, 3) := by decide +kernel
theorem dX1_stopsOf_25 : decode cX1_stopsOf 25 = .ok (.iinc 3 1, 3) := by decide +kernel
theorem dX1_stopsOf_28 : decode cX1_stopsOf 28 = .ok (.goto (-24), 3) := by decide +kernel
theorem dX1_stopsOf_31 : decode cX1_stopsOf 31 = .ok (.iload_n 2, 1) := by decide +kernel
theorem dX1_stopsOf_32 : decode cX1_stopsOf 32 = .ok (.ireturn, 1) := by decide +kernel
set_option maxRecDepth 20000 in
theorem ggX1_leaves_X1_isStop : GoodIn wsX1_leaves wsX1_isStop := goodIn_r _ [7, 8, 9, 10, 11, 12, 13, 14, 15, 16, 17, 18, 19, 20, 21, 22] (by decide +kernel) (by decide +kernel)
set_option maxRecDepth 20000 in
theorem gX1_leaves_X1_isStop : GoodIn wsX1_leaves (wsV RX1 63 RX1 yX1_isStop wsX1_isStop) := goodIn_app (goodIn_of _ (by decide +kernel)) ggX1_leaves_X1_isStop
theorem dX1_leaves_0 : decode cX1_leaves 0 = .ok (.aload_n 0, 1) := by decide +kernel
theorem dX1_leaves_1 : decode cX1_leaves 1 = .ok (.iload_n 1, 1) := by decide +kernel
theorem dX1_leaves_2 : decode cX1_leaves 2 = .ok (.invokevirtual 63, 3) := by decide +kernel
theorem dX1_leaves_5 : decode cX1_leaves 5 = .ok (.ifCond .eq 19, 3) := by decide +kernel
theorem dX1_leaves_8 : decode cX1_leaves 8 = .ok (.aload_n 0, 1) := by decide +kernel
theorem dX1_leaves_9 : decode cX1_leaves 9 = .ok (.getfield 40, 3) := by decide +kernel
theorem dX1_leaves_12 : decode cX1_leaves 12 = .ok (.iload_n 1, 1) := by decide +kernel
theorem dX1_leaves_13 : decode cX1_leaves 13 = .ok (.iaload, 1) := by decide +kernel
theorem dX1_leaves_14 : decode cX1_leaves 14 = .ok (.aload_n 0, 1) := by decide +kernel
theorem dX1_leaves_15 : decode cX1_leaves 15 = .ok (.getfield 37, 3) := by decide +kernel
theorem dX1_leaves_18 : decode cX1_leaves 18 = .ok (.iload_n 1, 1) := by decide +kernel
theorem dX1_leaves_19 : decode cX1_leaves 19 = .ok (.iaload, 1) := by decide +kernel
theorem dX1_leaves_20 : decode cX1_leaves 20 = .ok (.iadd, 1) := by decide +kernel
theorem dX1_leaves_21 : decode cX1_leaves 21 = .ok (.goto 4, 3) := by decide +kernel
theorem dX1_leaves_24 : decode cX1_leaves 24 = .ok (.iconst 0, 1) := by decide +kernel
theorem dX1_leaves_25 : decode cX1_leaves 25 = .ok (.ireturn, 1) := by decide +kernel
set_option maxRecDepth 20000 in
theorem ggX1_distance_X1_isTown : GoodIn wsX1_distance wsX1_isTown := goodIn_r _ [6, 7, 8, 9, 10, 11, 12, 13, 14, 15, 16, 17, 18, 19, 20, 21] (by decide +kernel) (by decide +kernel)
set_option maxRecDepth 20000 in
theorem gX1_distance_X1_isTown : GoodIn wsX1_distance (wsV RX1 69 RX1 yX1_isTown wsX1_isTown) := goodIn_app (goodIn_of _ (by decide +kernel)) ggX1_distance_X1_isTown
theorem dX1_distance_0 : decode cX1_distance 0 = .ok (.aload_n 0, 1) := by decide +kernel
theorem dX1_distance_1 : decode cX1_distance 1 = .ok (.iload_n 1, 1) := by decide +kernel
theorem dX1_distance_2 : decode cX1_distance 2 = .ok (.invokevirtual 69, 3) := by decide +kernel
theorem dX1_distance_5 : decode cX1_distance 5 = .ok (.ifCond .eq 25, 3) := by decide +kernel
theorem dX1_distance_8 : decode cX1_distance 8 = .ok (.aload_n 0, 1) := by decide +kernel
theorem dX1_distance_9 : decode cX1_distance 9 = .ok (.iload_n 2, 1) := by decide +kernel
theorem dX1_distance_10 : decode cX1_distance 10 = .ok (.invokevirtual 69, 3) := by decide +kernel
theorem dX1_distance_13 : decode cX1_distance 13 = .ok (.ifCond .eq 17, 3) := by decide +kernel
theorem dX1_distance_16 : decode cX1_distance 16 = .ok (.aload_n 0, 1) := by decide +kernel
theorem dX1_distance_17 : decode cX1_distance 17 = .ok (.getfield 46, 3) := by decide +kernel
theorem dX1_distance_20 : decode cX1_distance 20 = .ok (.iload_n 1, 1) := by decide +kernel
theorem dX1_distance_21 : decode cX1_distance 21 = .ok (.bipush 6, 2) := by decide +kernel
theorem dX1_distance_23 : decode cX1_distance 23 = .ok (.imul, 1) := by decide +kernel
theorem dX1_distance_24 : decode cX1_distance 24 = .ok (.iload_n 2, 1) := by decide +kernel
theorem dX1_distance_25 : decode cX1_distance 25 = .ok (.iadd, 1) := by decide +kernel
theorem dX1_distance_26 : decode cX1_distance 26 = .ok (.iaload, 1) := by decide +kernel
theorem dX1_distance_27 : decode cX1_distance 27 = .ok (.goto 5, 3) := by decide +kernel
theorem dX1_distance_30 : decode cX1_distance 30 = .ok (.bipush (-9), 2) := by decide +kernel
theorem dX1_distance_32 : decode cX1_distance 32 = .ok (.ireturn, 1) := by decide +kernel
set_option maxRecDepth 20000 in
theorem ggX1_distanceFromPlace_X1_distance : GoodIn wsX1_distanceFromPlace wsX1_distance := goodIn_r _ [12, 13, 14, 15, 16, 11, 17, 18, 24, 25, 26, 27, 28, 29, 30, 31, 32, 33, 34, 35, 36, 37] (by decide +kernel) (by decide +kernel)
set_option maxRecDepth 20000 in
theorem gX1_distanceFromPlace_X1_distance : GoodIn wsX1_distanceFromPlace (wsV RX1 75 RX1 yX1_distance wsX1_distance) := goodIn_app (goodIn_of _ (by decide +kernel)) ggX1_distanceFromPlace_X1_distance
set_option maxRecDepth 20000 in
theorem ggX1_distanceFromPlace_X1_isRoad : GoodIn wsX1_distanceFromPlace wsX1_isRoad := goodIn_r _ [22, 23, 24, 25, 26, 27, 28, 29, 30, 31, 32, 33, 34, 35, 36, 37] (by decide +kernel) (by decide +kernel)
set_option maxRecDepth 20000 in
theorem gX1_distanceFromPlace_X1_isRoad : GoodIn wsX1_distanceFromPlace (wsV RX1 59 RX1 yX1_isRoad wsX1_isRoad) := goodIn_app (goodIn_of _ (by decide +kernel)) ggX1_distanceFromPlace_X1_isRoad
theorem dX1_distanceFromPlace_0 : decode cX1_distanceFromPlace 0 = .ok (.iload_n 1, 1) := by decide +kernel
theorem dX1_distanceFromPlace_1 : decode cX1_distanceFromPlace 1 = .ok (.bipush 100, 2) := by decide +kernel
theorem dX1_distanceFromPlace_3 : decode cX1_distanceFromPlace 3 = .ok (.if_icmp .ge 10, 3) := by decide +kernel
theorem dX1_distanceFromPlace_6 : decode cX1_distanceFromPlace 6 = .ok (.aload_n 0, 1) := by decide +kernel
theorem dX1_distanceFromPlace_7 : decode cX1_distanceFromPlace 7 = .ok (.iload_n 1, 1) := by decide +kernel
theorem dX1_distanceFromPlace_8 : decode cX1_distanceFromPlace 8 = .ok (.iload_n 2, 1) := by decide +kernel
theorem dX1_distanceFromPlace_9 : decode cX1_distanceFromPlace 9 = .ok (.invokevirtual 75, 3) := by decide +kernel
theorem dX1_distanceFromPlace_12 : decode cX1_distanceFromPlace 12 = .ok (.ireturn, 1) := by decide +kernel
theorem dX1_distanceFromPlace_13 : decode cX1_distanceFromPlace 13 = .ok (.iload_n 1, 1) := by decide +kernel
theorem dX1_distanceFromPlace_14 : decode cX1_distanceFromPlace 14 = .ok (.bipush 100, 2) := by decide +kernel
theorem dX1_distanceFromPlace_16 : decode cX1_distanceFromPlace 16 = .ok (.idiv, 1) := by decide +kernel
theorem dX1_distanceFromPlace_17 : decode cX1_distanceFromPlace 17 = .ok (.iconst 1, 1) := by decide +kernel
theorem dX1_distanceFromPlace_18 : decode cX1_distanceFromPlace 18 = .ok (.isub, 1) := by decide +kernel
theorem dX1_distanceFromPlace_19 : decode cX1_distanceFromPlace 19 = .ok (.istore_n 3, 1) := by decide +kernel
theorem dX1_distanceFromPlace_20 : decode cX1_distanceFromPlace 20 = .ok (.aload_n 0, 1) := by decide +kernel
theorem dX1_distanceFromPlace_21 : decode cX1_distanceFromPlace 21 = .ok (.iload_n 3, 1) := by decide +kernel
theorem dX1_distanceFromPlace_22 : decode cX1_distanceFromPlace 22 = .ok (.invokevirtual 59, 3) := by decide +kernel
theorem dX1_distanceFromPlace_25 : decode cX1_distanceFromPlace 25 = .ok (.ifCond .ne 6, 3) := by decide +kernel
theorem dX1_distanceFromPlace_28 : decode cX1_distanceFromPlace 28 = .ok (.bipush (-9), 2) := by decide +kernel
theorem dX1_distanceFromPlace_30 : decode cX1_distanceFromPlace 30 = .ok (.ireturn, 1) := by decide +kernel
theorem dX1_distanceFromPlace_31 : decode cX1_distanceFromPlace 31 = .ok (.iload_n 1, 1) := by decide +kernel
theorem dX1_distanceFromPlace_32 : decode cX1_distanceFromPlace 32 = .ok (.bipush 100, 2) := by decide +kernel
theorem dX1_distanceFromPlace_34 : decode cX1_distanceFromPlace 34 = .ok (.irem, 1) := by decide +kernel
theorem dX1_distanceFromPlace_35 : decode cX1_distanceFromPlace 35 = .ok (.istore 4, 2) := by decide +kernel
theorem dX1_distanceFromPlace_37 : decode cX1_distanceFromPlace 37 = .ok (.aload_n 0, 1) := by decide +kernel
theorem dX1_distanceFromPlace_38 : decode cX1_distanceFromPlace 38 = .ok (.aload_n 0, 1) := by decide +kernel
theorem dX1_distanceFromPlace_39 : decode cX1_distanceFromPlace 39 = .ok (.getfield 22, 3) := by decide +kernel
theorem dX1_distanceFromPlace_42 : decode cX1_distanceFromPlace 42 = .ok (.iload_n 3, 1) := by decide +kernel
theorem dX1_distanceFromPlace_43 : decode cX1_distanceFromPlace 43 = .ok (.iaload, 1) := by decide +kernel
theorem dX1_distanceFromPlace_44 : decode cX1_distanceFromPlace 44 = .ok (.iload_n 2, 1) := by decide +kernel
theorem dX1_distanceFromPlace_45 : decode cX1_distanceFromPlace 45 = .ok (.invokevirtual 75, 3) := by decide +kernel
theorem dX1_distanceFromPlace_48 : decode cX1_distanceFromPlace 48 = .ok (.istore 5, 2) := by decide +kernel
theorem dX1_distanceFromPlace_50 : decode cX1_distanceFromPlace 50 = .ok (.aload_n 0, 1) := by decide +kernel
theorem dX1_distanceFromPlace_51 : decode cX1_distanceFromPlace 51 = .ok (.aload_n 0, 1) := by decide +kernel
theorem dX1_distanceFromPlace_52 : decode cX1_distanceFromPlace 52 = .ok (.getfield 25, 3) := by decide +kernel
theorem dX1_distanceFromPlace_55 : decode cX1_distanceFromPlace 55 = .ok (.iload_n 3, 1) := by decide +kernel
theorem dX1_distanceFromPlace_56 : decode cX1_distanceFromPlace 56 = .ok (.iaload, 1) := by decide +kernel
theorem dX1_distanceFromPlace_57 : decode cX1_distanceFromPlace 57 = .ok (.iload_n 2, 1) := by decide +kernel
theorem dX1_distanceFromPlace_58 : decode cX1_distanceFromPlace 58 = .ok (.invokevirtual 75, 3) := by decide +kernel
theorem dX1_distanceFromPlace_61 : decode cX1_distanceFromPlace 61 = .ok (.istore 6, 2) := by decide +kernel
theorem dX1_distanceFromPlace_63 : decode cX1_distanceFromPlace 63 = .ok (.iload 5, 2) := by decide +kernel
theorem dX1_distanceFromPlace_65 : decode cX1_distanceFromPlace 65 = .ok (.bipush (-9), 2) := by decide +kernel
theorem dX1_distanceFromPlace_67 : decode cX1_distanceFromPlace 67 = .ok (.if_icmp .eq 10, 3) := by decide +kernel
theorem dX1_distanceFromPlace_70 : decode cX1_distanceFromPlace 70 = .ok (.iload 6, 2) := by decide +kernel
theorem dX1_distanceFromPlace_72 : decode cX1_distanceFromPlace 72 = .ok (.bipush (-9), 2) := by decide +kernel
theorem dX1_distanceFromPlace_74 : decode cX1_distanceFromPlace 74 = .ok (.if_icmp .ne 6, 3) := by decide +kernel
theorem dX1_distanceFromPlace_77 : decode cX1_distanceFromPlace 77 = .ok (.bipush (-9), 2) := by decide +kernel
theorem dX1_distanceFromPlace_79 : decode cX1_distanceFromPlace 79 = .ok (.ireturn, 1) := by decide +kernel
theorem dX1_distanceFromPlace_80 : decode cX1_distanceFromPlace 80 = .ok (.iload 4, 2) := by decide +kernel
theorem dX1_distanceFromPlace_82 : decode cX1_distanceFromPlace 82 = .ok (.iload 5, 2) := by decide +kernel
theorem dX1_distanceFromPlace_84 : decode cX1_distanceFromPlace 84 = .ok (.iadd, 1) := by decide +kernel
theorem dX1_distanceFromPlace_85 : decode cX1_distanceFromPlace 85 = .ok (.aload_n 0, 1) := by decide +kernel
theorem dX1_distanceFromPlace_86 : decode cX1_distanceFromPlace 86 = .ok (.getfield 28, 3) := by decide +kernel
theorem dX1_distanceFromPlace_89 : decode cX1_distanceFromPlace 89 = .ok (.iload_n 3, 1) := by decide +kernel
theorem dX1_distanceFromPlace_90 : decode cX1_distanceFromPlace 90 = .ok (.iaload, 1) := by decide +kernel
theorem dX1_distanceFromPlace_91 : decode cX1_distanceFromPlace 91 = .ok (.iload 4, 2) := by decide +kernel
theorem dX1_distanceFromPlace_93 : decode cX1_distanceFromPlace 93 = .ok (.isub, 1) := by decide +kernel
theorem dX1_distanceFromPlace_94 : decode cX1_distanceFromPlace 94 = .ok (.iload 6, 2) := by decide +kernel
theorem dX1_distanceFromPlace_96 : decode cX1_distanceFromPlace 96 = .ok (.iadd, 1) := by decide +kernel
theorem dX1_distanceFromPlace_97 : decode cX1_distanceFromPlace 97 = .ok (.invokestatic 90, 3) := by decide +kernel
theorem dX1_distanceFromPlace_100 : decode cX1_distanceFromPlace 100 = .ok (.ireturn, 1) := by decide +kernel
theorem dX1_lastCome_0 : decode cX1_lastCome 0 = .ok (.iconst (-1), 1) := by decide +kernel
theorem dX1_lastCome_1 : decode cX1_lastCome 1 = .ok (.istore_n 2, 1) := by decide +kernel
theorem dX1_lastCome_2 : decode cX1_lastCome 2 = .ok (.iconst 0, 1) := by decide +kernel
theorem dX1_lastCome_3 : decode cX1_lastCome 3 = .ok (.istore_n 3, 1) := by decide +kernel
theorem dX1_lastCome_4 : decode cX1_lastCome 4 = .ok (.iload_n 3, 1) := by decide +kernel
theorem dX1_lastCome_5 : decode cX1_lastCome 5 = .ok (.aload_n 0, 1) := by decide +kernel
theorem dX1_lastCome_6 : decode cX1_lastCome 6 = .ok (.getfield 31, 3) := by decide +kernel
theorem dX1_lastCome_9 : decode cX1_lastCome 9 = .ok (.if_icmp .ge 21, 3) := by decide +kernel
theorem dX1_lastCome_12 : decode cX1_lastCome 12 = .ok (.aload_n 0, 1) := by decide +kernel
theorem dX1_lastCome_13 : decode cX1_lastCome 13 = .ok (.getfield 40, 3) := by decide +kernel
theorem dX1_lastCome_16 : decode cX1_lastCome 16 = .ok (.iload_n 3, 1) := by decide +kernel
theorem dX1_lastCome_17 : decode cX1_lastCome 17 = .ok (.iaload, 1) := by decide +kernel
theorem dX1_lastCome_18 : decode cX1_lastCome 18 = .ok (.iload_n 1, 1) := by decide +kernel
theorem dX1_lastCome_19 : decode cX1_lastCome 19 = .ok (.if_icmp .gt 5, 3) := by decide +kernel
theorem dX1_lastCome_22 : decode cX1_lastCome 22 = .ok (.iload_n 3, 1) := by decide +kernel
theorem dX1_lastCome_23 : decode cX1_lastCome 23 = .ok (.istore_n 2, 1) := by decide +kernel
theorem dX1_lastCome_24 : decode cX1_lastCome 24 = .ok (.iinc 3 1, 3) := by decide +kernel
theorem dX1_lastCome_27 : decode cX1_lastCome 27 = .ok (.goto (-23), 3) := by decide +kernel
theorem dX1_lastCome_30 : decode cX1_lastCome 30 = .ok (.iload_n 2, 1) := by decide +kernel
theorem dX1_lastCome_31 : decode cX1_lastCome 31 = .ok (.ireturn, 1) := by decide +kernel
set_option maxRecDepth 20000 in
theorem ggX1_placeAt_X1_lastCome : GoodIn wsX1_placeAt wsX1_lastCome := goodIn_r _ [9, 10, 11, 26, 27, 28, 29, 30, 31, 32, 33, 34, 35, 36, 37, 38, 39] (by decide +kernel) (by decide +kernel)
set_option maxRecDepth 20000 in
theorem gX1_placeAt_X1_lastCome : GoodIn wsX1_placeAt (wsV RX1 95 RX1 yX1_lastCome wsX1_lastCome) := goodIn_app (goodIn_of _ (by decide +kernel)) ggX1_placeAt_X1_lastCome
set_option maxRecDepth 20000 in
theorem ggX1_placeAt_X1_isStop : GoodIn wsX1_placeAt wsX1_isStop := goodIn_r _ [15, 10, 26, 27, 28, 29, 30, 31, 32, 33, 34, 35, 36, 37, 38, 39] (by decide +kernel) (by decide +kernel)
set_option maxRecDepth 20000 in
theorem gX1_placeAt_X1_isStop : GoodIn wsX1_placeAt (wsV RX1 63 RX1 yX1_isStop wsX1_isStop) := goodIn_app (goodIn_of _ (by decide +kernel)) ggX1_placeAt_X1_isStop
set_option maxRecDepth 20000 in
theorem ggX1_placeAt_X1_leaves : GoodIn wsX1_placeAt wsX1_leaves := goodIn_r _ [19, 11, 20, 12, 13, 14, 8, 15, 10, 26, 27, 28, 29, 30, 31, 32, 33, 34, 35, 36, 37, 38, 39] (by decide +kernel) (by decide +kernel)
set_option maxRecDepth 20000 in
theorem gX1_placeAt_X1_leaves : GoodIn wsX1_placeAt (wsV RX1 66 RX1 yX1_leaves wsX1_leaves) := goodIn_app (goodIn_of _ (by decide +kernel)) ggX1_placeAt_X1_leaves
set_option maxRecDepth 20000 in
theorem ggX1_placeAt_X1_isRoad : GoodIn wsX1_placeAt wsX1_isRoad := goodIn_r _ [24, 25, 26, 27, 28, 29, 30, 31, 32, 33, 34, 35, 36, 37, 38, 39] (by decide +kernel) (by decide +kernel)
set_option maxRecDepth 20000 in
theorem gX1_placeAt_X1_isRoad : GoodIn wsX1_placeAt (wsV RX1 59 RX1 yX1_isRoad wsX1_isRoad) := goodIn_app (goodIn_of _ (by decide +kernel)) ggX1_placeAt_X1_isRoad
theorem dX1_placeAt_0 : decode cX1_placeAt 0 = .ok (.aload_n 0, 1) := by decide +kernel
theorem dX1_placeAt_1 : decode cX1_placeAt 1 = .ok (.iload_n 1, 1) := by decide +kernel
theorem dX1_placeAt_2 : decode cX1_placeAt 2 = .ok (.invokevirtual 95, 3) := by decide +kernel
theorem dX1_placeAt_5 : decode cX1_placeAt 5 = .ok (.istore_n 2, 1) := by decide +kernel
theorem dX1_placeAt_6 : decode cX1_placeAt 6 = .ok (.aload_n 0, 1) := by decide +kernel
theorem dX1_placeAt_7 : decode cX1_placeAt 7 = .ok (.iload_n 2, 1) := by decide +kernel
theorem dX1_placeAt_8 : decode cX1_placeAt 8 = .ok (.invokevirtual 63, 3) := by decide +kernel
theorem dX1_placeAt_11 : decode cX1_placeAt 11 = .ok (.ifCond .ne 6, 3) := by decide +kernel
theorem dX1_placeAt_14 : decode cX1_placeAt 14 = .ok (.bipush (-9), 2) := by decide +kernel
theorem dX1_placeAt_16 : decode cX1_placeAt 16 = .ok (.ireturn, 1) := by decide +kernel
theorem dX1_placeAt_17 : decode cX1_placeAt 17 = .ok (.iload_n 1, 1) := by decide +kernel
theorem dX1_placeAt_18 : decode cX1_placeAt 18 = .ok (.aload_n 0, 1) := by decide +kernel
theorem dX1_placeAt_19 : decode cX1_placeAt 19 = .ok (.iload_n 2, 1) := by decide +kernel
theorem dX1_placeAt_20 : decode cX1_placeAt 20 = .ok (.invokevirtual 66, 3) := by decide +kernel
theorem dX1_placeAt_23 : decode cX1_placeAt 23 = .ok (.isub, 1) := by decide +kernel
theorem dX1_placeAt_24 : decode cX1_placeAt 24 = .ok (.istore_n 3, 1) := by decide +kernel
theorem dX1_placeAt_25 : decode cX1_placeAt 25 = .ok (.aload_n 0, 1) := by decide +kernel
theorem dX1_placeAt_26 : decode cX1_placeAt 26 = .ok (.iload_n 2, 1) := by decide +kernel
theorem dX1_placeAt_27 : decode cX1_placeAt 27 = .ok (.iconst 1, 1) := by decide +kernel
theorem dX1_placeAt_28 : decode cX1_placeAt 28 = .ok (.iadd, 1) := by decide +kernel
theorem dX1_placeAt_29 : decode cX1_placeAt 29 = .ok (.invokevirtual 63, 3) := by decide +kernel
theorem dX1_placeAt_32 : decode cX1_placeAt 32 = .ok (.ifCond .eq 14, 3) := by decide +kernel
theorem dX1_placeAt_35 : decode cX1_placeAt 35 = .ok (.aload_n 0, 1) := by decide +kernel
theorem dX1_placeAt_36 : decode cX1_placeAt 36 = .ok (.getfield 43, 3) := by decide +kernel
theorem dX1_placeAt_39 : decode cX1_placeAt 39 = .ok (.iload_n 2, 1) := by decide +kernel
theorem dX1_placeAt_40 : decode cX1_placeAt 40 = .ok (.iconst 1, 1) := by decide +kernel
theorem dX1_placeAt_41 : decode cX1_placeAt 41 = .ok (.iadd, 1) := by decide +kernel
theorem dX1_placeAt_42 : decode cX1_placeAt 42 = .ok (.iaload, 1) := by decide +kernel
theorem dX1_placeAt_43 : decode cX1_placeAt 43 = .ok (.goto 5, 3) := by decide +kernel
theorem dX1_placeAt_46 : decode cX1_placeAt 46 = .ok (.bipush (-9), 2) := by decide +kernel
theorem dX1_placeAt_48 : decode cX1_placeAt 48 = .ok (.istore 4, 2) := by decide +kernel
theorem dX1_placeAt_50 : decode cX1_placeAt 50 = .ok (.iload_n 3, 1) := by decide +kernel
theorem dX1_placeAt_51 : decode cX1_placeAt 51 = .ok (.ifCond .le 12, 3) := by decide +kernel
theorem dX1_placeAt_54 : decode cX1_placeAt 54 = .ok (.aload_n 0, 1) := by decide +kernel
theorem dX1_placeAt_55 : decode cX1_placeAt 55 = .ok (.iload 4, 2) := by decide +kernel
theorem dX1_placeAt_57 : decode cX1_placeAt 57 = .ok (.invokevirtual 59, 3) := by decide +kernel
theorem dX1_placeAt_60 : decode cX1_placeAt 60 = .ok (.ifCond .ne 10, 3) := by decide +kernel
theorem dX1_placeAt_63 : decode cX1_placeAt 63 = .ok (.aload_n 0, 1) := by decide +kernel
theorem dX1_placeAt_64 : decode cX1_placeAt 64 = .ok (.getfield 34, 3) := by decide +kernel
theorem dX1_placeAt_67 : decode cX1_placeAt 67 = .ok (.iload_n 2, 1) := by decide +kernel
theorem dX1_placeAt_68 : decode cX1_placeAt 68 = .ok (.iaload, 1) := by decide +kernel
theorem dX1_placeAt_69 : decode cX1_placeAt 69 = .ok (.ireturn, 1) := by decide +kernel
theorem dX1_placeAt_70 : decode cX1_placeAt 70 = .ok (.aload_n 0, 1) := by decide +kernel
theorem dX1_placeAt_71 : decode cX1_placeAt 71 = .ok (.getfield 22, 3) := by decide +kernel
theorem dX1_placeAt_74 : decode cX1_placeAt 74 = .ok (.iload 4, 2) := by decide +kernel
theorem dX1_placeAt_76 : decode cX1_placeAt 76 = .ok (.iaload, 1) := by decide +kernel
theorem dX1_placeAt_77 : decode cX1_placeAt 77 = .ok (.aload_n 0, 1) := by decide +kernel
theorem dX1_placeAt_78 : decode cX1_placeAt 78 = .ok (.getfield 34, 3) := by decide +kernel
theorem dX1_placeAt_81 : decode cX1_placeAt 81 = .ok (.iload_n 2, 1) := by decide +kernel
theorem dX1_placeAt_82 : decode cX1_placeAt 82 = .ok (.iaload, 1) := by decide +kernel
theorem dX1_placeAt_83 : decode cX1_placeAt 83 = .ok (.if_icmp .ne 7, 3) := by decide +kernel
theorem dX1_placeAt_86 : decode cX1_placeAt 86 = .ok (.iload_n 3, 1) := by decide +kernel
theorem dX1_placeAt_87 : decode cX1_placeAt 87 = .ok (.goto 12, 3) := by decide +kernel
theorem dX1_placeAt_90 : decode cX1_placeAt 90 = .ok (.aload_n 0, 1) := by decide +kernel
theorem dX1_placeAt_91 : decode cX1_placeAt 91 = .ok (.getfield 28, 3) := by decide +kernel
theorem dX1_placeAt_94 : decode cX1_placeAt 94 = .ok (.iload 4, 2) := by decide +kernel
theorem dX1_placeAt_96 : decode cX1_placeAt 96 = .ok (.iaload, 1) := by decide +kernel
theorem dX1_placeAt_97 : decode cX1_placeAt 97 = .ok (.iload_n 3, 1) := by decide +kernel
theorem dX1_placeAt_98 : decode cX1_placeAt 98 = .ok (.isub, 1) := by decide +kernel
theorem dX1_placeAt_99 : decode cX1_placeAt 99 = .ok (.istore 5, 2) := by decide +kernel
theorem dX1_placeAt_101 : decode cX1_placeAt 101 = .ok (.bipush 100, 2) := by decide +kernel
theorem dX1_placeAt_103 : decode cX1_placeAt 103 = .ok (.iload 4, 2) := by decide +kernel
theorem dX1_placeAt_105 : decode cX1_placeAt 105 = .ok (.iconst 1, 1) := by decide +kernel
theorem dX1_placeAt_106 : decode cX1_placeAt 106 = .ok (.iadd, 1) := by decide +kernel
theorem dX1_placeAt_107 : decode cX1_placeAt 107 = .ok (.imul, 1) := by decide +kernel
theorem dX1_placeAt_108 : decode cX1_placeAt 108 = .ok (.iload 5, 2) := by decide +kernel
theorem dX1_placeAt_110 : decode cX1_placeAt 110 = .ok (.iadd, 1) := by decide +kernel
theorem dX1_placeAt_111 : decode cX1_placeAt 111 = .ok (.ireturn, 1) := by decide +kernel
set_option maxRecDepth 20000 in
theorem ggX1_townAt_X1_placeAt : GoodIn wsX1_townAt wsX1_placeAt := goodIn_r _ [5, 6, 7, 8, 9, 10, 11, 12, 4, 13, 14, 15, 16, 17, 18, 19, 20, 21, 22, 23, 24, 25, 26, 27, 28, 29, 30, 31, 32, 33, 34, 35, 36, 37, 38, 39, 40, 41, 42, 43] (by decide +kernel) (by decide +kernel)
set_option maxRecDepth 20000 in
theorem gX1_townAt_X1_placeAt : GoodIn wsX1_townAt (wsV RX1 98 RX1 yX1_placeAt wsX1_placeAt) := goodIn_app (goodIn_of _ (by decide +kernel)) ggX1_townAt_X1_placeAt
theorem dX1_townAt_0 : decode cX1_townAt 0 = .ok (.aload_n 0, 1) := by decide +kernel
theorem dX1_townAt_1 : decode cX1_townAt 1 = .ok (.iload_n 1, 1) := by decide +kernel
theorem dX1_townAt_2 : decode cX1_townAt 2 = .ok (.invokevirtual 98, 3) := by decide +kernel
theorem dX1_townAt_5 : decode cX1_townAt 5 = .ok (.istore_n 2, 1) := by decide +kernel
theorem dX1_townAt_6 : decode cX1_townAt 6 = .ok (.iload_n 2, 1) := by decide +kernel
theorem dX1_townAt_7 : decode cX1_townAt 7 = .ok (.bipush 100, 2) := by decide +kernel
theorem dX1_townAt_9 : decode cX1_townAt 9 = .ok (.if_icmp .ge 7, 3) := by decide +kernel
theorem dX1_townAt_12 : decode cX1_townAt 12 = .ok (.iload_n 2, 1) := by decide +kernel
theorem dX1_townAt_13 : decode cX1_townAt 13 = .ok (.goto 5, 3) := by decide +kernel
theorem dX1_townAt_16 : decode cX1_townAt 16 = .ok (.bipush (-9), 2) := by decide +kernel
theorem dX1_townAt_18 : decode cX1_townAt 18 = .ok (.ireturn, 1) := by decide +kernel
set_option maxRecDepth 20000 in
theorem ggX1_roadAt_X1_placeAt : GoodIn wsX1_roadAt wsX1_placeAt := goodIn_r _ [5, 6, 7, 8, 9, 10, 11, 12, 4, 13, 14, 15, 16, 17, 18, 19, 20, 21, 22, 23, 24, 25, 26, 27, 28, 29, 30, 31, 32, 33, 34, 35, 36, 37, 38, 39, 40, 41, 42, 43] (by decide +kernel) (by decide +kernel)
set_option maxRecDepth 20000 in
theorem gX1_roadAt_X1_placeAt : GoodIn wsX1_roadAt (wsV RX1 98 RX1 yX1_placeAt wsX1_placeAt) := goodIn_app (goodIn_of _ (by decide +kernel)) ggX1_roadAt_X1_placeAt
theorem dX1_roadAt_0 : decode cX1_roadAt 0 = .ok (.aload_n 0, 1) := by decide +kernel
theorem dX1_roadAt_1 : decode cX1_roadAt 1 = .ok (.iload_n 1, 1) := by decide +kernel
theorem dX1_roadAt_2 : decode cX1_roadAt 2 = .ok (.invokevirtual 98, 3) := by decide +kernel
theorem dX1_roadAt_5 : decode cX1_roadAt 5 = .ok (.istore_n 2, 1) := by decide +kernel
theorem dX1_roadAt_6 : decode cX1_roadAt 6 = .ok (.iload_n 2, 1) := by decide +kernel
theorem dX1_roadAt_7 : decode cX1_roadAt 7 = .ok (.bipush 100, 2) := by decide +kernel
theorem dX1_roadAt_9 : decode cX1_roadAt 9 = .ok (.if_icmp .ge 8, 3) := by decide +kernel
theorem dX1_roadAt_12 : decode cX1_roadAt 12 = .ok (.bipush (-9), 2) := by decide +kernel
theorem dX1_roadAt_14 : decode cX1_roadAt 14 = .ok (.goto 9, 3) := by decide +kernel
theorem dX1_roadAt_17 : decode cX1_roadAt 17 = .ok (.iload_n 2, 1) := by decide +kernel
theorem dX1_roadAt_18 : decode cX1_roadAt 18 = .ok (.bipush 100, 2) := by decide +kernel
theorem dX1_roadAt_20 : decode cX1_roadAt 20 = .ok (.idiv, 1) := by decide +kernel
theorem dX1_roadAt_21 : decode cX1_roadAt 21 = .ok (.iconst 1, 1) := by decide +kernel
theorem dX1_roadAt_22 : decode cX1_roadAt 22 = .ok (.isub, 1) := by decide +kernel
theorem dX1_roadAt_23 : decode cX1_roadAt 23 = .ok (.ireturn, 1) := by decide +kernel
set_option maxRecDepth 20000 in
theorem ggX1_goneAt_X1_placeAt : GoodIn wsX1_goneAt wsX1_placeAt := goodIn_r _ [5, 6, 7, 8, 9, 10, 11, 12, 4, 13, 14, 15, 16, 17, 18, 19, 20, 21, 22, 23, 24, 25, 26, 27, 28, 29, 30, 31, 32, 33, 34, 35, 36, 37, 38, 39, 40, 41, 42, 43] (by decide +kernel) (by decide +kernel)
set_option maxRecDepth 20000 in
theorem gX1_goneAt_X1_placeAt : GoodIn wsX1_goneAt (wsV RX1 98 RX1 yX1_placeAt wsX1_placeAt) := goodIn_app (goodIn_of _ (by decide +kernel)) ggX1_goneAt_X1_placeAt
set_option maxRecDepth 20000 in
theorem ggX1_goneAt_X1_lastCome : GoodIn wsX1_goneAt wsX1_lastCome := goodIn_r _ [13, 14, 15, 30, 31, 32, 33, 34, 35, 36, 37, 38, 39, 40, 41, 42, 43] (by decide +kernel) (by decide +kernel)
set_option maxRecDepth 20000 in
theorem gX1_goneAt_X1_lastCome : GoodIn wsX1_goneAt (wsV RX1 95 RX1 yX1_lastCome wsX1_lastCome) := goodIn_app (goodIn_of _ (by decide +kernel)) ggX1_goneAt_X1_lastCome
set_option maxRecDepth 20000 in
theorem ggX1_goneAt_X1_leaves : GoodIn wsX1_goneAt wsX1_leaves := goodIn_r _ [23, 15, 24, 16, 17, 18, 4, 19, 14, 30, 31, 32, 33, 34, 35, 36, 37, 38, 39, 40, 41, 42, 43] (by decide +kernel) (by decide +kernel)
set_option maxRecDepth 20000 in
theorem gX1_goneAt_X1_leaves : GoodIn wsX1_goneAt (wsV RX1 66 RX1 yX1_leaves wsX1_leaves) := goodIn_app (goodIn_of _ (by decide +kernel)) ggX1_goneAt_X1_leaves
theorem dX1_goneAt_0 : decode cX1_goneAt 0 = .ok (.aload_n 0, 1) := by decide +kernel
theorem dX1_goneAt_1 : decode cX1_goneAt 1 = .ok (.iload_n 1, 1) := by decide +kernel
theorem dX1_goneAt_2 : decode cX1_goneAt 2 = .ok (.invokevirtual 98, 3) := by decide +kernel
theorem dX1_goneAt_5 : decode cX1_goneAt 5 = .ok (.bipush 100, 2) := by decide +kernel
theorem dX1_goneAt_7 : decode cX1_goneAt 7 = .ok (.if_icmp .ge 7, 3) := by decide +kernel
theorem dX1_goneAt_10 : decode cX1_goneAt 10 = .ok (.iconst 0, 1) := by decide +kernel
theorem dX1_goneAt_11 : decode cX1_goneAt 11 = .ok (.goto 14, 3) := by decide +kernel
theorem dX1_goneAt_14 : decode cX1_goneAt 14 = .ok (.iload_n 1, 1) := by decide +kernel
theorem dX1_goneAt_15 : decode cX1_goneAt 15 = .ok (.aload_n 0, 1) := by decide +kernel
theorem dX1_goneAt_16 : decode cX1_goneAt 16 = .ok (.aload_n 0, 1) := by decide +kernel
theorem dX1_goneAt_17 : decode cX1_goneAt 17 = .ok (.iload_n 1, 1) := by decide +kernel
theorem dX1_goneAt_18 : decode cX1_goneAt 18 = .ok (.invokevirtual 95, 3) := by decide +kernel
theorem dX1_goneAt_21 : decode cX1_goneAt 21 = .ok (.invokevirtual 66, 3) := by decide +kernel
theorem dX1_goneAt_24 : decode cX1_goneAt 24 = .ok (.isub, 1) := by decide +kernel
theorem dX1_goneAt_25 : decode cX1_goneAt 25 = .ok (.ireturn, 1) := by decide +kernel
set_option maxRecDepth 20000 in
theorem ggX1_distanceAt_X1_placeAt : GoodIn wsX1_distanceAt wsX1_placeAt := goodIn_r _ [5, 6, 7, 8, 9, 10, 11, 12, 4, 13, 14, 15, 16, 17, 18, 19, 20, 21, 22, 23, 24, 25, 26, 27, 28, 29, 49, 50, 51, 52, 53, 54, 55, 56, 57, 58, 59, 60, 61, 62] (by decide +kernel) (by decide +kernel)
set_option maxRecDepth 20000 in
theorem gX1_distanceAt_X1_placeAt : GoodIn wsX1_distanceAt (wsV RX1 98 RX1 yX1_placeAt wsX1_placeAt) := goodIn_app (goodIn_of _ (by decide +kernel)) ggX1_distanceAt_X1_placeAt
set_option maxRecDepth 20000 in
theorem ggX1_distanceAt_X1_distanceFromPlace : GoodIn wsX1_distanceAt wsX1_distanceFromPlace := goodIn_r _ [33, 8, 34, 9, 35, 36, 37, 38, 39, 40, 41, 4, 42, 43, 44, 45, 46, 47, 48, 25, 26, 27, 28, 29, 49, 50, 51, 52, 53, 54, 55, 56, 57, 58, 59, 60, 61, 62] (by decide +kernel) (by decide +kernel)
set_option maxRecDepth 20000 in
theorem gX1_distanceAt_X1_distanceFromPlace : GoodIn wsX1_distanceAt (wsV RX1 101 RX1 yX1_distanceFromPlace wsX1_distanceFromPlace) := goodIn_app (goodIn_of _ (by decide +kernel)) ggX1_distanceAt_X1_distanceFromPlace
theorem dX1_distanceAt_0 : decode cX1_distanceAt 0 = .ok (.aload_n 0, 1) := by decide +kernel
theorem dX1_distanceAt_1 : decode cX1_distanceAt 1 = .ok (.aload_n 0, 1) := by decide +kernel
theorem dX1_distanceAt_2 : decode cX1_distanceAt 2 = .ok (.iload_n 2, 1) := by decide +kernel
theorem dX1_distanceAt_3 : decode cX1_distanceAt 3 = .ok (.invokevirtual 98, 3) := by decide +kernel
theorem dX1_distanceAt_6 : decode cX1_distanceAt 6 = .ok (.iload_n 1, 1) := by decide +kernel
theorem dX1_distanceAt_7 : decode cX1_distanceAt 7 = .ok (.invokevirtual 101, 3) := by decide +kernel
theorem dX1_distanceAt_10 : decode cX1_distanceAt 10 = .ok (.ireturn, 1) := by decide +kernel
set_option maxRecDepth 20000 in
theorem ggX1_clockAt_X1_distanceAt : GoodIn wsX1_clockAt wsX1_distanceAt := goodIn_r _ [5, 6, 7, 8, 4, 9, 10, 11, 12, 13, 14, 15, 16, 17, 18, 19, 20, 21, 22, 23, 24, 25, 26, 27, 28, 29, 30, 31, 32, 33, 34, 35, 36, 37, 38, 39, 40, 41, 42, 43, 44, 45, 46, 47, 48, 49, 50, 51, 52, 56, 57, 58, 59, 60, 61, 62, 63, 64, 65, 66, 67, 68, 69] (by decide +kernel) (by decide +kernel)
set_option maxRecDepth 20000 in
theorem gX1_clockAt_X1_distanceAt : GoodIn wsX1_clockAt (wsV RX1 104 RX1 yX1_distanceAt wsX1_distanceAt) := goodIn_app (goodIn_of _ (by decide +kernel)) ggX1_clockAt_X1_distanceAt
set_option maxRecDepth 20000 in
theorem ggX1_clockAt_X4_clockFor : GoodIn wsX1_clockAt wsX4_clockFor := goodIn_r _ [55] (by decide +kernel) (by decide +kernel)
set_option maxRecDepth 20000 in
theorem gX1_clockAt_X4_clockFor_n107 : GoodIn wsX1_clockAt (wsX4_clockFor) := ggX1_clockAt_X4_clockFor
theorem dX1_clockAt_0 : decode cX1_clockAt 0 = .ok (.aload_n 0, 1) := by decide +kernel
theorem dX1_clockAt_1 : decode cX1_clockAt 1 = .ok (.iload_n 1, 1) := by decide +kernel
theorem dX1_clockAt_2 : decode cX1_clockAt 2 = .ok (.iload_n 2, 1) := by decide +kernel
theorem dX1_clockAt_3 : decode cX1_clockAt 3 = .ok (.invokevirtual 104, 3) := by decide +kernel
theorem dX1_clockAt_6 : decode cX1_clockAt 6 = .ok (.invokestatic 107, 3) := by decide +kernel
theorem dX1_clockAt_9 : decode cX1_clockAt 9 = .ok (.ireturn, 1) := by decide +kernel
set_option maxRecDepth 20000 in
theorem ggX1_midnightsOf_X1_clockAt : GoodIn wsX1_midnightsOf wsX1_clockAt := goodIn_r _ [5, 6, 7, 8, 4, 9, 10, 11, 12, 13, 14, 15, 16, 17, 18, 19, 20, 21, 22, 23, 24, 25, 26, 27, 28, 29, 30, 31, 32, 33, 34, 35, 36, 37, 38, 39, 40, 41, 42, 43, 44, 45, 46, 47, 48, 49, 50, 51, 52, 53, 54, 55, 56, 57, 58, 59, 60, 61, 62, 63, 64, 65, 66, 67, 68, 69, 70, 71, 72, 73] (by decide +kernel) (by decide +kernel)
set_option maxRecDepth 20000 in
theorem gX1_midnightsOf_X1_clockAt : GoodIn wsX1_midnightsOf (wsV RX1 110 RX1 yX1_clockAt wsX1_clockAt) := goodIn_app (goodIn_of _ (by decide +kernel)) ggX1_midnightsOf_X1_clockAt
theorem dX1_midnightsOf_0 : decode cX1_midnightsOf 0 = .ok (.iconst 0, 1) := by decide +kernel
theorem dX1_midnightsOf_1 : decode cX1_midnightsOf 1 = .ok (.istore 4, 2) := by decide +kernel
theorem dX1_midnightsOf_3 : decode cX1_midnightsOf 3 = .ok (.iload_n 2, 1) := by decide +kernel
theorem dX1_midnightsOf_4 : decode cX1_midnightsOf 4 = .ok (.ifCond .le 14, 3) := by decide +kernel
theorem dX1_midnightsOf_7 : decode cX1_midnightsOf 7 = .ok (.aload_n 0, 1) := by decide +kernel
theorem dX1_midnightsOf_8 : decode cX1_midnightsOf 8 = .ok (.iload_n 1, 1) := by decide +kernel
theorem dX1_midnightsOf_9 : decode cX1_midnightsOf 9 = .ok (.iload_n 2, 1) := by decide +kernel
theorem dX1_midnightsOf_10 : decode cX1_midnightsOf 10 = .ok (.iconst 1, 1) := by decide +kernel
theorem dX1_midnightsOf_11 : decode cX1_midnightsOf 11 = .ok (.isub, 1) := by decide +kernel
theorem dX1_midnightsOf_12 : decode cX1_midnightsOf 12 = .ok (.invokevirtual 110, 3) := by decide +kernel
theorem dX1_midnightsOf_15 : decode cX1_midnightsOf 15 = .ok (.goto 5, 3) := by decide +kernel
theorem dX1_midnightsOf_18 : decode cX1_midnightsOf 18 = .ok (.bipush (-9), 2) := by decide +kernel
theorem dX1_midnightsOf_20 : decode cX1_midnightsOf 20 = .ok (.istore 5, 2) := by decide +kernel
theorem dX1_midnightsOf_22 : decode cX1_midnightsOf 22 = .ok (.iload_n 2, 1) := by decide +kernel
theorem dX1_midnightsOf_23 : decode cX1_midnightsOf 23 = .ok (.istore 6, 2) := by decide +kernel
theorem dX1_midnightsOf_25 : decode cX1_midnightsOf 25 = .ok (.iload 6, 2) := by decide +kernel
theorem dX1_midnightsOf_27 : decode cX1_midnightsOf 27 = .ok (.iload_n 3, 1) := by decide +kernel
theorem dX1_midnightsOf_28 : decode cX1_midnightsOf 28 = .ok (.if_icmp .ge 35, 3) := by decide +kernel
theorem dX1_midnightsOf_31 : decode cX1_midnightsOf 31 = .ok (.aload_n 0, 1) := by decide +kernel
theorem dX1_midnightsOf_32 : decode cX1_midnightsOf 32 = .ok (.iload_n 1, 1) := by decide +kernel
theorem dX1_midnightsOf_33 : decode cX1_midnightsOf 33 = .ok (.iload 6, 2) := by decide +kernel
theorem dX1_midnightsOf_35 : decode cX1_midnightsOf 35 = .ok (.invokevirtual 110, 3) := by decide +kernel
theorem dX1_midnightsOf_38 : decode cX1_midnightsOf 38 = .ok (.istore 7, 2) := by decide +kernel
theorem dX1_midnightsOf_40 : decode cX1_midnightsOf 40 = .ok (.iload 7, 2) := by decide +kernel
theorem dX1_midnightsOf_42 : decode cX1_midnightsOf 42 = .ok (.ifCond .ne 11, 3) := by decide +kernel
theorem dX1_midnightsOf_45 : decode cX1_midnightsOf 45 = .ok (.iload 5, 2) := by decide +kernel
theorem dX1_midnightsOf_47 : decode cX1_midnightsOf 47 = .ok (.ifCond .eq 6, 3) := by decide +kernel
theorem dX1_midnightsOf_50 : decode cX1_midnightsOf 50 = .ok (.iinc 4 1, 3) := by decide +kernel
theorem dX1_midnightsOf_53 : decode cX1_midnightsOf 53 = .ok (.iload 7, 2) := by decide +kernel
theorem dX1_midnightsOf_55 : decode cX1_midnightsOf 55 = .ok (.istore 5, 2) := by decide +kernel
theorem dX1_midnightsOf_57 : decode cX1_midnightsOf 57 = .ok (.iinc 6 1, 3) := by decide +kernel
theorem dX1_midnightsOf_60 : decode cX1_midnightsOf 60 = .ok (.goto (-35), 3) := by decide +kernel
theorem dX1_midnightsOf_63 : decode cX1_midnightsOf 63 = .ok (.iload 4, 2) := by decide +kernel
theorem dX1_midnightsOf_65 : decode cX1_midnightsOf 65 = .ok (.ireturn, 1) := by decide +kernel
theorem dX2_init_0 : decode cX2_init 0 = .ok (.aload_n 0, 1) := by decide +kernel
theorem dX2_init_1 : decode cX2_init 1 = .ok (.invokespecial 3, 3) := by decide +kernel
theorem dX2_init_4 : decode cX2_init 4 = .ok (.aload_n 0, 1) := by decide +kernel
theorem dX2_init_5 : decode cX2_init 5 = .ok (.iconst 0, 1) := by decide +kernel
theorem dX2_init_6 : decode cX2_init 6 = .ok (.putfield 9, 3) := by decide +kernel
theorem dX2_init_9 : decode cX2_init 9 = .ok (.aload_n 0, 1) := by decide +kernel
theorem dX2_init_10 : decode cX2_init 10 = .ok (.iconst 0, 1) := by decide +kernel
theorem dX2_init_11 : decode cX2_init 11 = .ok (.putfield 15, 3) := by decide +kernel
theorem dX2_init_14 : decode cX2_init 14 = .ok (.aload_n 0, 1) := by decide +kernel
theorem dX2_init_15 : decode cX2_init 15 = .ok (.bipush 8, 2) := by decide +kernel
theorem dX2_init_17 : decode cX2_init 17 = .ok (.newarray .int, 2) := by decide +kernel
theorem dX2_init_19 : decode cX2_init 19 = .ok (.putfield 18, 3) := by decide +kernel
theorem dX2_init_22 : decode cX2_init 22 = .ok (.aload_n 0, 1) := by decide +kernel
theorem dX2_init_23 : decode cX2_init 23 = .ok (.bipush 8, 2) := by decide +kernel
theorem dX2_init_25 : decode cX2_init 25 = .ok (.newarray .int, 2) := by decide +kernel
theorem dX2_init_27 : decode cX2_init 27 = .ok (.putfield 22, 3) := by decide +kernel
theorem dX2_init_30 : decode cX2_init 30 = .ok (.aload_n 0, 1) := by decide +kernel
theorem dX2_init_31 : decode cX2_init 31 = .ok (.bipush 8, 2) := by decide +kernel
theorem dX2_init_33 : decode cX2_init 33 = .ok (.newarray .int, 2) := by decide +kernel
theorem dX2_init_35 : decode cX2_init 35 = .ok (.putfield 25, 3) := by decide +kernel
theorem dX2_init_38 : decode cX2_init 38 = .ok (.aload_n 0, 1) := by decide +kernel
theorem dX2_init_39 : decode cX2_init 39 = .ok (.iconst 0, 1) := by decide +kernel
theorem dX2_init_40 : decode cX2_init 40 = .ok (.putfield 28, 3) := by decide +kernel
theorem dX2_init_43 : decode cX2_init 43 = .ok (.return_, 1) := by decide +kernel
theorem dX2_reset_0 : decode cX2_reset 0 = .ok (.aload_n 0, 1) := by decide +kernel
theorem dX2_reset_1 : decode cX2_reset 1 = .ok (.iconst 0, 1) := by decide +kernel
theorem dX2_reset_2 : decode cX2_reset 2 = .ok (.putfield 9, 3) := by decide +kernel
theorem dX2_reset_5 : decode cX2_reset 5 = .ok (.aload_n 0, 1) := by decide +kernel
theorem dX2_reset_6 : decode cX2_reset 6 = .ok (.iconst 0, 1) := by decide +kernel
theorem dX2_reset_7 : decode cX2_reset 7 = .ok (.putfield 15, 3) := by decide +kernel
theorem dX2_reset_10 : decode cX2_reset 10 = .ok (.aload_n 0, 1) := by decide +kernel
theorem dX2_reset_11 : decode cX2_reset 11 = .ok (.iconst 0, 1) := by decide +kernel
theorem dX2_reset_12 : decode cX2_reset 12 = .ok (.putfield 28, 3) := by decide +kernel
theorem dX2_reset_15 : decode cX2_reset 15 = .ok (.return_, 1) := by decide +kernel
theorem dX2_add_0 : decode cX2_add 0 = .ok (.aload_n 0, 1) := by decide +kernel
theorem dX2_add_1 : decode cX2_add 1 = .ok (.getfield 15, 3) := by decide +kernel
theorem dX2_add_4 : decode cX2_add 4 = .ok (.bipush 8, 2) := by decide +kernel
theorem dX2_add_6 : decode cX2_add 6 = .ok (.if_icmp .lt 4, 3) := by decide +kernel
theorem dX2_add_9 : decode cX2_add 9 = .ok (.return_, 1) := by decide +kernel
theorem dX2_add_10 : decode cX2_add 10 = .ok (.aload_n 0, 1) := by decide +kernel
theorem dX2_add_11 : decode cX2_add 11 = .ok (.getfield 18, 3) := by decide +kernel
theorem dX2_add_14 : decode cX2_add 14 = .ok (.aload_n 0, 1) := by decide +kernel
theorem dX2_add_15 : decode cX2_add 15 = .ok (.getfield 15, 3) := by decide +kernel
theorem dX2_add_18 : decode cX2_add 18 = .ok (.iload_n 1, 1) := by decide +kernel
theorem dX2_add_19 : decode cX2_add 19 = .ok (.iastore, 1) := by decide +kernel
theorem dX2_add_20 : decode cX2_add 20 = .ok (.aload_n 0, 1) := by decide +kernel
theorem dX2_add_21 : decode cX2_add 21 = .ok (.getfield 22, 3) := by decide +kernel
theorem dX2_add_24 : decode cX2_add 24 = .ok (.aload_n 0, 1) := by decide +kernel
theorem dX2_add_25 : decode cX2_add 25 = .ok (.getfield 15, 3) := by decide +kernel
theorem dX2_add_28 : decode cX2_add 28 = .ok (.iload_n 2, 1) := by decide +kernel
theorem dX2_add_29 : decode cX2_add 29 = .ok (.iastore, 1) := by decide +kernel
theorem dX2_add_30 : decode cX2_add 30 = .ok (.aload_n 0, 1) := by decide +kernel
theorem dX2_add_31 : decode cX2_add 31 = .ok (.getfield 25, 3) := by decide +kernel
theorem dX2_add_34 : decode cX2_add 34 = .ok (.aload_n 0, 1) := by decide +kernel
theorem dX2_add_35 : decode cX2_add 35 = .ok (.getfield 15, 3) := by decide +kernel
theorem dX2_add_38 : decode cX2_add 38 = .ok (.iload_n 3, 1) := by decide +kernel
theorem dX2_add_39 : decode cX2_add 39 = .ok (.iastore, 1) := by decide +kernel
theorem dX2_add_40 : decode cX2_add 40 = .ok (.aload_n 0, 1) := by decide +kernel
theorem dX2_add_41 : decode cX2_add 41 = .ok (.dup, 1) := by decide +kernel
theorem dX2_add_42 : decode cX2_add 42 = .ok (.getfield 15, 3) := by decide +kernel
theorem dX2_add_45 : decode cX2_add 45 = .ok (.iconst 1, 1) := by decide +kernel
theorem dX2_add_46 : decode cX2_add 46 = .ok (.iadd, 1) := by decide +kernel
theorem dX2_add_47 : decode cX2_add 47 = .ok (.putfield 15, 3) := by decide +kernel
theorem dX2_add_50 : decode cX2_add 50 = .ok (.return_, 1) := by decide +kernel
set_option maxRecDepth 20000 in
theorem ggX2_copy_X2_add : GoodIn wsX2_copy wsX2_add := goodIn_r _ [10, 2, 3, 4, 5, 11, 12, 13, 14, 15, 16] (by decide +kernel) (by decide +kernel)
set_option maxRecDepth 20000 in
theorem gX2_copy_X2_add : GoodIn wsX2_copy (wsV RX2 32 RX2 yX2_add wsX2_add) := goodIn_app (goodIn_of _ (by decide +kernel)) ggX2_copy_X2_add
theorem dX2_copy_0 : decode cX2_copy 0 = .ok (.aload_n 0, 1) := by decide +kernel
theorem dX2_copy_1 : decode cX2_copy 1 = .ok (.aload_n 1, 1) := by decide +kernel
theorem dX2_copy_2 : decode cX2_copy 2 = .ok (.getfield 9, 3) := by decide +kernel
theorem dX2_copy_5 : decode cX2_copy 5 = .ok (.putfield 9, 3) := by decide +kernel
theorem dX2_copy_8 : decode cX2_copy 8 = .ok (.aload_n 0, 1) := by decide +kernel
theorem dX2_copy_9 : decode cX2_copy 9 = .ok (.iconst 0, 1) := by decide +kernel
theorem dX2_copy_10 : decode cX2_copy 10 = .ok (.putfield 15, 3) := by decide +kernel
theorem dX2_copy_13 : decode cX2_copy 13 = .ok (.iconst 0, 1) := by decide +kernel
theorem dX2_copy_14 : decode cX2_copy 14 = .ok (.istore_n 2, 1) := by decide +kernel
theorem dX2_copy_15 : decode cX2_copy 15 = .ok (.iload_n 2, 1) := by decide +kernel
theorem dX2_copy_16 : decode cX2_copy 16 = .ok (.aload_n 1, 1) := by decide +kernel
theorem dX2_copy_17 : decode cX2_copy 17 = .ok (.getfield 15, 3) := by decide +kernel
theorem dX2_copy_20 : decode cX2_copy 20 = .ok (.if_icmp .ge 31, 3) := by decide +kernel
theorem dX2_copy_23 : decode cX2_copy 23 = .ok (.aload_n 0, 1) := by decide +kernel
theorem dX2_copy_24 : decode cX2_copy 24 = .ok (.aload_n 1, 1) := by decide +kernel
theorem dX2_copy_25 : decode cX2_copy 25 = .ok (.getfield 18, 3) := by decide +kernel
theorem dX2_copy_28 : decode cX2_copy 28 = .ok (.iload_n 2, 1) := by decide +kernel
theorem dX2_copy_29 : decode cX2_copy 29 = .ok (.iaload, 1) := by decide +kernel
theorem dX2_copy_30 : decode cX2_copy 30 = .ok (.aload_n 1, 1) := by decide +kernel
theorem dX2_copy_31 : decode cX2_copy 31 = .ok (.getfield 22, 3) := by decide +kernel
theorem dX2_copy_34 : decode cX2_copy 34 = .ok (.iload_n 2, 1) := by decide +kernel
theorem dX2_copy_35 : decode cX2_copy 35 = .ok (.iaload, 1) := by decide +kernel
theorem dX2_copy_36 : decode cX2_copy 36 = .ok (.aload_n 1, 1) := by decide +kernel
theorem dX2_copy_37 : decode cX2_copy 37 = .ok (.getfield 25, 3) := by decide +kernel
theorem dX2_copy_40 : decode cX2_copy 40 = .ok (.iload_n 2, 1) := by decide +kernel
theorem dX2_copy_41 : decode cX2_copy 41 = .ok (.iaload, 1) := by decide +kernel
theorem dX2_copy_42 : decode cX2_copy 42 = .ok (.invokevirtual 32, 3) := by decide +kernel
theorem dX2_copy_45 : decode cX2_copy 45 = .ok (.iinc 2 1, 3) := by decide +kernel
theorem dX2_copy_48 : decode cX2_copy 48 = .ok (.goto (-33), 3) := by decide +kernel
theorem dX2_copy_51 : decode cX2_copy 51 = .ok (.return_, 1) := by decide +kernel
