theorem dX10_share_30 : decode cX10_share 30 = .ok (.getfield 7, 3) := by decide +kernel
theorem dX10_share_33 : decode cX10_share 33 = .ok (.aload_n 0, 1) := by decide +kernel
theorem dX10_share_34 : decode cX10_share 34 = .ok (.getfield 16, 3) := by decide +kernel
theorem dX10_share_37 : decode cX10_share 37 = .ok (.iload_n 1, 1) := by decide +kernel
theorem dX10_share_38 : decode cX10_share 38 = .ok (.iaload, 1) := by decide +kernel
theorem dX10_share_39 : decode cX10_share 39 = .ok (.iload_n 2, 1) := by decide +kernel
theorem dX10_share_40 : decode cX10_share 40 = .ok (.iadd, 1) := by decide +kernel
theorem dX10_share_41 : decode cX10_share 41 = .ok (.iaload, 1) := by decide +kernel
theorem dX10_share_42 : decode cX10_share 42 = .ok (.goto 16, 3) := by decide +kernel
theorem dX10_share_45 : decode cX10_share 45 = .ok (.aload_n 0, 1) := by decide +kernel
theorem dX10_share_46 : decode cX10_share 46 = .ok (.getfield 13, 3) := by decide +kernel
theorem dX10_share_49 : decode cX10_share 49 = .ok (.aload_n 0, 1) := by decide +kernel
theorem dX10_share_50 : decode cX10_share 50 = .ok (.getfield 16, 3) := by decide +kernel
theorem dX10_share_53 : decode cX10_share 53 = .ok (.iload_n 1, 1) := by decide +kernel
theorem dX10_share_54 : decode cX10_share 54 = .ok (.iaload, 1) := by decide +kernel
theorem dX10_share_55 : decode cX10_share 55 = .ok (.iload_n 2, 1) := by decide +kernel
theorem dX10_share_56 : decode cX10_share 56 = .ok (.iadd, 1) := by decide +kernel
theorem dX10_share_57 : decode cX10_share 57 = .ok (.iaload, 1) := by decide +kernel
theorem dX10_share_58 : decode cX10_share 58 = .ok (.ireturn, 1) := by decide +kernel
set_option maxRecDepth 20000 in
theorem ggX10_isFraction_X10_in : GoodIn wsX10_isFraction wsX10_in := goodIn_r _ [5] (by decide +kernel) (by decide +kernel)
set_option maxRecDepth 20000 in
theorem gX10_isFraction_X10_in : GoodIn wsX10_isFraction (va_wsS RX10 89 yX10_in wsX10_in) := goodIn_app (goodIn_of _ (by decide +kernel)) ggX10_isFraction_X10_in
theorem dX10_isFraction_0 : decode cX10_isFraction 0 = .ok (.iload_n 0, 1) := by decide +kernel
theorem dX10_isFraction_1 : decode cX10_isFraction 1 = .ok (.iconst 1, 1) := by decide +kernel
theorem dX10_isFraction_2 : decode cX10_isFraction 2 = .ok (.ldc 108, 2) := by decide +kernel
theorem dX10_isFraction_4 : decode cX10_isFraction 4 = .ok (.invokestatic 89, 3) := by decide +kernel
theorem dX10_isFraction_7 : decode cX10_isFraction 7 = .ok (.ifCond .eq 17, 3) := by decide +kernel
theorem dX10_isFraction_10 : decode cX10_isFraction 10 = .ok (.iload_n 1, 1) := by decide +kernel
theorem dX10_isFraction_11 : decode cX10_isFraction 11 = .ok (.iconst 1, 1) := by decide +kernel
theorem dX10_isFraction_12 : decode cX10_isFraction 12 = .ok (.ldc 108, 2) := by decide +kernel
theorem dX10_isFraction_14 : decode cX10_isFraction 14 = .ok (.invokestatic 89, 3) := by decide +kernel
theorem dX10_isFraction_17 : decode cX10_isFraction 17 = .ok (.ifCond .eq 7, 3) := by decide +kernel
theorem dX10_isFraction_20 : decode cX10_isFraction 20 = .ok (.iconst 1, 1) := by decide +kernel
theorem dX10_isFraction_21 : decode cX10_isFraction 21 = .ok (.goto 4, 3) := by decide +kernel
theorem dX10_isFraction_24 : decode cX10_isFraction 24 = .ok (.iconst 0, 1) := by decide +kernel
theorem dX10_isFraction_25 : decode cX10_isFraction 25 = .ok (.ireturn, 1) := by decide +kernel
set_option maxRecDepth 20000 in
theorem ggX10_rank_X10_isParts : GoodIn wsX10_rank wsX10_isParts := goodIn_r _ [5, 6, 7, 4, 8] (by decide +kernel) (by decide +kernel)
set_option maxRecDepth 20000 in
theorem gX10_rank_X10_isParts : GoodIn wsX10_rank (va_wsS RX10 96 yX10_isParts wsX10_isParts) := goodIn_app (goodIn_of _ (by decide +kernel)) ggX10_rank_X10_isParts
set_option maxRecDepth 20000 in
theorem ggX10_rank_X10_isFraction : GoodIn wsX10_rank wsX10_isFraction := goodIn_r _ [11, 12, 6, 7, 4, 8] (by decide +kernel) (by decide +kernel)
set_option maxRecDepth 20000 in
theorem gX10_rank_X10_isFraction : GoodIn wsX10_rank (va_wsS RX10 109 yX10_isFraction wsX10_isFraction) := goodIn_app (goodIn_of _ (by decide +kernel)) ggX10_rank_X10_isFraction
set_option maxRecDepth 20000 in
theorem ggX10_rank_X10_rankOf : GoodIn wsX10_rank wsX10_rankOf := goodIn_r _ [16, 17, 18, 19, 20, 21, 22, 4, 23, 24, 25, 26, 27, 28, 29, 30, 31, 32, 33, 34, 35, 36, 37, 38, 39, 40, 41, 42, 43, 44, 45, 46, 47, 48, 49, 50, 51, 52, 53, 54, 55, 56, 57, 58, 59, 60, 61, 62] (by decide +kernel) (by decide +kernel)
set_option maxRecDepth 20000 in
theorem gX10_rank_X10_rankOf : GoodIn wsX10_rank (wsV RX10 112 RX10 yX10_rankOf wsX10_rankOf) := goodIn_app (goodIn_of _ (by decide +kernel)) ggX10_rank_X10_rankOf
theorem dX10_rank_0 : decode cX10_rank 0 = .ok (.aload_n 0, 1) := by decide +kernel
theorem dX10_rank_1 : decode cX10_rank 1 = .ok (.iconst 0, 1) := by decide +kernel
theorem dX10_rank_2 : decode cX10_rank 2 = .ok (.putfield 59, 3) := by decide +kernel
theorem dX10_rank_5 : decode cX10_rank 5 = .ok (.iload_n 1, 1) := by decide +kernel
theorem dX10_rank_6 : decode cX10_rank 6 = .ok (.invokestatic 96, 3) := by decide +kernel
theorem dX10_rank_9 : decode cX10_rank 9 = .ok (.ifCond .eq 23, 3) := by decide +kernel
theorem dX10_rank_12 : decode cX10_rank 12 = .ok (.iload_n 2, 1) := by decide +kernel
theorem dX10_rank_13 : decode cX10_rank 13 = .ok (.iload_n 3, 1) := by decide +kernel
theorem dX10_rank_14 : decode cX10_rank 14 = .ok (.invokestatic 109, 3) := by decide +kernel
theorem dX10_rank_17 : decode cX10_rank 17 = .ok (.ifCond .eq 15, 3) := by decide +kernel
theorem dX10_rank_20 : decode cX10_rank 20 = .ok (.aload_n 0, 1) := by decide +kernel
theorem dX10_rank_21 : decode cX10_rank 21 = .ok (.iload_n 1, 1) := by decide +kernel
theorem dX10_rank_22 : decode cX10_rank 22 = .ok (.iload_n 2, 1) := by decide +kernel
theorem dX10_rank_23 : decode cX10_rank 23 = .ok (.i2l, 1) := by decide +kernel
theorem dX10_rank_24 : decode cX10_rank 24 = .ok (.iload_n 3, 1) := by decide +kernel
theorem dX10_rank_25 : decode cX10_rank 25 = .ok (.i2l, 1) := by decide +kernel
theorem dX10_rank_26 : decode cX10_rank 26 = .ok (.invokevirtual 112, 3) := by decide +kernel
theorem dX10_rank_29 : decode cX10_rank 29 = .ok (.goto 4, 3) := by decide +kernel
theorem dX10_rank_32 : decode cX10_rank 32 = .ok (.iconst (-1), 1) := by decide +kernel
theorem dX10_rank_33 : decode cX10_rank 33 = .ok (.ireturn, 1) := by decide +kernel
set_option maxRecDepth 20000 in
theorem ggX10_fewest_X10_isFraction : GoodIn wsX10_fewest wsX10_isFraction := goodIn_r _ [5, 6, 7, 8, 4, 9] (by decide +kernel) (by decide +kernel)
set_option maxRecDepth 20000 in
theorem gX10_fewest_X10_isFraction : GoodIn wsX10_fewest (va_wsS RX10 109 yX10_isFraction wsX10_isFraction) := goodIn_app (goodIn_of _ (by decide +kernel)) ggX10_fewest_X10_isFraction
set_option maxRecDepth 20000 in
theorem ggX10_fewest_X10_rankOf : GoodIn wsX10_fewest wsX10_rankOf := goodIn_r _ [13, 14, 15, 16, 17, 18, 19, 4, 20, 21, 22, 23, 24, 25, 26, 27, 28, 29, 30, 31, 32, 33, 34, 35, 36, 37, 38, 39, 40, 41, 42, 43, 44, 45, 46, 47, 48, 49, 50, 51, 52, 53, 54, 55, 56, 57, 58, 59] (by decide +kernel) (by decide +kernel)
set_option maxRecDepth 20000 in
theorem gX10_fewest_X10_rankOf : GoodIn wsX10_fewest (wsV RX10 112 RX10 yX10_rankOf wsX10_rankOf) := goodIn_app (goodIn_of _ (by decide +kernel)) ggX10_fewest_X10_rankOf
theorem dX10_fewest_0 : decode cX10_fewest 0 = .ok (.aload_n 0, 1) := by decide +kernel
theorem dX10_fewest_1 : decode cX10_fewest 1 = .ok (.iconst 0, 1) := by decide +kernel
theorem dX10_fewest_2 : decode cX10_fewest 2 = .ok (.putfield 59, 3) := by decide +kernel
theorem dX10_fewest_5 : decode cX10_fewest 5 = .ok (.iload_n 1, 1) := by decide +kernel
theorem dX10_fewest_6 : decode cX10_fewest 6 = .ok (.iload_n 2, 1) := by decide +kernel
theorem dX10_fewest_7 : decode cX10_fewest 7 = .ok (.invokestatic 109, 3) := by decide +kernel
theorem dX10_fewest_10 : decode cX10_fewest 10 = .ok (.ifCond .ne 5, 3) := by decide +kernel
theorem dX10_fewest_13 : decode cX10_fewest 13 = .ok (.iconst (-1), 1) := by decide +kernel
theorem dX10_fewest_14 : decode cX10_fewest 14 = .ok (.ireturn, 1) := by decide +kernel
theorem dX10_fewest_15 : decode cX10_fewest 15 = .ok (.iconst 1, 1) := by decide +kernel
theorem dX10_fewest_16 : decode cX10_fewest 16 = .ok (.istore_n 3, 1) := by decide +kernel
theorem dX10_fewest_17 : decode cX10_fewest 17 = .ok (.iload_n 3, 1) := by decide +kernel
theorem dX10_fewest_18 : decode cX10_fewest 18 = .ok (.bipush 10, 2) := by decide +kernel
theorem dX10_fewest_20 : decode cX10_fewest 20 = .ok (.if_icmp .ge 23, 3) := by decide +kernel
theorem dX10_fewest_23 : decode cX10_fewest 23 = .ok (.aload_n 0, 1) := by decide +kernel
theorem dX10_fewest_24 : decode cX10_fewest 24 = .ok (.iload_n 3, 1) := by decide +kernel
theorem dX10_fewest_25 : decode cX10_fewest 25 = .ok (.iload_n 1, 1) := by decide +kernel
theorem dX10_fewest_26 : decode cX10_fewest 26 = .ok (.i2l, 1) := by decide +kernel
theorem dX10_fewest_27 : decode cX10_fewest 27 = .ok (.iload_n 2, 1) := by decide +kernel
theorem dX10_fewest_28 : decode cX10_fewest 28 = .ok (.i2l, 1) := by decide +kernel
theorem dX10_fewest_29 : decode cX10_fewest 29 = .ok (.invokevirtual 112, 3) := by decide +kernel
theorem dX10_fewest_32 : decode cX10_fewest 32 = .ok (.ifCond .lt 5, 3) := by decide +kernel
theorem dX10_fewest_35 : decode cX10_fewest 35 = .ok (.iload_n 3, 1) := by decide +kernel
theorem dX10_fewest_36 : decode cX10_fewest 36 = .ok (.ireturn, 1) := by decide +kernel
theorem dX10_fewest_37 : decode cX10_fewest 37 = .ok (.iinc 3 1, 3) := by decide +kernel
theorem dX10_fewest_40 : decode cX10_fewest 40 = .ok (.goto (-23), 3) := by decide +kernel
theorem dX10_fewest_43 : decode cX10_fewest 43 = .ok (.bipush (-9), 2) := by decide +kernel
theorem dX10_fewest_45 : decode cX10_fewest 45 = .ok (.ireturn, 1) := by decide +kernel
set_option maxRecDepth 20000 in
theorem ggX10_made_X10_isShare : GoodIn wsX10_made wsX10_isShare := goodIn_r _ [9, 10, 11, 8, 12, 13, 14, 15, 16, 17, 18, 19, 2, 20, 21, 22, 23, 24, 25, 3, 4, 26, 27, 28, 29, 30, 31, 32, 33, 34, 35, 36, 37, 38, 43, 44, 45, 46, 47, 48, 49, 50, 51, 52, 53, 54, 55, 56, 57, 58, 59, 60, 61, 62, 63, 64, 65, 66] (by decide +kernel) (by decide +kernel)
set_option maxRecDepth 20000 in
theorem gX10_made_X10_isShare : GoodIn wsX10_made (wsV RX10 104 RX10 yX10_isShare wsX10_isShare) := goodIn_app (goodIn_of _ (by decide +kernel)) ggX10_made_X10_isShare
set_option maxRecDepth 20000 in
theorem ggX10_made_X10_in : GoodIn wsX10_made wsX10_in := goodIn_r _ [15] (by decide +kernel) (by decide +kernel)
set_option maxRecDepth 20000 in
theorem gX10_made_X10_in : GoodIn wsX10_made (va_wsS RX10 89 yX10_in wsX10_in) := goodIn_app (goodIn_of _ (by decide +kernel)) ggX10_made_X10_in
set_option maxRecDepth 20000 in
theorem ggX10_made_X10_rankOf : GoodIn wsX10_made wsX10_rankOf := goodIn_r _ [42, 2, 4, 3, 20, 21, 22, 8, 23, 24, 25, 26, 27, 28, 29, 30, 31, 32, 33, 34, 35, 36, 37, 38, 43, 44, 45, 46, 47, 48, 49, 50, 51, 52, 53, 54, 55, 56, 57, 58, 59, 60, 61, 62, 63, 64, 65, 66] (by decide +kernel) (by decide +kernel)
set_option maxRecDepth 20000 in
theorem gX10_made_X10_rankOf : GoodIn wsX10_made (wsV RX10 112 RX10 yX10_rankOf wsX10_rankOf) := goodIn_app (goodIn_of _ (by decide +kernel)) ggX10_made_X10_rankOf
theorem dX10_made_0 : decode cX10_made 0 = .ok (.aload_n 0, 1) := by decide +kernel
theorem dX10_made_1 : decode cX10_made 1 = .ok (.iconst 0, 1) := by decide +kernel
theorem dX10_made_2 : decode cX10_made 2 = .ok (.putfield 59, 3) := by decide +kernel
theorem dX10_made_5 : decode cX10_made 5 = .ok (.aload_n 0, 1) := by decide +kernel
theorem dX10_made_6 : decode cX10_made 6 = .ok (.iload_n 1, 1) := by decide +kernel
theorem dX10_made_7 : decode cX10_made 7 = .ok (.iload_n 2, 1) := by decide +kernel
theorem dX10_made_8 : decode cX10_made 8 = .ok (.invokevirtual 104, 3) := by decide +kernel
theorem dX10_made_11 : decode cX10_made 11 = .ok (.ifCond .eq 12, 3) := by decide +kernel
theorem dX10_made_14 : decode cX10_made 14 = .ok (.iload_n 3, 1) := by decide +kernel
theorem dX10_made_15 : decode cX10_made 15 = .ok (.iconst 0, 1) := by decide +kernel
theorem dX10_made_16 : decode cX10_made 16 = .ok (.iconst 3, 1) := by decide +kernel
theorem dX10_made_17 : decode cX10_made 17 = .ok (.invokestatic 89, 3) := by decide +kernel
theorem dX10_made_20 : decode cX10_made 20 = .ok (.ifCond .ne 5, 3) := by decide +kernel
theorem dX10_made_23 : decode cX10_made 23 = .ok (.iconst (-1), 1) := by decide +kernel
theorem dX10_made_24 : decode cX10_made 24 = .ok (.ireturn, 1) := by decide +kernel
theorem dX10_made_25 : decode cX10_made 25 = .ok (.iload_n 1, 1) := by decide +kernel
theorem dX10_made_26 : decode cX10_made 26 = .ok (.iconst 1, 1) := by decide +kernel
theorem dX10_made_27 : decode cX10_made 27 = .ok (.if_icmp .ne 14, 3) := by decide +kernel
theorem dX10_made_30 : decode cX10_made 30 = .ok (.iload_n 3, 1) := by decide +kernel
theorem dX10_made_31 : decode cX10_made 31 = .ok (.ifCond .ne 7, 3) := by decide +kernel
theorem dX10_made_34 : decode cX10_made 34 = .ok (.iconst 0, 1) := by decide +kernel
theorem dX10_made_35 : decode cX10_made 35 = .ok (.goto 5, 3) := by decide +kernel
theorem dX10_made_38 : decode cX10_made 38 = .ok (.bipush (-9), 2) := by decide +kernel
theorem dX10_made_40 : decode cX10_made 40 = .ok (.ireturn, 1) := by decide +kernel
theorem dX10_made_41 : decode cX10_made 41 = .ok (.aload_n 0, 1) := by decide +kernel
theorem dX10_made_42 : decode cX10_made 42 = .ok (.getfield 16, 3) := by decide +kernel
theorem dX10_made_45 : decode cX10_made 45 = .ok (.iload_n 1, 1) := by decide +kernel
theorem dX10_made_46 : decode cX10_made 46 = .ok (.iaload, 1) := by decide +kernel
theorem dX10_made_47 : decode cX10_made 47 = .ok (.iload_n 2, 1) := by decide +kernel
theorem dX10_made_48 : decode cX10_made 48 = .ok (.iadd, 1) := by decide +kernel
theorem dX10_made_49 : decode cX10_made 49 = .ok (.istore 4, 2) := by decide +kernel
theorem dX10_made_51 : decode cX10_made 51 = .ok (.iconst 0, 1) := by decide +kernel
theorem dX10_made_52 : decode cX10_made 52 = .ok (.istore 5, 2) := by decide +kernel
theorem dX10_made_54 : decode cX10_made 54 = .ok (.iload 5, 2) := by decide +kernel
theorem dX10_made_56 : decode cX10_made 56 = .ok (.iconst 2, 1) := by decide +kernel
theorem dX10_made_57 : decode cX10_made 57 = .ok (.if_icmp .ge 271, 3) := by decide +kernel
theorem dX10_made_60 : decode cX10_made 60 = .ok (.iload 5, 2) := by decide +kernel
theorem dX10_made_62 : decode cX10_made 62 = .ok (.ifCond .ne 14, 3) := by decide +kernel
theorem dX10_made_65 : decode cX10_made 65 = .ok (.aload_n 0, 1) := by decide +kernel
theorem dX10_made_66 : decode cX10_made 66 = .ok (.getfield 7, 3) := by decide +kernel
theorem dX10_made_69 : decode cX10_made 69 = .ok (.iload 4, 2) := by decide +kernel
theorem dX10_made_71 : decode cX10_made 71 = .ok (.iaload, 1) := by decide +kernel
theorem dX10_made_72 : decode cX10_made 72 = .ok (.i2l, 1) := by decide +kernel
theorem dX10_made_73 : decode cX10_made 73 = .ok (.goto 11, 3) := by decide +kernel
theorem dX10_made_76 : decode cX10_made 76 = .ok (.aload_n 0, 1) := by decide +kernel
theorem dX10_made_77 : decode cX10_made 77 = .ok (.getfield 13, 3) := by decide +kernel
theorem dX10_made_80 : decode cX10_made 80 = .ok (.iload 4, 2) := by decide +kernel
theorem dX10_made_82 : decode cX10_made 82 = .ok (.iaload, 1) := by decide +kernel
theorem dX10_made_83 : decode cX10_made 83 = .ok (.i2l, 1) := by decide +kernel
theorem dX10_made_84 : decode cX10_made 84 = .ok (.lstore 6, 2) := by decide +kernel
theorem dX10_made_86 : decode cX10_made 86 = .ok (.iload 5, 2) := by decide +kernel
theorem dX10_made_88 : decode cX10_made 88 = .ok (.ifCond .ne 14, 3) := by decide +kernel
theorem dX10_made_91 : decode cX10_made 91 = .ok (.aload_n 0, 1) := by decide +kernel
theorem dX10_made_92 : decode cX10_made 92 = .ok (.getfield 13, 3) := by decide +kernel
theorem dX10_made_95 : decode cX10_made 95 = .ok (.iload 4, 2) := by decide +kernel
theorem dX10_made_97 : decode cX10_made 97 = .ok (.iaload, 1) := by decide +kernel
theorem dX10_made_98 : decode cX10_made 98 = .ok (.i2l, 1) := by decide +kernel
theorem dX10_made_99 : decode cX10_made 99 = .ok (.goto 11, 3) := by decide +kernel
theorem dX10_made_102 : decode cX10_made 102 = .ok (.aload_n 0, 1) := by decide +kernel
theorem dX10_made_103 : decode cX10_made 103 = .ok (.getfield 7, 3) := by decide +kernel
theorem dX10_made_106 : decode cX10_made 106 = .ok (.iload 4, 2) := by decide +kernel
theorem dX10_made_108 : decode cX10_made 108 = .ok (.iaload, 1) := by decide +kernel
theorem dX10_made_109 : decode cX10_made 109 = .ok (.i2l, 1) := by decide +kernel
theorem dX10_made_110 : decode cX10_made 110 = .ok (.lstore 8, 2) := by decide +kernel
theorem dX10_made_112 : decode cX10_made 112 = .ok (.iconst 1, 1) := by decide +kernel
theorem dX10_made_113 : decode cX10_made 113 = .ok (.istore 10, 2) := by decide +kernel
theorem dX10_made_115 : decode cX10_made 115 = .ok (.iconst 2, 1) := by decide +kernel
theorem dX10_made_116 : decode cX10_made 116 = .ok (.iload 10, 2) := by decide +kernel
theorem dX10_made_118 : decode cX10_made 118 = .ok (.imul, 1) := by decide +kernel
theorem dX10_made_119 : decode cX10_made 119 = .ok (.iload_n 1, 1) := by decide +kernel
theorem dX10_made_120 : decode cX10_made 120 = .ok (.if_icmp .gt 202, 3) := by decide +kernel
theorem dX10_made_123 : decode cX10_made 123 = .ok (.aload_n 0, 1) := by decide +kernel
theorem dX10_made_124 : decode cX10_made 124 = .ok (.getfield 16, 3) := by decide +kernel
theorem dX10_made_127 : decode cX10_made 127 = .ok (.iload 10, 2) := by decide +kernel
theorem dX10_made_129 : decode cX10_made 129 = .ok (.iaload, 1) := by decide +kernel
theorem dX10_made_130 : decode cX10_made 130 = .ok (.istore 11, 2) := by decide +kernel
theorem dX10_made_132 : decode cX10_made 132 = .ok (.iload 11, 2) := by decide +kernel
theorem dX10_made_134 : decode cX10_made 134 = .ok (.aload_n 0, 1) := by decide +kernel
theorem dX10_made_135 : decode cX10_made 135 = .ok (.getfield 16, 3) := by decide +kernel
theorem dX10_made_138 : decode cX10_made 138 = .ok (.iload 10, 2) := by decide +kernel
theorem dX10_made_140 : decode cX10_made 140 = .ok (.iconst 1, 1) := by decide +kernel
theorem dX10_made_141 : decode cX10_made 141 = .ok (.iadd, 1) := by decide +kernel
theorem dX10_made_142 : decode cX10_made 142 = .ok (.iaload, 1) := by decide +kernel
theorem dX10_made_143 : decode cX10_made 143 = .ok (.if_icmp .ge 173, 3) := by decide +kernel
theorem dX10_made_146 : decode cX10_made 146 = .ok (.iload 5, 2) := by decide +kernel
theorem dX10_made_148 : decode cX10_made 148 = .ok (.ifCond .ne 14, 3) := by decide +kernel
theorem dX10_made_151 : decode cX10_made 151 = .ok (.aload_n 0, 1) := by decide +kernel
theorem dX10_made_152 : decode cX10_made 152 = .ok (.getfield 7, 3) := by decide +kernel
theorem dX10_made_155 : decode cX10_made 155 = .ok (.iload 11, 2) := by decide +kernel
theorem dX10_made_157 : decode cX10_made 157 = .ok (.iaload, 1) := by decide +kernel
theorem dX10_made_158 : decode cX10_made 158 = .ok (.i2l, 1) := by decide +kernel
theorem dX10_made_159 : decode cX10_made 159 = .ok (.goto 11, 3) := by decide +kernel
theorem dX10_made_162 : decode cX10_made 162 = .ok (.aload_n 0, 1) := by decide +kernel
theorem dX10_made_163 : decode cX10_made 163 = .ok (.getfield 13, 3) := by decide +kernel
theorem dX10_made_166 : decode cX10_made 166 = .ok (.iload 11, 2) := by decide +kernel
theorem dX10_made_168 : decode cX10_made 168 = .ok (.iaload, 1) := by decide +kernel
theorem dX10_made_169 : decode cX10_made 169 = .ok (.i2l, 1) := by decide +kernel
theorem dX10_made_170 : decode cX10_made 170 = .ok (.lstore 12, 2) := by decide +kernel
theorem dX10_made_172 : decode cX10_made 172 = .ok (.iload 5, 2) := by decide +kernel
theorem dX10_made_174 : decode cX10_made 174 = .ok (.ifCond .ne 14, 3) := by decide +kernel
theorem dX10_made_177 : decode cX10_made 177 = .ok (.aload_n 0, 1) := by decide +kernel
theorem dX10_made_178 : decode cX10_made 178 = .ok (.getfield 13, 3) := by decide +kernel
theorem dX10_made_181 : decode cX10_made 181 = .ok (.iload 11, 2) := by decide +kernel
theorem dX10_made_183 : decode cX10_made 183 = .ok (.iaload, 1) := by decide +kernel
theorem dX10_made_184 : decode cX10_made 184 = .ok (.i2l, 1) := by decide +kernel
theorem dX10_made_185 : decode cX10_made 185 = .ok (.goto 11, 3) := by decide +kernel
theorem dX10_made_188 : decode cX10_made 188 = .ok (.aload_n 0, 1) := by decide +kernel
theorem dX10_made_189 : decode cX10_made 189 = .ok (.getfield 7, 3) := by decide +kernel
theorem dX10_made_192 : decode cX10_made 192 = .ok (.iload 11, 2) := by decide +kernel
theorem dX10_made_194 : decode cX10_made 194 = .ok (.iaload, 1) := by decide +kernel
theorem dX10_made_195 : decode cX10_made 195 = .ok (.i2l, 1) := by decide +kernel
theorem dX10_made_196 : decode cX10_made 196 = .ok (.lstore 14, 2) := by decide +kernel
theorem dX10_made_198 : decode cX10_made 198 = .ok (.lload 6, 2) := by decide +kernel
theorem dX10_made_200 : decode cX10_made 200 = .ok (.lload 14, 2) := by decide +kernel
theorem dX10_made_202 : decode cX10_made 202 = .ok (.lmul, 1) := by decide +kernel
theorem dX10_made_203 : decode cX10_made 203 = .ok (.lload 12, 2) := by decide +kernel
theorem dX10_made_205 : decode cX10_made 205 = .ok (.lload 8, 2) := by decide +kernel
theorem dX10_made_207 : decode cX10_made 207 = .ok (.lmul, 1) := by decide +kernel
theorem dX10_made_208 : decode cX10_made 208 = .ok (.lsub, 1) := by decide +kernel
theorem dX10_made_209 : decode cX10_made 209 = .ok (.lstore 16, 2) := by decide +kernel
theorem dX10_made_211 : decode cX10_made 211 = .ok (.lload 16, 2) := by decide +kernel
theorem dX10_made_213 : decode cX10_made 213 = .ok (.lconst 0, 1) := by decide +kernel
theorem dX10_made_214 : decode cX10_made 214 = .ok (.lcmp, 1) := by decide +kernel
theorem dX10_made_215 : decode cX10_made 215 = .ok (.ifCond .gt 8, 3) := by decide +kernel
theorem dX10_made_218 : decode cX10_made 218 = .ok (.bipush (-9), 2) := by decide +kernel
theorem dX10_made_220 : decode cX10_made 220 = .ok (.goto 41, 3) := by decide +kernel
theorem dX10_made_223 : decode cX10_made 223 = .ok (.iload 5, 2) := by decide +kernel
theorem dX10_made_225 : decode cX10_made 225 = .ok (.ifCond .ne 21, 3) := by decide +kernel
theorem dX10_made_228 : decode cX10_made 228 = .ok (.aload_n 0, 1) := by decide +kernel
theorem dX10_made_229 : decode cX10_made 229 = .ok (.iload_n 1, 1) := by decide +kernel
theorem dX10_made_230 : decode cX10_made 230 = .ok (.iload 10, 2) := by decide +kernel
theorem dX10_made_232 : decode cX10_made 232 = .ok (.isub, 1) := by decide +kernel
theorem dX10_made_233 : decode cX10_made 233 = .ok (.lload 16, 2) := by decide +kernel
theorem dX10_made_235 : decode cX10_made 235 = .ok (.lload 8, 2) := by decide +kernel
theorem dX10_made_237 : decode cX10_made 237 = .ok (.lload 14, 2) := by decide +kernel
theorem dX10_made_239 : decode cX10_made 239 = .ok (.lmul, 1) := by decide +kernel
theorem dX10_made_240 : decode cX10_made 240 = .ok (.invokevirtual 112, 3) := by decide +kernel
theorem dX10_made_243 : decode cX10_made 243 = .ok (.goto 18, 3) := by decide +kernel
theorem dX10_made_246 : decode cX10_made 246 = .ok (.aload_n 0, 1) := by decide +kernel
theorem dX10_made_247 : decode cX10_made 247 = .ok (.iload_n 1, 1) := by decide +kernel
theorem dX10_made_248 : decode cX10_made 248 = .ok (.iload 10, 2) := by decide +kernel
theorem dX10_made_250 : decode cX10_made 250 = .ok (.isub, 1) := by decide +kernel
theorem dX10_made_251 : decode cX10_made 251 = .ok (.lload 8, 2) := by decide +kernel
theorem dX10_made_253 : decode cX10_made 253 = .ok (.lload 14, 2) := by decide +kernel
theorem dX10_made_255 : decode cX10_made 255 = .ok (.lmul, 1) := by decide +kernel
theorem dX10_made_256 : decode cX10_made 256 = .ok (.lload 16, 2) := by decide +kernel
theorem dX10_made_258 : decode cX10_made 258 = .ok (.invokevirtual 112, 3) := by decide +kernel
theorem dX10_made_261 : decode cX10_made 261 = .ok (.istore 18, 2) := by decide +kernel
theorem dX10_made_263 : decode cX10_made 263 = .ok (.iload 18, 2) := by decide +kernel
theorem dX10_made_265 : decode cX10_made 265 = .ok (.ifCond .lt 45, 3) := by decide +kernel
theorem dX10_made_268 : decode cX10_made 268 = .ok (.iload_n 3, 1) := by decide +kernel
theorem dX10_made_269 : decode cX10_made 269 = .ok (.ifCond .ne 10, 3) := by decide +kernel
theorem dX10_made_272 : decode cX10_made 272 = .ok (.iconst 1, 1) := by decide +kernel
theorem dX10_made_273 : decode cX10_made 273 = .ok (.iload 5, 2) := by decide +kernel
theorem dX10_made_275 : decode cX10_made 275 = .ok (.iadd, 1) := by decide +kernel
theorem dX10_made_276 : decode cX10_made 276 = .ok (.goto 33, 3) := by decide +kernel
theorem dX10_made_279 : decode cX10_made 279 = .ok (.iload_n 3, 1) := by decide +kernel
theorem dX10_made_280 : decode cX10_made 280 = .ok (.iconst 1, 1) := by decide +kernel
theorem dX10_made_281 : decode cX10_made 281 = .ok (.if_icmp .ne 8, 3) := by decide +kernel
theorem dX10_made_284 : decode cX10_made 284 = .ok (.iload 10, 2) := by decide +kernel
theorem dX10_made_286 : decode cX10_made 286 = .ok (.goto 23, 3) := by decide +kernel
theorem dX10_made_289 : decode cX10_made 289 = .ok (.iload_n 3, 1) := by decide +kernel
theorem dX10_made_290 : decode cX10_made 290 = .ok (.iconst 2, 1) := by decide +kernel
theorem dX10_made_291 : decode cX10_made 291 = .ok (.if_icmp .ne 16, 3) := by decide +kernel
theorem dX10_made_294 : decode cX10_made 294 = .ok (.iload 11, 2) := by decide +kernel
theorem dX10_made_296 : decode cX10_made 296 = .ok (.aload_n 0, 1) := by decide +kernel
theorem dX10_made_297 : decode cX10_made 297 = .ok (.getfield 16, 3) := by decide +kernel
theorem dX10_made_300 : decode cX10_made 300 = .ok (.iload 10, 2) := by decide +kernel
theorem dX10_made_302 : decode cX10_made 302 = .ok (.iaload, 1) := by decide +kernel
theorem dX10_made_303 : decode cX10_made 303 = .ok (.isub, 1) := by decide +kernel
theorem dX10_made_304 : decode cX10_made 304 = .ok (.goto 5, 3) := by decide +kernel
theorem dX10_made_307 : decode cX10_made 307 = .ok (.iload 18, 2) := by decide +kernel
theorem dX10_made_309 : decode cX10_made 309 = .ok (.ireturn, 1) := by decide +kernel
theorem dX10_made_310 : decode cX10_made 310 = .ok (.iinc 11 1, 3) := by decide +kernel
theorem dX10_made_313 : decode cX10_made 313 = .ok (.goto (-181), 3) := by decide +kernel
theorem dX10_made_316 : decode cX10_made 316 = .ok (.iinc 10 1, 3) := by decide +kernel
theorem dX10_made_319 : decode cX10_made 319 = .ok (.goto (-204), 3) := by decide +kernel
theorem dX10_made_322 : decode cX10_made 322 = .ok (.iinc 5 1, 3) := by decide +kernel
theorem dX10_made_325 : decode cX10_made 325 = .ok (.goto (-271), 3) := by decide +kernel
theorem dX10_made_328 : decode cX10_made 328 = .ok (.iconst (-1), 1) := by decide +kernel
theorem dX10_made_329 : decode cX10_made 329 = .ok (.ireturn, 1) := by decide +kernel
set_option maxRecDepth 20000 in
theorem ggX10_turned_X10_isShare : GoodIn wsX10_turned wsX10_isShare := goodIn_r _ [9, 10, 11, 8, 12, 13, 14, 15, 16, 17, 18, 19, 3, 20, 21, 22, 23, 24, 25, 4, 2, 26, 27, 28, 29, 30, 31, 32, 33, 34, 35, 36, 37, 38, 43, 44, 45, 46, 47, 48, 49, 50, 51, 52, 53, 54, 55, 56, 57, 58, 59, 60, 61, 62, 63, 64, 65, 66] (by decide +kernel) (by decide +kernel)
set_option maxRecDepth 20000 in
theorem gX10_turned_X10_isShare : GoodIn wsX10_turned (wsV RX10 104 RX10 yX10_isShare wsX10_isShare) := goodIn_app (goodIn_of _ (by decide +kernel)) ggX10_turned_X10_isShare
set_option maxRecDepth 20000 in
theorem ggX10_turned_X10_rankOf : GoodIn wsX10_turned wsX10_rankOf := goodIn_r _ [42, 3, 2, 4, 20, 21, 22, 8, 23, 24, 25, 26, 27, 28, 29, 30, 31, 32, 33, 34, 35, 36, 37, 38, 43, 44, 45, 46, 47, 48, 49, 50, 51, 52, 53, 54, 55, 56, 57, 58, 59, 60, 61, 62, 63, 64, 65, 66] (by decide +kernel) (by decide +kernel)
set_option maxRecDepth 20000 in
theorem gX10_turned_X10_rankOf : GoodIn wsX10_turned (wsV RX10 112 RX10 yX10_rankOf wsX10_rankOf) := goodIn_app (goodIn_of _ (by decide +kernel)) ggX10_turned_X10_rankOf
theorem dX10_turned_0 : decode cX10_turned 0 = .ok (.aload_n 0, 1) := by decide +kernel
theorem dX10_turned_1 : decode cX10_turned 1 = .ok (.iconst 0, 1) := by decide +kernel
theorem dX10_turned_2 : decode cX10_turned 2 = .ok (.putfield 59, 3) := by decide +kernel
theorem dX10_turned_5 : decode cX10_turned 5 = .ok (.aload_n 0, 1) := by decide +kernel
theorem dX10_turned_6 : decode cX10_turned 6 = .ok (.iload_n 1, 1) := by decide +kernel
theorem dX10_turned_7 : decode cX10_turned 7 = .ok (.iload_n 2, 1) := by decide +kernel
theorem dX10_turned_8 : decode cX10_turned 8 = .ok (.invokevirtual 104, 3) := by decide +kernel
theorem dX10_turned_11 : decode cX10_turned 11 = .ok (.ifCond .eq 39, 3) := by decide +kernel
theorem dX10_turned_14 : decode cX10_turned 14 = .ok (.aload_n 0, 1) := by decide +kernel
theorem dX10_turned_15 : decode cX10_turned 15 = .ok (.iload_n 1, 1) := by decide +kernel
theorem dX10_turned_16 : decode cX10_turned 16 = .ok (.aload_n 0, 1) := by decide +kernel
theorem dX10_turned_17 : decode cX10_turned 17 = .ok (.getfield 13, 3) := by decide +kernel
theorem dX10_turned_20 : decode cX10_turned 20 = .ok (.aload_n 0, 1) := by decide +kernel
theorem dX10_turned_21 : decode cX10_turned 21 = .ok (.getfield 16, 3) := by decide +kernel
theorem dX10_turned_24 : decode cX10_turned 24 = .ok (.iload_n 1, 1) := by decide +kernel
theorem dX10_turned_25 : decode cX10_turned 25 = .ok (.iaload, 1) := by decide +kernel
theorem dX10_turned_26 : decode cX10_turned 26 = .ok (.iload_n 2, 1) := by decide +kernel
theorem dX10_turned_27 : decode cX10_turned 27 = .ok (.iadd, 1) := by decide +kernel
theorem dX10_turned_28 : decode cX10_turned 28 = .ok (.iaload, 1) := by decide +kernel
theorem dX10_turned_29 : decode cX10_turned 29 = .ok (.i2l, 1) := by decide +kernel
theorem dX10_turned_30 : decode cX10_turned 30 = .ok (.aload_n 0, 1) := by decide +kernel
theorem dX10_turned_31 : decode cX10_turned 31 = .ok (.getfield 7, 3) := by decide +kernel
theorem dX10_turned_34 : decode cX10_turned 34 = .ok (.aload_n 0, 1) := by decide +kernel
theorem dX10_turned_35 : decode cX10_turned 35 = .ok (.getfield 16, 3) := by decide +kernel
theorem dX10_turned_38 : decode cX10_turned 38 = .ok (.iload_n 1, 1) := by decide +kernel
theorem dX10_turned_39 : decode cX10_turned 39 = .ok (.iaload, 1) := by decide +kernel
theorem dX10_turned_40 : decode cX10_turned 40 = .ok (.iload_n 2, 1) := by decide +kernel
theorem dX10_turned_41 : decode cX10_turned 41 = .ok (.iadd, 1) := by decide +kernel
theorem dX10_turned_42 : decode cX10_turned 42 = .ok (.iaload, 1) := by decide +kernel
theorem dX10_turned_43 : decode cX10_turned 43 = .ok (.i2l, 1) := by decide +kernel
theorem dX10_turned_44 : decode cX10_turned 44 = .ok (.invokevirtual 112, 3) := by decide +kernel
theorem dX10_turned_47 : decode cX10_turned 47 = .ok (.goto 4, 3) := by decide +kernel
theorem dX10_turned_50 : decode cX10_turned 50 = .ok (.iconst (-1), 1) := by decide +kernel
theorem dX10_turned_51 : decode cX10_turned 51 = .ok (.ireturn, 1) := by decide +kernel
set_option maxRecDepth 20000 in
theorem ggX10_isKnot_X10_in : GoodIn wsX10_isKnot wsX10_in := goodIn_r _ [4] (by decide +kernel) (by decide +kernel)
set_option maxRecDepth 20000 in
theorem gX10_isKnot_X10_in : GoodIn wsX10_isKnot (va_wsS RX10 89 yX10_in wsX10_in) := goodIn_app (goodIn_of _ (by decide +kernel)) ggX10_isKnot_X10_in
theorem dX10_isKnot_0 : decode cX10_isKnot 0 = .ok (.iload_n 0, 1) := by decide +kernel
theorem dX10_isKnot_1 : decode cX10_isKnot 1 = .ok (.iconst 0, 1) := by decide +kernel
theorem dX10_isKnot_2 : decode cX10_isKnot 2 = .ok (.iconst 5, 1) := by decide +kernel
theorem dX10_isKnot_3 : decode cX10_isKnot 3 = .ok (.invokestatic 89, 3) := by decide +kernel
theorem dX10_isKnot_6 : decode cX10_isKnot 6 = .ok (.ireturn, 1) := by decide +kernel
set_option maxRecDepth 20000 in
theorem ggX10_wire_X10_in : GoodIn wsX10_wire wsX10_in := goodIn_r _ [11] (by decide +kernel) (by decide +kernel)
set_option maxRecDepth 20000 in
theorem gX10_wire_X10_in : GoodIn wsX10_wire (va_wsS RX10 89 yX10_in wsX10_in) := goodIn_app (goodIn_of _ (by decide +kernel)) ggX10_wire_X10_in
set_option maxRecDepth 20000 in
theorem ggX10_wire_X10_isKnot : GoodIn wsX10_wire wsX10_isKnot := goodIn_r _ [14, 8, 9, 10, 11] (by decide +kernel) (by decide +kernel)
set_option maxRecDepth 20000 in
theorem gX10_wire_X10_isKnot : GoodIn wsX10_wire (va_wsS RX10 116 yX10_isKnot wsX10_isKnot) := goodIn_app (goodIn_of _ (by decide +kernel)) ggX10_wire_X10_isKnot
theorem dX10_wire_0 : decode cX10_wire 0 = .ok (.aload_n 0, 1) := by decide +kernel
theorem dX10_wire_1 : decode cX10_wire 1 = .ok (.iconst 0, 1) := by decide +kernel
theorem dX10_wire_2 : decode cX10_wire 2 = .ok (.putfield 59, 3) := by decide +kernel
theorem dX10_wire_5 : decode cX10_wire 5 = .ok (.iload_n 1, 1) := by decide +kernel
theorem dX10_wire_6 : decode cX10_wire 6 = .ok (.iconst 0, 1) := by decide +kernel
theorem dX10_wire_7 : decode cX10_wire 7 = .ok (.iconst 2, 1) := by decide +kernel
theorem dX10_wire_8 : decode cX10_wire 8 = .ok (.invokestatic 89, 3) := by decide +kernel
theorem dX10_wire_11 : decode cX10_wire 11 = .ok (.ifCond .eq 51, 3) := by decide +kernel
theorem dX10_wire_14 : decode cX10_wire 14 = .ok (.iload_n 2, 1) := by decide +kernel
theorem dX10_wire_15 : decode cX10_wire 15 = .ok (.invokestatic 116, 3) := by decide +kernel
theorem dX10_wire_18 : decode cX10_wire 18 = .ok (.ifCond .eq 44, 3) := by decide +kernel
theorem dX10_wire_21 : decode cX10_wire 21 = .ok (.iload_n 3, 1) := by decide +kernel
theorem dX10_wire_22 : decode cX10_wire 22 = .ok (.invokestatic 116, 3) := by decide +kernel
theorem dX10_wire_25 : decode cX10_wire 25 = .ok (.ifCond .eq 37, 3) := by decide +kernel
theorem dX10_wire_28 : decode cX10_wire 28 = .ok (.iload_n 2, 1) := by decide +kernel
theorem dX10_wire_29 : decode cX10_wire 29 = .ok (.iload_n 3, 1) := by decide +kernel
theorem dX10_wire_30 : decode cX10_wire 30 = .ok (.if_icmp .eq 32, 3) := by decide +kernel
theorem dX10_wire_33 : decode cX10_wire 33 = .ok (.iload_n 1, 1) := by decide +kernel
theorem dX10_wire_34 : decode cX10_wire 34 = .ok (.ifCond .le 13, 3) := by decide +kernel
theorem dX10_wire_37 : decode cX10_wire 37 = .ok (.iload 4, 2) := by decide +kernel
theorem dX10_wire_39 : decode cX10_wire 39 = .ok (.iconst 1, 1) := by decide +kernel
theorem dX10_wire_40 : decode cX10_wire 40 = .ok (.iconst 4, 1) := by decide +kernel
theorem dX10_wire_41 : decode cX10_wire 41 = .ok (.invokestatic 89, 3) := by decide +kernel
theorem dX10_wire_44 : decode cX10_wire 44 = .ok (.ifCond .eq 18, 3) := by decide +kernel
theorem dX10_wire_47 : decode cX10_wire 47 = .ok (.iload_n 1, 1) := by decide +kernel
theorem dX10_wire_48 : decode cX10_wire 48 = .ok (.iconst 2, 1) := by decide +kernel
theorem dX10_wire_49 : decode cX10_wire 49 = .ok (.if_icmp .ne 15, 3) := by decide +kernel
theorem dX10_wire_52 : decode cX10_wire 52 = .ok (.iload 5, 2) := by decide +kernel
theorem dX10_wire_54 : decode cX10_wire 54 = .ok (.iconst 1, 1) := by decide +kernel
theorem dX10_wire_55 : decode cX10_wire 55 = .ok (.iconst 4, 1) := by decide +kernel
theorem dX10_wire_56 : decode cX10_wire 56 = .ok (.invokestatic 89, 3) := by decide +kernel
theorem dX10_wire_59 : decode cX10_wire 59 = .ok (.ifCond .ne 5, 3) := by decide +kernel
theorem dX10_wire_62 : decode cX10_wire 62 = .ok (.iconst (-1), 1) := by decide +kernel
theorem dX10_wire_63 : decode cX10_wire 63 = .ok (.ireturn, 1) := by decide +kernel
theorem dX10_wire_64 : decode cX10_wire 64 = .ok (.aload_n 0, 1) := by decide +kernel
theorem dX10_wire_65 : decode cX10_wire 65 = .ok (.getfield 119, 3) := by decide +kernel
theorem dX10_wire_68 : decode cX10_wire 68 = .ok (.bipush 12, 2) := by decide +kernel
theorem dX10_wire_70 : decode cX10_wire 70 = .ok (.if_icmp .ne 6, 3) := by decide +kernel
theorem dX10_wire_73 : decode cX10_wire 73 = .ok (.bipush (-3), 2) := by decide +kernel
theorem dX10_wire_75 : decode cX10_wire 75 = .ok (.ireturn, 1) := by decide +kernel
theorem dX10_wire_76 : decode cX10_wire 76 = .ok (.aload_n 0, 1) := by decide +kernel
theorem dX10_wire_77 : decode cX10_wire 77 = .ok (.getfield 19, 3) := by decide +kernel
theorem dX10_wire_80 : decode cX10_wire 80 = .ok (.aload_n 0, 1) := by decide +kernel
theorem dX10_wire_81 : decode cX10_wire 81 = .ok (.getfield 119, 3) := by decide +kernel
theorem dX10_wire_84 : decode cX10_wire 84 = .ok (.iload_n 1, 1) := by decide +kernel
theorem dX10_wire_85 : decode cX10_wire 85 = .ok (.iastore, 1) := by decide +kernel
theorem dX10_wire_86 : decode cX10_wire 86 = .ok (.aload_n 0, 1) := by decide +kernel
theorem dX10_wire_87 : decode cX10_wire 87 = .ok (.getfield 22, 3) := by decide +kernel
theorem dX10_wire_90 : decode cX10_wire 90 = .ok (.aload_n 0, 1) := by decide +kernel
theorem dX10_wire_91 : decode cX10_wire 91 = .ok (.getfield 119, 3) := by decide +kernel
theorem dX10_wire_94 : decode cX10_wire 94 = .ok (.iload_n 2, 1) := by decide +kernel
theorem dX10_wire_95 : decode cX10_wire 95 = .ok (.iastore, 1) := by decide +kernel
theorem dX10_wire_96 : decode cX10_wire 96 = .ok (.aload_n 0, 1) := by decide +kernel
theorem dX10_wire_97 : decode cX10_wire 97 = .ok (.getfield 25, 3) := by decide +kernel
theorem dX10_wire_100 : decode cX10_wire 100 = .ok (.aload_n 0, 1) := by decide +kernel
theorem dX10_wire_101 : decode cX10_wire 101 = .ok (.getfield 119, 3) := by decide +kernel
theorem dX10_wire_104 : decode cX10_wire 104 = .ok (.iload_n 3, 1) := by decide +kernel
theorem dX10_wire_105 : decode cX10_wire 105 = .ok (.iastore, 1) := by decide +kernel
theorem dX10_wire_106 : decode cX10_wire 106 = .ok (.aload_n 0, 1) := by decide +kernel
theorem dX10_wire_107 : decode cX10_wire 107 = .ok (.getfield 28, 3) := by decide +kernel
theorem dX10_wire_110 : decode cX10_wire 110 = .ok (.aload_n 0, 1) := by decide +kernel
theorem dX10_wire_111 : decode cX10_wire 111 = .ok (.getfield 119, 3) := by decide +kernel
theorem dX10_wire_114 : decode cX10_wire 114 = .ok (.iload_n 1, 1) := by decide +kernel
theorem dX10_wire_115 : decode cX10_wire 115 = .ok (.ifCond .le 8, 3) := by decide +kernel
theorem dX10_wire_118 : decode cX10_wire 118 = .ok (.iload 4, 2) := by decide +kernel
theorem dX10_wire_120 : decode cX10_wire 120 = .ok (.goto 4, 3) := by decide +kernel
theorem dX10_wire_123 : decode cX10_wire 123 = .ok (.iconst 1, 1) := by decide +kernel
theorem dX10_wire_124 : decode cX10_wire 124 = .ok (.iastore, 1) := by decide +kernel
theorem dX10_wire_125 : decode cX10_wire 125 = .ok (.aload_n 0, 1) := by decide +kernel
theorem dX10_wire_126 : decode cX10_wire 126 = .ok (.getfield 31, 3) := by decide +kernel
theorem dX10_wire_129 : decode cX10_wire 129 = .ok (.aload_n 0, 1) := by decide +kernel
theorem dX10_wire_130 : decode cX10_wire 130 = .ok (.getfield 119, 3) := by decide +kernel
theorem dX10_wire_133 : decode cX10_wire 133 = .ok (.iload_n 1, 1) := by decide +kernel
theorem dX10_wire_134 : decode cX10_wire 134 = .ok (.iconst 2, 1) := by decide +kernel
theorem dX10_wire_135 : decode cX10_wire 135 = .ok (.if_icmp .ne 8, 3) := by decide +kernel
theorem dX10_wire_138 : decode cX10_wire 138 = .ok (.iload 5, 2) := by decide +kernel
theorem dX10_wire_140 : decode cX10_wire 140 = .ok (.goto 4, 3) := by decide +kernel
theorem dX10_wire_143 : decode cX10_wire 143 = .ok (.iconst 1, 1) := by decide +kernel
theorem dX10_wire_144 : decode cX10_wire 144 = .ok (.iastore, 1) := by decide +kernel
theorem dX10_wire_145 : decode cX10_wire 145 = .ok (.aload_n 0, 1) := by decide +kernel
theorem dX10_wire_146 : decode cX10_wire 146 = .ok (.dup, 1) := by decide +kernel
theorem dX10_wire_147 : decode cX10_wire 147 = .ok (.getfield 119, 3) := by decide +kernel
theorem dX10_wire_150 : decode cX10_wire 150 = .ok (.iconst 1, 1) := by decide +kernel
theorem dX10_wire_151 : decode cX10_wire 151 = .ok (.iadd, 1) := by decide +kernel
theorem dX10_wire_152 : decode cX10_wire 152 = .ok (.putfield 119, 3) := by decide +kernel
theorem dX10_wire_155 : decode cX10_wire 155 = .ok (.aload_n 0, 1) := by decide +kernel
theorem dX10_wire_156 : decode cX10_wire 156 = .ok (.getfield 119, 3) := by decide +kernel
theorem dX10_wire_159 : decode cX10_wire 159 = .ok (.iconst 1, 1) := by decide +kernel
theorem dX10_wire_160 : decode cX10_wire 160 = .ok (.isub, 1) := by decide +kernel
theorem dX10_wire_161 : decode cX10_wire 161 = .ok (.ireturn, 1) := by decide +kernel
theorem dX10_cut_0 : decode cX10_cut 0 = .ok (.aload_n 0, 1) := by decide +kernel
theorem dX10_cut_1 : decode cX10_cut 1 = .ok (.iconst 0, 1) := by decide +kernel
theorem dX10_cut_2 : decode cX10_cut 2 = .ok (.putfield 59, 3) := by decide +kernel
theorem dX10_cut_5 : decode cX10_cut 5 = .ok (.aload_n 0, 1) := by decide +kernel
theorem dX10_cut_6 : decode cX10_cut 6 = .ok (.getfield 119, 3) := by decide +kernel
theorem dX10_cut_9 : decode cX10_cut 9 = .ok (.ifCond .ne 6, 3) := by decide +kernel
theorem dX10_cut_12 : decode cX10_cut 12 = .ok (.bipush (-2), 2) := by decide +kernel
theorem dX10_cut_14 : decode cX10_cut 14 = .ok (.ireturn, 1) := by decide +kernel
theorem dX10_cut_15 : decode cX10_cut 15 = .ok (.aload_n 0, 1) := by decide +kernel
theorem dX10_cut_16 : decode cX10_cut 16 = .ok (.dup, 1) := by decide +kernel
theorem dX10_cut_17 : decode cX10_cut 17 = .ok (.getfield 119, 3) := by decide +kernel
theorem dX10_cut_20 : decode cX10_cut 20 = .ok (.iconst 1, 1) := by decide +kernel
theorem dX10_cut_21 : decode cX10_cut 21 = .ok (.isub, 1) := by decide +kernel
theorem dX10_cut_22 : decode cX10_cut 22 = .ok (.putfield 119, 3) := by decide +kernel
theorem dX10_cut_25 : decode cX10_cut 25 = .ok (.aload_n 0, 1) := by decide +kernel
theorem dX10_cut_26 : decode cX10_cut 26 = .ok (.getfield 119, 3) := by decide +kernel
theorem dX10_cut_29 : decode cX10_cut 29 = .ok (.ireturn, 1) := by decide +kernel
set_option maxRecDepth 20000 in
theorem ggX10_isWire_X10_in : GoodIn wsX10_isWire wsX10_in := goodIn_r _ [5] (by decide +kernel) (by decide +kernel)
set_option maxRecDepth 20000 in
theorem gX10_isWire_X10_in : GoodIn wsX10_isWire (va_wsS RX10 89 yX10_in wsX10_in) := goodIn_app (goodIn_of _ (by decide +kernel)) ggX10_isWire_X10_in
theorem dX10_isWire_0 : decode cX10_isWire 0 = .ok (.iload_n 1, 1) := by decide +kernel
theorem dX10_isWire_1 : decode cX10_isWire 1 = .ok (.iconst 0, 1) := by decide +kernel
theorem dX10_isWire_2 : decode cX10_isWire 2 = .ok (.aload_n 0, 1) := by decide +kernel
theorem dX10_isWire_3 : decode cX10_isWire 3 = .ok (.getfield 119, 3) := by decide +kernel
theorem dX10_isWire_6 : decode cX10_isWire 6 = .ok (.iconst 1, 1) := by decide +kernel
theorem dX10_isWire_7 : decode cX10_isWire 7 = .ok (.isub, 1) := by decide +kernel
theorem dX10_isWire_8 : decode cX10_isWire 8 = .ok (.invokestatic 89, 3) := by decide +kernel
theorem dX10_isWire_11 : decode cX10_isWire 11 = .ok (.ireturn, 1) := by decide +kernel
set_option maxRecDepth 20000 in
theorem ggX10_ohms_X10_isWire : GoodIn wsX10_ohms wsX10_isWire := goodIn_r _ [14, 15, 16, 17, 13, 18, 26, 27, 28, 29, 30, 31, 32, 33, 34, 35, 36, 37, 38, 39, 40, 41, 42, 43, 44, 45, 46, 47, 48, 49] (by decide +kernel) (by decide +kernel)
set_option maxRecDepth 20000 in
theorem gX10_ohms_X10_isWire : GoodIn wsX10_ohms (wsV RX10 122 RX10 yX10_isWire wsX10_isWire) := goodIn_app (goodIn_of _ (by decide +kernel)) ggX10_ohms_X10_isWire
set_option maxRecDepth 20000 in
theorem ggX10_ohms_X10_in : GoodIn wsX10_ohms wsX10_in := goodIn_r _ [18] (by decide +kernel) (by decide +kernel)
set_option maxRecDepth 20000 in
theorem gX10_ohms_X10_in : GoodIn wsX10_ohms (va_wsS RX10 89 yX10_in wsX10_in) := goodIn_app (goodIn_of _ (by decide +kernel)) ggX10_ohms_X10_in
set_option maxRecDepth 20000 in
theorem ggX10_ohms_X10_least : GoodIn wsX10_ohms wsX10_least := goodIn_r _ [22, 8, 9, 23, 24, 13, 25, 26, 27, 28, 29, 30, 31, 32, 33, 34, 35, 36, 37, 38, 39, 40, 41, 42, 43, 44, 45, 46, 47, 48, 49] (by decide +kernel) (by decide +kernel)
set_option maxRecDepth 20000 in
theorem gX10_ohms_X10_least : GoodIn wsX10_ohms (wsV RX10 74 RX10 yX10_least wsX10_least) := goodIn_app (goodIn_of _ (by decide +kernel)) ggX10_ohms_X10_least
theorem dX10_ohms_0 : decode cX10_ohms 0 = .ok (.aload_n 0, 1) := by decide +kernel
theorem dX10_ohms_1 : decode cX10_ohms 1 = .ok (.iconst 0, 1) := by decide +kernel
theorem dX10_ohms_2 : decode cX10_ohms 2 = .ok (.putfield 59, 3) := by decide +kernel
theorem dX10_ohms_5 : decode cX10_ohms 5 = .ok (.aload_n 0, 1) := by decide +kernel
theorem dX10_ohms_6 : decode cX10_ohms 6 = .ok (.iload_n 1, 1) := by decide +kernel
theorem dX10_ohms_7 : decode cX10_ohms 7 = .ok (.invokevirtual 122, 3) := by decide +kernel
theorem dX10_ohms_10 : decode cX10_ohms 10 = .ok (.ifCond .eq 12, 3) := by decide +kernel
theorem dX10_ohms_13 : decode cX10_ohms 13 = .ok (.iload_n 2, 1) := by decide +kernel
theorem dX10_ohms_14 : decode cX10_ohms 14 = .ok (.iconst 0, 1) := by decide +kernel
theorem dX10_ohms_15 : decode cX10_ohms 15 = .ok (.iconst 1, 1) := by decide +kernel
theorem dX10_ohms_16 : decode cX10_ohms 16 = .ok (.invokestatic 89, 3) := by decide +kernel
theorem dX10_ohms_19 : decode cX10_ohms 19 = .ok (.ifCond .ne 5, 3) := by decide +kernel
theorem dX10_ohms_22 : decode cX10_ohms 22 = .ok (.iconst (-1), 1) := by decide +kernel
theorem dX10_ohms_23 : decode cX10_ohms 23 = .ok (.ireturn, 1) := by decide +kernel
theorem dX10_ohms_24 : decode cX10_ohms 24 = .ok (.aload_n 0, 1) := by decide +kernel
theorem dX10_ohms_25 : decode cX10_ohms 25 = .ok (.dup, 1) := by decide +kernel
theorem dX10_ohms_26 : decode cX10_ohms 26 = .ok (.getfield 125, 3) := by decide +kernel
theorem dX10_ohms_29 : decode cX10_ohms 29 = .ok (.aload_n 0, 1) := by decide +kernel
theorem dX10_ohms_30 : decode cX10_ohms 30 = .ok (.getfield 19, 3) := by decide +kernel
theorem dX10_ohms_33 : decode cX10_ohms 33 = .ok (.iload_n 1, 1) := by decide +kernel
theorem dX10_ohms_34 : decode cX10_ohms 34 = .ok (.iaload, 1) := by decide +kernel
theorem dX10_ohms_35 : decode cX10_ohms 35 = .ok (.ifCond .ne 7, 3) := by decide +kernel
theorem dX10_ohms_38 : decode cX10_ohms 38 = .ok (.lconst 1, 1) := by decide +kernel
theorem dX10_ohms_39 : decode cX10_ohms 39 = .ok (.goto 22, 3) := by decide +kernel
theorem dX10_ohms_42 : decode cX10_ohms 42 = .ok (.aload_n 0, 1) := by decide +kernel
theorem dX10_ohms_43 : decode cX10_ohms 43 = .ok (.getfield 19, 3) := by decide +kernel
theorem dX10_ohms_46 : decode cX10_ohms 46 = .ok (.iload_n 1, 1) := by decide +kernel
theorem dX10_ohms_47 : decode cX10_ohms 47 = .ok (.iaload, 1) := by decide +kernel
theorem dX10_ohms_48 : decode cX10_ohms 48 = .ok (.iconst 1, 1) := by decide +kernel
theorem dX10_ohms_49 : decode cX10_ohms 49 = .ok (.if_icmp .ne 9, 3) := by decide +kernel
theorem dX10_ohms_52 : decode cX10_ohms 52 = .ok (.ldc2_w 128, 3) := by decide +kernel
theorem dX10_ohms_55 : decode cX10_ohms 55 = .ok (.goto 6, 3) := by decide +kernel
theorem dX10_ohms_58 : decode cX10_ohms 58 = .ok (.ldc2_w 130, 3) := by decide +kernel
theorem dX10_ohms_61 : decode cX10_ohms 61 = .ok (.ladd, 1) := by decide +kernel
theorem dX10_ohms_62 : decode cX10_ohms 62 = .ok (.putfield 125, 3) := by decide +kernel
theorem dX10_ohms_65 : decode cX10_ohms 65 = .ok (.aload_n 0, 1) := by decide +kernel
theorem dX10_ohms_66 : decode cX10_ohms 66 = .ok (.aload_n 0, 1) := by decide +kernel
theorem dX10_ohms_67 : decode cX10_ohms 67 = .ok (.getfield 28, 3) := by decide +kernel
theorem dX10_ohms_70 : decode cX10_ohms 70 = .ok (.iload_n 1, 1) := by decide +kernel
theorem dX10_ohms_71 : decode cX10_ohms 71 = .ok (.iaload, 1) := by decide +kernel
theorem dX10_ohms_72 : decode cX10_ohms 72 = .ok (.i2l, 1) := by decide +kernel
theorem dX10_ohms_73 : decode cX10_ohms 73 = .ok (.aload_n 0, 1) := by decide +kernel
theorem dX10_ohms_74 : decode cX10_ohms 74 = .ok (.getfield 31, 3) := by decide +kernel
theorem dX10_ohms_77 : decode cX10_ohms 77 = .ok (.iload_n 1, 1) := by decide +kernel
theorem dX10_ohms_78 : decode cX10_ohms 78 = .ok (.iaload, 1) := by decide +kernel
theorem dX10_ohms_79 : decode cX10_ohms 79 = .ok (.i2l, 1) := by decide +kernel
theorem dX10_ohms_80 : decode cX10_ohms 80 = .ok (.invokevirtual 74, 3) := by decide +kernel
theorem dX10_ohms_83 : decode cX10_ohms 83 = .ok (.iload_n 2, 1) := by decide +kernel
theorem dX10_ohms_84 : decode cX10_ohms 84 = .ok (.ifCond .ne 10, 3) := by decide +kernel
theorem dX10_ohms_87 : decode cX10_ohms 87 = .ok (.aload_n 0, 1) := by decide +kernel
theorem dX10_ohms_88 : decode cX10_ohms 88 = .ok (.getfield 67, 3) := by decide +kernel
theorem dX10_ohms_91 : decode cX10_ohms 91 = .ok (.goto 7, 3) := by decide +kernel
theorem dX10_ohms_94 : decode cX10_ohms 94 = .ok (.aload_n 0, 1) := by decide +kernel
theorem dX10_ohms_95 : decode cX10_ohms 95 = .ok (.getfield 71, 3) := by decide +kernel
theorem dX10_ohms_98 : decode cX10_ohms 98 = .ok (.l2i, 1) := by decide +kernel
theorem dX10_ohms_99 : decode cX10_ohms 99 = .ok (.ireturn, 1) := by decide +kernel
set_option maxRecDepth 20000 in
theorem ggX10_about_X10_isWire : GoodIn wsX10_about wsX10_isWire := goodIn_r _ [9, 10, 11, 12, 8, 13, 14, 15, 16, 17, 18, 19, 20, 21, 22, 23, 24, 25, 26, 27, 28, 29, 30, 31, 32, 33, 34, 35, 36, 37] (by decide +kernel) (by decide +kernel)
set_option maxRecDepth 20000 in
theorem gX10_about_X10_isWire : GoodIn wsX10_about (wsV RX10 122 RX10 yX10_isWire wsX10_isWire) := goodIn_app (goodIn_of _ (by decide +kernel)) ggX10_about_X10_isWire
set_option maxRecDepth 20000 in
theorem ggX10_about_X10_in : GoodIn wsX10_about wsX10_in := goodIn_r _ [13] (by decide +kernel) (by decide +kernel)
set_option maxRecDepth 20000 in
theorem gX10_about_X10_in : GoodIn wsX10_about (va_wsS RX10 89 yX10_in wsX10_in) := goodIn_app (goodIn_of _ (by decide +kernel)) ggX10_about_X10_in
theorem dX10_about_0 : decode cX10_about 0 = .ok (.aload_n 0, 1) := by decide +kernel
theorem dX10_about_1 : decode cX10_about 1 = .ok (.iconst 0, 1) := by decide +kernel
theorem dX10_about_2 : decode cX10_about 2 = .ok (.putfield 59, 3) := by decide +kernel
theorem dX10_about_5 : decode cX10_about 5 = .ok (.aload_n 0, 1) := by decide +kernel
theorem dX10_about_6 : decode cX10_about 6 = .ok (.iload_n 1, 1) := by decide +kernel
theorem dX10_about_7 : decode cX10_about 7 = .ok (.invokevirtual 122, 3) := by decide +kernel
theorem dX10_about_10 : decode cX10_about 10 = .ok (.ifCond .eq 12, 3) := by decide +kernel
theorem dX10_about_13 : decode cX10_about 13 = .ok (.iload_n 2, 1) := by decide +kernel
theorem dX10_about_14 : decode cX10_about 14 = .ok (.iconst 0, 1) := by decide +kernel
theorem dX10_about_15 : decode cX10_about 15 = .ok (.iconst 2, 1) := by decide +kernel
theorem dX10_about_16 : decode cX10_about 16 = .ok (.invokestatic 89, 3) := by decide +kernel
theorem dX10_about_19 : decode cX10_about 19 = .ok (.ifCond .ne 5, 3) := by decide +kernel
theorem dX10_about_22 : decode cX10_about 22 = .ok (.iconst (-1), 1) := by decide +kernel
theorem dX10_about_23 : decode cX10_about 23 = .ok (.ireturn, 1) := by decide +kernel
theorem dX10_about_24 : decode cX10_about 24 = .ok (.iload_n 2, 1) := by decide +kernel
theorem dX10_about_25 : decode cX10_about 25 = .ok (.ifCond .ne 12, 3) := by decide +kernel
theorem dX10_about_28 : decode cX10_about 28 = .ok (.aload_n 0, 1) := by decide +kernel
theorem dX10_about_29 : decode cX10_about 29 = .ok (.getfield 19, 3) := by decide +kernel
theorem dX10_about_32 : decode cX10_about 32 = .ok (.iload_n 1, 1) := by decide +kernel
theorem dX10_about_33 : decode cX10_about 33 = .ok (.iaload, 1) := by decide +kernel
theorem dX10_about_34 : decode cX10_about 34 = .ok (.goto 23, 3) := by decide +kernel
theorem dX10_about_37 : decode cX10_about 37 = .ok (.iload_n 2, 1) := by decide +kernel
theorem dX10_about_38 : decode cX10_about 38 = .ok (.iconst 1, 1) := by decide +kernel
theorem dX10_about_39 : decode cX10_about 39 = .ok (.if_icmp .ne 12, 3) := by decide +kernel
theorem dX10_about_42 : decode cX10_about 42 = .ok (.aload_n 0, 1) := by decide +kernel
theorem dX10_about_43 : decode cX10_about 43 = .ok (.getfield 22, 3) := by decide +kernel
theorem dX10_about_46 : decode cX10_about 46 = .ok (.iload_n 1, 1) := by decide +kernel
theorem dX10_about_47 : decode cX10_about 47 = .ok (.iaload, 1) := by decide +kernel
theorem dX10_about_48 : decode cX10_about 48 = .ok (.goto 9, 3) := by decide +kernel
theorem dX10_about_51 : decode cX10_about 51 = .ok (.aload_n 0, 1) := by decide +kernel
theorem dX10_about_52 : decode cX10_about 52 = .ok (.getfield 25, 3) := by decide +kernel
theorem dX10_about_55 : decode cX10_about 55 = .ok (.iload_n 1, 1) := by decide +kernel
theorem dX10_about_56 : decode cX10_about 56 = .ok (.iaload, 1) := by decide +kernel
theorem dX10_about_57 : decode cX10_about 57 = .ok (.ireturn, 1) := by decide +kernel
theorem dX10_joins_0 : decode cX10_joins 0 = .ok (.iconst 1, 1) := by decide +kernel
theorem dX10_joins_1 : decode cX10_joins 1 = .ok (.istore_n 2, 1) := by decide +kernel
theorem dX10_joins_2 : decode cX10_joins 2 = .ok (.iconst 0, 1) := by decide +kernel
theorem dX10_joins_3 : decode cX10_joins 3 = .ok (.istore_n 3, 1) := by decide +kernel
theorem dX10_joins_4 : decode cX10_joins 4 = .ok (.iload_n 3, 1) := by decide +kernel
theorem dX10_joins_5 : decode cX10_joins 5 = .ok (.bipush 6, 2) := by decide +kernel
theorem dX10_joins_7 : decode cX10_joins 7 = .ok (.if_icmp .ge 16, 3) := by decide +kernel
theorem dX10_joins_10 : decode cX10_joins 10 = .ok (.aload_n 0, 1) := by decide +kernel
theorem dX10_joins_11 : decode cX10_joins 11 = .ok (.getfield 34, 3) := by decide +kernel
theorem dX10_joins_14 : decode cX10_joins 14 = .ok (.iload_n 3, 1) := by decide +kernel
theorem dX10_joins_15 : decode cX10_joins 15 = .ok (.iload_n 3, 1) := by decide +kernel
theorem dX10_joins_16 : decode cX10_joins 16 = .ok (.iastore, 1) := by decide +kernel
theorem dX10_joins_17 : decode cX10_joins 17 = .ok (.iinc 3 1, 3) := by decide +kernel
theorem dX10_joins_20 : decode cX10_joins 20 = .ok (.goto (-16), 3) := by decide +kernel
theorem dX10_joins_23 : decode cX10_joins 23 = .ok (.iconst 0, 1) := by decide +kernel
theorem dX10_joins_24 : decode cX10_joins 24 = .ok (.istore_n 3, 1) := by decide +kernel
theorem dX10_joins_25 : decode cX10_joins 25 = .ok (.iload_n 3, 1) := by decide +kernel
theorem dX10_joins_26 : decode cX10_joins 26 = .ok (.aload_n 0, 1) := by decide +kernel
theorem dX10_joins_27 : decode cX10_joins 27 = .ok (.getfield 119, 3) := by decide +kernel
theorem dX10_joins_30 : decode cX10_joins 30 = .ok (.if_icmp .ge 130, 3) := by decide +kernel
theorem dX10_joins_33 : decode cX10_joins 33 = .ok (.aload_n 0, 1) := by decide +kernel
theorem dX10_joins_34 : decode cX10_joins 34 = .ok (.getfield 34, 3) := by decide +kernel
theorem dX10_joins_37 : decode cX10_joins 37 = .ok (.aload_n 0, 1) := by decide +kernel
theorem dX10_joins_38 : decode cX10_joins 38 = .ok (.getfield 22, 3) := by decide +kernel
theorem dX10_joins_41 : decode cX10_joins 41 = .ok (.iload_n 3, 1) := by decide +kernel
theorem dX10_joins_42 : decode cX10_joins 42 = .ok (.iaload, 1) := by decide +kernel
theorem dX10_joins_43 : decode cX10_joins 43 = .ok (.iaload, 1) := by decide +kernel
theorem dX10_joins_44 : decode cX10_joins 44 = .ok (.istore 4, 2) := by decide +kernel
theorem dX10_joins_46 : decode cX10_joins 46 = .ok (.aload_n 0, 1) := by decide +kernel
theorem dX10_joins_47 : decode cX10_joins 47 = .ok (.getfield 34, 3) := by decide +kernel
theorem dX10_joins_50 : decode cX10_joins 50 = .ok (.aload_n 0, 1) := by decide +kernel
theorem dX10_joins_51 : decode cX10_joins 51 = .ok (.getfield 25, 3) := by decide +kernel
theorem dX10_joins_54 : decode cX10_joins 54 = .ok (.iload_n 3, 1) := by decide +kernel
theorem dX10_joins_55 : decode cX10_joins 55 = .ok (.iaload, 1) := by decide +kernel
theorem dX10_joins_56 : decode cX10_joins 56 = .ok (.iaload, 1) := by decide +kernel
theorem dX10_joins_57 : decode cX10_joins 57 = .ok (.istore 5, 2) := by decide +kernel
theorem dX10_joins_59 : decode cX10_joins 59 = .ok (.iload_n 1, 1) := by decide +kernel
theorem dX10_joins_60 : decode cX10_joins 60 = .ok (.iload_n 3, 1) := by decide +kernel
theorem dX10_joins_61 : decode cX10_joins 61 = .ok (.ishr, 1) := by decide +kernel
theorem dX10_joins_62 : decode cX10_joins 62 = .ok (.iconst 1, 1) := by decide +kernel
theorem dX10_joins_63 : decode cX10_joins 63 = .ok (.iand, 1) := by decide +kernel
theorem dX10_joins_64 : decode cX10_joins 64 = .ok (.iconst 1, 1) := by decide +kernel
theorem dX10_joins_65 : decode cX10_joins 65 = .ok (.if_icmp .ne 89, 3) := by decide +kernel
theorem dX10_joins_68 : decode cX10_joins 68 = .ok (.iload_n 2, 1) := by decide +kernel
theorem dX10_joins_69 : decode cX10_joins 69 = .ok (.iload 4, 2) := by decide +kernel
theorem dX10_joins_71 : decode cX10_joins 71 = .ok (.iload 5, 2) := by decide +kernel
theorem dX10_joins_73 : decode cX10_joins 73 = .ok (.if_icmp .eq 7, 3) := by decide +kernel
theorem dX10_joins_76 : decode cX10_joins 76 = .ok (.iconst 1, 1) := by decide +kernel
theorem dX10_joins_77 : decode cX10_joins 77 = .ok (.goto 4, 3) := by decide +kernel
theorem dX10_joins_80 : decode cX10_joins 80 = .ok (.iconst 0, 1) := by decide +kernel
theorem dX10_joins_81 : decode cX10_joins 81 = .ok (.iand, 1) := by decide +kernel
theorem dX10_joins_82 : decode cX10_joins 82 = .ok (.istore_n 2, 1) := by decide +kernel
theorem dX10_joins_83 : decode cX10_joins 83 = .ok (.iconst 0, 1) := by decide +kernel
theorem dX10_joins_84 : decode cX10_joins 84 = .ok (.istore 6, 2) := by decide +kernel
theorem dX10_joins_86 : decode cX10_joins 86 = .ok (.iload 6, 2) := by decide +kernel
theorem dX10_joins_88 : decode cX10_joins 88 = .ok (.bipush 6, 2) := by decide +kernel
theorem dX10_joins_90 : decode cX10_joins 90 = .ok (.if_icmp .ge 64, 3) := by decide +kernel
theorem dX10_joins_93 : decode cX10_joins 93 = .ok (.aload_n 0, 1) := by decide +kernel
theorem dX10_joins_94 : decode cX10_joins 94 = .ok (.getfield 34, 3) := by decide +kernel
theorem dX10_joins_97 : decode cX10_joins 97 = .ok (.iload 6, 2) := by decide +kernel
theorem dX10_joins_99 : decode cX10_joins 99 = .ok (.aload_n 0, 1) := by decide +kernel
theorem dX10_joins_100 : decode cX10_joins 100 = .ok (.getfield 34, 3) := by decide +kernel
theorem dX10_joins_103 : decode cX10_joins 103 = .ok (.iload 6, 2) := by decide +kernel
theorem dX10_joins_105 : decode cX10_joins 105 = .ok (.iaload, 1) := by decide +kernel
theorem dX10_joins_106 : decode cX10_joins 106 = .ok (.iload 4, 2) := by decide +kernel
theorem dX10_joins_108 : decode cX10_joins 108 = .ok (.if_icmp .eq 15, 3) := by decide +kernel
theorem dX10_joins_111 : decode cX10_joins 111 = .ok (.aload_n 0, 1) := by decide +kernel
theorem dX10_joins_112 : decode cX10_joins 112 = .ok (.getfield 34, 3) := by decide +kernel
theorem dX10_joins_115 : decode cX10_joins 115 = .ok (.iload 6, 2) := by decide +kernel
theorem dX10_joins_117 : decode cX10_joins 117 = .ok (.iaload, 1) := by decide +kernel
theorem dX10_joins_118 : decode cX10_joins 118 = .ok (.iload 5, 2) := by decide +kernel
theorem dX10_joins_120 : decode cX10_joins 120 = .ok (.if_icmp .ne 20, 3) := by decide +kernel
theorem dX10_joins_123 : decode cX10_joins 123 = .ok (.iload 4, 2) := by decide +kernel
theorem dX10_joins_125 : decode cX10_joins 125 = .ok (.iload 5, 2) := by decide +kernel
theorem dX10_joins_127 : decode cX10_joins 127 = .ok (.if_icmp .ge 8, 3) := by decide +kernel
theorem dX10_joins_130 : decode cX10_joins 130 = .ok (.iload 4, 2) := by decide +kernel
theorem dX10_joins_132 : decode cX10_joins 132 = .ok (.goto 15, 3) := by decide +kernel
theorem dX10_joins_135 : decode cX10_joins 135 = .ok (.iload 5, 2) := by decide +kernel
theorem dX10_joins_137 : decode cX10_joins 137 = .ok (.goto 10, 3) := by decide +kernel
theorem dX10_joins_140 : decode cX10_joins 140 = .ok (.aload_n 0, 1) := by decide +kernel
theorem dX10_joins_141 : decode cX10_joins 141 = .ok (.getfield 34, 3) := by decide +kernel
theorem dX10_joins_144 : decode cX10_joins 144 = .ok (.iload 6, 2) := by decide +kernel
theorem dX10_joins_146 : decode cX10_joins 146 = .ok (.iaload, 1) := by decide +kernel
theorem dX10_joins_147 : decode cX10_joins 147 = .ok (.iastore, 1) := by decide +kernel
theorem dX10_joins_148 : decode cX10_joins 148 = .ok (.iinc 6 1, 3) := by decide +kernel
theorem dX10_joins_151 : decode cX10_joins 151 = .ok (.goto (-65), 3) := by decide +kernel
theorem dX10_joins_154 : decode cX10_joins 154 = .ok (.iinc 3 1, 3) := by decide +kernel
theorem dX10_joins_157 : decode cX10_joins 157 = .ok (.goto (-132), 3) := by decide +kernel
theorem dX10_joins_160 : decode cX10_joins 160 = .ok (.iload_n 2, 1) := by decide +kernel
theorem dX10_joins_161 : decode cX10_joins 161 = .ok (.ireturn, 1) := by decide +kernel
set_option maxRecDepth 20000 in
theorem ggX10_hang_X10_joins : GoodIn wsX10_hang wsX10_joins := goodIn_r _ [8, 3, 1, 9, 10, 11, 12, 13, 14, 15, 16, 17, 18, 19, 20, 21, 22, 23, 24, 25, 26, 27, 28, 29, 30, 31, 32, 33, 34] (by decide +kernel) (by decide +kernel)
set_option maxRecDepth 20000 in
theorem gX10_hang_X10_joins : GoodIn wsX10_hang (wsV RX10 132 RX10 yX10_joins wsX10_joins) := goodIn_app (goodIn_of _ (by decide +kernel)) ggX10_hang_X10_joins
theorem dX10_hang_0 : decode cX10_hang 0 = .ok (.aload_n 0, 1) := by decide +kernel
theorem dX10_hang_1 : decode cX10_hang 1 = .ok (.iconst 1, 1) := by decide +kernel
theorem dX10_hang_2 : decode cX10_hang 2 = .ok (.aload_n 0, 1) := by decide +kernel
theorem dX10_hang_3 : decode cX10_hang 3 = .ok (.getfield 119, 3) := by decide +kernel
theorem dX10_hang_6 : decode cX10_hang 6 = .ok (.ishl, 1) := by decide +kernel
theorem dX10_hang_7 : decode cX10_hang 7 = .ok (.iconst 1, 1) := by decide +kernel
theorem dX10_hang_8 : decode cX10_hang 8 = .ok (.isub, 1) := by decide +kernel
theorem dX10_hang_9 : decode cX10_hang 9 = .ok (.invokevirtual 132, 3) := by decide +kernel
theorem dX10_hang_12 : decode cX10_hang 12 = .ok (.pop, 1) := by decide +kernel
theorem dX10_hang_13 : decode cX10_hang 13 = .ok (.iconst 0, 1) := by decide +kernel
theorem dX10_hang_14 : decode cX10_hang 14 = .ok (.istore_n 3, 1) := by decide +kernel
theorem dX10_hang_15 : decode cX10_hang 15 = .ok (.iload_n 3, 1) := by decide +kernel
theorem dX10_hang_16 : decode cX10_hang 16 = .ok (.bipush 6, 2) := by decide +kernel
theorem dX10_hang_18 : decode cX10_hang 18 = .ok (.if_icmp .ge 21, 3) := by decide +kernel
theorem dX10_hang_21 : decode cX10_hang 21 = .ok (.aload_n 0, 1) := by decide +kernel
theorem dX10_hang_22 : decode cX10_hang 22 = .ok (.getfield 37, 3) := by decide +kernel
theorem dX10_hang_25 : decode cX10_hang 25 = .ok (.iload_n 3, 1) := by decide +kernel
theorem dX10_hang_26 : decode cX10_hang 26 = .ok (.aload_n 0, 1) := by decide +kernel
theorem dX10_hang_27 : decode cX10_hang 27 = .ok (.getfield 34, 3) := by decide +kernel
theorem dX10_hang_30 : decode cX10_hang 30 = .ok (.iload_n 3, 1) := by decide +kernel
theorem dX10_hang_31 : decode cX10_hang 31 = .ok (.iaload, 1) := by decide +kernel
theorem dX10_hang_32 : decode cX10_hang 32 = .ok (.iastore, 1) := by decide +kernel
theorem dX10_hang_33 : decode cX10_hang 33 = .ok (.iinc 3 1, 3) := by decide +kernel
theorem dX10_hang_36 : decode cX10_hang 36 = .ok (.goto (-21), 3) := by decide +kernel
theorem dX10_hang_39 : decode cX10_hang 39 = .ok (.aload_n 0, 1) := by decide +kernel
theorem dX10_hang_40 : decode cX10_hang 40 = .ok (.getfield 37, 3) := by decide +kernel
theorem dX10_hang_43 : decode cX10_hang 43 = .ok (.iload_n 1, 1) := by decide +kernel
theorem dX10_hang_44 : decode cX10_hang 44 = .ok (.iaload, 1) := by decide +kernel
theorem dX10_hang_45 : decode cX10_hang 45 = .ok (.aload_n 0, 1) := by decide +kernel
theorem dX10_hang_46 : decode cX10_hang 46 = .ok (.getfield 37, 3) := by decide +kernel
theorem dX10_hang_49 : decode cX10_hang 49 = .ok (.iload_n 2, 1) := by decide +kernel
theorem dX10_hang_50 : decode cX10_hang 50 = .ok (.iaload, 1) := by decide +kernel
theorem dX10_hang_51 : decode cX10_hang 51 = .ok (.if_icmp .ne 7, 3) := by decide +kernel
theorem dX10_hang_54 : decode cX10_hang 54 = .ok (.iconst 1, 1) := by decide +kernel
theorem dX10_hang_55 : decode cX10_hang 55 = .ok (.goto 4, 3) := by decide +kernel
theorem dX10_hang_58 : decode cX10_hang 58 = .ok (.iconst 0, 1) := by decide +kernel
theorem dX10_hang_59 : decode cX10_hang 59 = .ok (.ireturn, 1) := by decide +kernel
theorem dX10_sizeOf_0 : decode cX10_sizeOf 0 = .ok (.iconst 0, 1) := by decide +kernel
theorem dX10_sizeOf_1 : decode cX10_sizeOf 1 = .ok (.istore_n 2, 1) := by decide +kernel
theorem dX10_sizeOf_2 : decode cX10_sizeOf 2 = .ok (.iconst 0, 1) := by decide +kernel
theorem dX10_sizeOf_3 : decode cX10_sizeOf 3 = .ok (.istore_n 3, 1) := by decide +kernel
theorem dX10_sizeOf_4 : decode cX10_sizeOf 4 = .ok (.iload_n 3, 1) := by decide +kernel
theorem dX10_sizeOf_5 : decode cX10_sizeOf 5 = .ok (.bipush 6, 2) := by decide +kernel
theorem dX10_sizeOf_7 : decode cX10_sizeOf 7 = .ok (.if_icmp .ge 32, 3) := by decide +kernel
theorem dX10_sizeOf_10 : decode cX10_sizeOf 10 = .ok (.iload_n 2, 1) := by decide +kernel
theorem dX10_sizeOf_11 : decode cX10_sizeOf 11 = .ok (.aload_n 0, 1) := by decide +kernel
theorem dX10_sizeOf_12 : decode cX10_sizeOf 12 = .ok (.getfield 37, 3) := by decide +kernel
theorem dX10_sizeOf_15 : decode cX10_sizeOf 15 = .ok (.iload_n 3, 1) := by decide +kernel
theorem dX10_sizeOf_16 : decode cX10_sizeOf 16 = .ok (.iaload, 1) := by decide +kernel
theorem dX10_sizeOf_17 : decode cX10_sizeOf 17 = .ok (.aload_n 0, 1) := by decide +kernel
theorem dX10_sizeOf_18 : decode cX10_sizeOf 18 = .ok (.getfield 37, 3) := by decide +kernel
theorem dX10_sizeOf_21 : decode cX10_sizeOf 21 = .ok (.iload_n 1, 1) := by decide +kernel
theorem dX10_sizeOf_22 : decode cX10_sizeOf 22 = .ok (.iaload, 1) := by decide +kernel
theorem dX10_sizeOf_23 : decode cX10_sizeOf 23 = .ok (.if_icmp .ne 7, 3) := by decide +kernel
theorem dX10_sizeOf_26 : decode cX10_sizeOf 26 = .ok (.iconst 1, 1) := by decide +kernel
theorem dX10_sizeOf_27 : decode cX10_sizeOf 27 = .ok (.goto 4, 3) := by decide +kernel
theorem dX10_sizeOf_30 : decode cX10_sizeOf 30 = .ok (.iconst 0, 1) := by decide +kernel
theorem dX10_sizeOf_31 : decode cX10_sizeOf 31 = .ok (.iadd, 1) := by decide +kernel
theorem dX10_sizeOf_32 : decode cX10_sizeOf 32 = .ok (.istore_n 2, 1) := by decide +kernel
theorem dX10_sizeOf_33 : decode cX10_sizeOf 33 = .ok (.iinc 3 1, 3) := by decide +kernel
theorem dX10_sizeOf_36 : decode cX10_sizeOf 36 = .ok (.goto (-32), 3) := by decide +kernel
theorem dX10_sizeOf_39 : decode cX10_sizeOf 39 = .ok (.iload_n 2, 1) := by decide +kernel
theorem dX10_sizeOf_40 : decode cX10_sizeOf 40 = .ok (.ireturn, 1) := by decide +kernel
theorem dX10_bits_0 : decode cX10_bits 0 = .ok (.iconst 0, 1) := by decide +kernel
theorem dX10_bits_1 : decode cX10_bits 1 = .ok (.istore_n 1, 1) := by decide +kernel
theorem dX10_bits_2 : decode cX10_bits 2 = .ok (.iconst 0, 1) := by decide +kernel
theorem dX10_bits_3 : decode cX10_bits 3 = .ok (.istore_n 2, 1) := by decide +kernel
theorem dX10_bits_4 : decode cX10_bits 4 = .ok (.iload_n 2, 1) := by decide +kernel
theorem dX10_bits_5 : decode cX10_bits 5 = .ok (.bipush 12, 2) := by decide +kernel
theorem dX10_bits_7 : decode cX10_bits 7 = .ok (.if_icmp .ge 17, 3) := by decide +kernel
theorem dX10_bits_10 : decode cX10_bits 10 = .ok (.iload_n 1, 1) := by decide +kernel
theorem dX10_bits_11 : decode cX10_bits 11 = .ok (.iload_n 0, 1) := by decide +kernel
theorem dX10_bits_12 : decode cX10_bits 12 = .ok (.iload_n 2, 1) := by decide +kernel
theorem dX10_bits_13 : decode cX10_bits 13 = .ok (.ishr, 1) := by decide +kernel
theorem dX10_bits_14 : decode cX10_bits 14 = .ok (.iconst 1, 1) := by decide +kernel
theorem dX10_bits_15 : decode cX10_bits 15 = .ok (.iand, 1) := by decide +kernel
theorem dX10_bits_16 : decode cX10_bits 16 = .ok (.iadd, 1) := by decide +kernel
theorem dX10_bits_17 : decode cX10_bits 17 = .ok (.istore_n 1, 1) := by decide +kernel
theorem dX10_bits_18 : decode cX10_bits 18 = .ok (.iinc 2 1, 3) := by decide +kernel
theorem dX10_bits_21 : decode cX10_bits 21 = .ok (.goto (-17), 3) := by decide +kernel
theorem dX10_bits_24 : decode cX10_bits 24 = .ok (.iload_n 1, 1) := by decide +kernel
theorem dX10_bits_25 : decode cX10_bits 25 = .ok (.ireturn, 1) := by decide +kernel
theorem dX10_isOf_0 : decode cX10_isOf 0 = .ok (.iconst 1, 1) := by decide +kernel
theorem dX10_isOf_1 : decode cX10_isOf 1 = .ok (.istore_n 3, 1) := by decide +kernel
theorem dX10_isOf_2 : decode cX10_isOf 2 = .ok (.iconst 0, 1) := by decide +kernel
theorem dX10_isOf_3 : decode cX10_isOf 3 = .ok (.istore 4, 2) := by decide +kernel
theorem dX10_isOf_5 : decode cX10_isOf 5 = .ok (.iload 4, 2) := by decide +kernel
theorem dX10_isOf_7 : decode cX10_isOf 7 = .ok (.aload_n 0, 1) := by decide +kernel
theorem dX10_isOf_8 : decode cX10_isOf 8 = .ok (.getfield 119, 3) := by decide +kernel
theorem dX10_isOf_11 : decode cX10_isOf 11 = .ok (.if_icmp .ge 47, 3) := by decide +kernel
theorem dX10_isOf_14 : decode cX10_isOf 14 = .ok (.iload_n 3, 1) := by decide +kernel
theorem dX10_isOf_15 : decode cX10_isOf 15 = .ok (.iload_n 1, 1) := by decide +kernel
theorem dX10_isOf_16 : decode cX10_isOf 16 = .ok (.iload 4, 2) := by decide +kernel
theorem dX10_isOf_18 : decode cX10_isOf 18 = .ok (.ishr, 1) := by decide +kernel
theorem dX10_isOf_19 : decode cX10_isOf 19 = .ok (.iconst 1, 1) := by decide +kernel
theorem dX10_isOf_20 : decode cX10_isOf 20 = .ok (.iand, 1) := by decide +kernel
theorem dX10_isOf_21 : decode cX10_isOf 21 = .ok (.ifCond .eq 24, 3) := by decide +kernel
theorem dX10_isOf_24 : decode cX10_isOf 24 = .ok (.aload_n 0, 1) := by decide +kernel
theorem dX10_isOf_25 : decode cX10_isOf 25 = .ok (.getfield 37, 3) := by decide +kernel
theorem dX10_isOf_28 : decode cX10_isOf 28 = .ok (.aload_n 0, 1) := by decide +kernel
theorem dX10_isOf_29 : decode cX10_isOf 29 = .ok (.getfield 22, 3) := by decide +kernel
theorem dX10_isOf_32 : decode cX10_isOf 32 = .ok (.iload 4, 2) := by decide +kernel
theorem dX10_isOf_34 : decode cX10_isOf 34 = .ok (.iaload, 1) := by decide +kernel
theorem dX10_isOf_35 : decode cX10_isOf 35 = .ok (.iaload, 1) := by decide +kernel
theorem dX10_isOf_36 : decode cX10_isOf 36 = .ok (.aload_n 0, 1) := by decide +kernel
theorem dX10_isOf_37 : decode cX10_isOf 37 = .ok (.getfield 37, 3) := by decide +kernel
theorem dX10_isOf_40 : decode cX10_isOf 40 = .ok (.iload_n 2, 1) := by decide +kernel
theorem dX10_isOf_41 : decode cX10_isOf 41 = .ok (.iaload, 1) := by decide +kernel
theorem dX10_isOf_42 : decode cX10_isOf 42 = .ok (.if_icmp .ne 7, 3) := by decide +kernel
theorem dX10_isOf_45 : decode cX10_isOf 45 = .ok (.iconst 1, 1) := by decide +kernel
theorem dX10_isOf_46 : decode cX10_isOf 46 = .ok (.goto 4, 3) := by decide +kernel
theorem dX10_isOf_49 : decode cX10_isOf 49 = .ok (.iconst 0, 1) := by decide +kernel
theorem dX10_isOf_50 : decode cX10_isOf 50 = .ok (.iand, 1) := by decide +kernel
theorem dX10_isOf_51 : decode cX10_isOf 51 = .ok (.istore_n 3, 1) := by decide +kernel
theorem dX10_isOf_52 : decode cX10_isOf 52 = .ok (.iinc 4 1, 3) := by decide +kernel
theorem dX10_isOf_55 : decode cX10_isOf 55 = .ok (.goto (-50), 3) := by decide +kernel
theorem dX10_isOf_58 : decode cX10_isOf 58 = .ok (.iload_n 3, 1) := by decide +kernel
theorem dX10_isOf_59 : decode cX10_isOf 59 = .ok (.ireturn, 1) := by decide +kernel
theorem dX10_weight_0 : decode cX10_weight 0 = .ok (.lconst 1, 1) := by decide +kernel
theorem dX10_weight_1 : decode cX10_weight 1 = .ok (.lstore_n 2, 1) := by decide +kernel
theorem dX10_weight_2 : decode cX10_weight 2 = .ok (.iconst 0, 1) := by decide +kernel
theorem dX10_weight_3 : decode cX10_weight 3 = .ok (.istore 4, 2) := by decide +kernel
theorem dX10_weight_5 : decode cX10_weight 5 = .ok (.iload 4, 2) := by decide +kernel
theorem dX10_weight_7 : decode cX10_weight 7 = .ok (.aload_n 0, 1) := by decide +kernel
theorem dX10_weight_8 : decode cX10_weight 8 = .ok (.getfield 119, 3) := by decide +kernel
theorem dX10_weight_11 : decode cX10_weight 11 = .ok (.if_icmp .ge 45, 3) := by decide +kernel
theorem dX10_weight_14 : decode cX10_weight 14 = .ok (.lload_n 2, 1) := by decide +kernel
theorem dX10_weight_15 : decode cX10_weight 15 = .ok (.iload_n 1, 1) := by decide +kernel
theorem dX10_weight_16 : decode cX10_weight 16 = .ok (.iload 4, 2) := by decide +kernel
theorem dX10_weight_18 : decode cX10_weight 18 = .ok (.ishr, 1) := by decide +kernel
theorem dX10_weight_19 : decode cX10_weight 19 = .ok (.iconst 1, 1) := by decide +kernel
theorem dX10_weight_20 : decode cX10_weight 20 = .ok (.iand, 1) := by decide +kernel
theorem dX10_weight_21 : decode cX10_weight 21 = .ok (.iconst 1, 1) := by decide +kernel
theorem dX10_weight_22 : decode cX10_weight 22 = .ok (.if_icmp .ne 25, 3) := by decide +kernel
theorem dX10_weight_25 : decode cX10_weight 25 = .ok (.bipush 12, 2) := by decide +kernel
theorem dX10_weight_27 : decode cX10_weight 27 = .ok (.aload_n 0, 1) := by decide +kernel
theorem dX10_weight_28 : decode cX10_weight 28 = .ok (.getfield 31, 3) := by decide +kernel
theorem dX10_weight_31 : decode cX10_weight 31 = .ok (.iload 4, 2) := by decide +kernel
theorem dX10_weight_33 : decode cX10_weight 33 = .ok (.iaload, 1) := by decide +kernel
theorem dX10_weight_34 : decode cX10_weight 34 = .ok (.imul, 1) := by decide +kernel
theorem dX10_weight_35 : decode cX10_weight 35 = .ok (.aload_n 0, 1) := by decide +kernel
theorem dX10_weight_36 : decode cX10_weight 36 = .ok (.getfield 28, 3) := by decide +kernel
theorem dX10_weight_39 : decode cX10_weight 39 = .ok (.iload 4, 2) := by decide +kernel
theorem dX10_weight_41 : decode cX10_weight 41 = .ok (.iaload, 1) := by decide +kernel
theorem dX10_weight_42 : decode cX10_weight 42 = .ok (.idiv, 1) := by decide +kernel
theorem dX10_weight_43 : decode cX10_weight 43 = .ok (.i2l, 1) := by decide +kernel
theorem dX10_weight_44 : decode cX10_weight 44 = .ok (.goto 4, 3) := by decide +kernel
theorem dX10_weight_47 : decode cX10_weight 47 = .ok (.lconst 1, 1) := by decide +kernel
theorem dX10_weight_48 : decode cX10_weight 48 = .ok (.lmul, 1) := by decide +kernel
theorem dX10_weight_49 : decode cX10_weight 49 = .ok (.lstore_n 2, 1) := by decide +kernel
theorem dX10_weight_50 : decode cX10_weight 50 = .ok (.iinc 4 1, 3) := by decide +kernel
theorem dX10_weight_53 : decode cX10_weight 53 = .ok (.goto (-48), 3) := by decide +kernel
theorem dX10_weight_56 : decode cX10_weight 56 = .ok (.lload_n 2, 1) := by decide +kernel
theorem dX10_weight_57 : decode cX10_weight 57 = .ok (.lreturn, 1) := by decide +kernel
set_option maxRecDepth 20000 in
theorem ggX10_between_X10_isKnot : GoodIn wsX10_between wsX10_isKnot := goodIn_r _ [12, 13, 14, 11, 15] (by decide +kernel) (by decide +kernel)
set_option maxRecDepth 20000 in
theorem gX10_between_X10_isKnot : GoodIn wsX10_between (va_wsS RX10 116 yX10_isKnot wsX10_isKnot) := goodIn_app (goodIn_of _ (by decide +kernel)) ggX10_between_X10_isKnot
set_option maxRecDepth 20000 in
theorem ggX10_between_X10_in : GoodIn wsX10_between wsX10_in := goodIn_r _ [15] (by decide +kernel) (by decide +kernel)
set_option maxRecDepth 20000 in
theorem gX10_between_X10_in : GoodIn wsX10_between (va_wsS RX10 89 yX10_in wsX10_in) := goodIn_app (goodIn_of _ (by decide +kernel)) ggX10_between_X10_in
set_option maxRecDepth 20000 in
theorem ggX10_between_X10_hang : GoodIn wsX10_between wsX10_hang := goodIn_r _ [19, 4, 20, 5, 21, 22, 23, 11, 24, 25, 26, 51, 52, 53, 54, 55, 56, 57, 58, 59, 60, 61, 62, 63, 64, 65, 66, 67, 68, 69, 70, 71, 72, 73, 74] (by decide +kernel) (by decide +kernel)
set_option maxRecDepth 20000 in
theorem gX10_between_X10_hang : GoodIn wsX10_between (wsV RX10 137 RX10 yX10_hang wsX10_hang) := goodIn_app (goodIn_of _ (by decide +kernel)) ggX10_between_X10_hang
set_option maxRecDepth 20000 in
theorem ggX10_between_X10_sizeOf : GoodIn wsX10_between wsX10_sizeOf := goodIn_r _ [30, 20, 51, 52, 53, 54, 55, 56, 57, 58, 59, 60, 61, 62, 63, 64, 65, 66, 67, 68, 69, 70, 71, 72, 73, 74] (by decide +kernel) (by decide +kernel)
set_option maxRecDepth 20000 in
theorem gX10_between_X10_sizeOf : GoodIn wsX10_between (wsV RX10 142 RX10 yX10_sizeOf wsX10_sizeOf) := goodIn_app (goodIn_of _ (by decide +kernel)) ggX10_between_X10_sizeOf
set_option maxRecDepth 20000 in
theorem ggX10_between_X10_bits : GoodIn wsX10_between wsX10_bits := goodIn_r _ [33] (by decide +kernel) (by decide +kernel)
set_option maxRecDepth 20000 in
theorem gX10_between_X10_bits : GoodIn wsX10_between (va_wsS RX10 145 yX10_bits wsX10_bits) := goodIn_app (goodIn_of _ (by decide +kernel)) ggX10_between_X10_bits
set_option maxRecDepth 20000 in
theorem ggX10_between_X10_isOf : GoodIn wsX10_between wsX10_isOf := goodIn_r _ [37, 4, 20, 25, 51, 52, 53, 54, 55, 56, 57, 58, 59, 60, 61, 62, 63, 64, 65, 66, 67, 68, 69, 70, 71, 72, 73, 74] (by decide +kernel) (by decide +kernel)
set_option maxRecDepth 20000 in
theorem gX10_between_X10_isOf : GoodIn wsX10_between (wsV RX10 148 RX10 yX10_isOf wsX10_isOf) := goodIn_app (goodIn_of _ (by decide +kernel)) ggX10_between_X10_isOf
set_option maxRecDepth 20000 in
theorem ggX10_between_X10_joins : GoodIn wsX10_between wsX10_joins := goodIn_r _ [24, 5, 4, 25, 26, 51, 52, 53, 54, 55, 56, 57, 58, 59, 60, 61, 62, 63, 64, 65, 66, 67, 68, 69, 70, 71, 72, 73, 74] (by decide +kernel) (by decide +kernel)
set_option maxRecDepth 20000 in
theorem gX10_between_X10_joins : GoodIn wsX10_between (wsV RX10 132 RX10 yX10_joins wsX10_joins) := goodIn_app (goodIn_of _ (by decide +kernel)) ggX10_between_X10_joins
set_option maxRecDepth 20000 in
theorem ggX10_between_X10_weight : GoodIn wsX10_between wsX10_weight := goodIn_r _ [41, 4, 42, 43, 51, 52, 53, 54, 55, 56, 57, 58, 59, 60, 61, 62, 63, 64, 65, 66, 67, 68, 69, 70, 71, 72, 73, 74] (by decide +kernel) (by decide +kernel)
set_option maxRecDepth 20000 in
theorem gX10_between_X10_weight : GoodIn wsX10_between (wsV RX10 151 RX10 yX10_weight wsX10_weight) := goodIn_app (goodIn_of _ (by decide +kernel)) ggX10_between_X10_weight
set_option maxRecDepth 20000 in
theorem ggX10_between_X10_least : GoodIn wsX10_between wsX10_least := goodIn_r _ [47, 7, 8, 48, 49, 11, 50, 51, 52, 53, 54, 55, 56, 57, 58, 59, 60, 61, 62, 63, 64, 65, 66, 67, 68, 69, 70, 71, 72, 73, 74] (by decide +kernel) (by decide +kernel)
set_option maxRecDepth 20000 in
theorem gX10_between_X10_least : GoodIn wsX10_between (wsV RX10 74 RX10 yX10_least wsX10_least) := goodIn_app (goodIn_of _ (by decide +kernel)) ggX10_between_X10_least
theorem dX10_between_0 : decode cX10_between 0 = .ok (.aload_n 0, 1) := by decide +kernel
theorem dX10_between_1 : decode cX10_between 1 = .ok (.iconst 0, 1) := by decide +kernel
theorem dX10_between_2 : decode cX10_between 2 = .ok (.putfield 59, 3) := by decide +kernel
theorem dX10_between_5 : decode cX10_between 5 = .ok (.iload_n 1, 1) := by decide +kernel
theorem dX10_between_6 : decode cX10_between 6 = .ok (.invokestatic 116, 3) := by decide +kernel
theorem dX10_between_9 : decode cX10_between 9 = .ok (.ifCond .eq 19, 3) := by decide +kernel
theorem dX10_between_12 : decode cX10_between 12 = .ok (.iload_n 2, 1) := by decide +kernel
theorem dX10_between_13 : decode cX10_between 13 = .ok (.invokestatic 116, 3) := by decide +kernel
theorem dX10_between_16 : decode cX10_between 16 = .ok (.ifCond .eq 12, 3) := by decide +kernel
theorem dX10_between_19 : decode cX10_between 19 = .ok (.iload_n 3, 1) := by decide +kernel
theorem dX10_between_20 : decode cX10_between 20 = .ok (.iconst 0, 1) := by decide +kernel
theorem dX10_between_21 : decode cX10_between 21 = .ok (.iconst 1, 1) := by decide +kernel
theorem dX10_between_22 : decode cX10_between 22 = .ok (.invokestatic 89, 3) := by decide +kernel
theorem dX10_between_25 : decode cX10_between 25 = .ok (.ifCond .ne 7, 3) := by decide +kernel
theorem dX10_between_28 : decode cX10_between 28 = .ok (.ldc2_w 135, 3) := by decide +kernel
theorem dX10_between_31 : decode cX10_between 31 = .ok (.lreturn, 1) := by decide +kernel
theorem dX10_between_32 : decode cX10_between 32 = .ok (.iload_n 1, 1) := by decide +kernel
theorem dX10_between_33 : decode cX10_between 33 = .ok (.iload_n 2, 1) := by decide +kernel
theorem dX10_between_34 : decode cX10_between 34 = .ok (.if_icmp .ne 6, 3) := by decide +kernel
theorem dX10_between_37 : decode cX10_between 37 = .ok (.iload_n 3, 1) := by decide +kernel
theorem dX10_between_38 : decode cX10_between 38 = .ok (.i2l, 1) := by decide +kernel
theorem dX10_between_39 : decode cX10_between 39 = .ok (.lreturn, 1) := by decide +kernel
theorem dX10_between_40 : decode cX10_between 40 = .ok (.aload_n 0, 1) := by decide +kernel
theorem dX10_between_41 : decode cX10_between 41 = .ok (.iload_n 1, 1) := by decide +kernel
theorem dX10_between_42 : decode cX10_between 42 = .ok (.iload_n 2, 1) := by decide +kernel
theorem dX10_between_43 : decode cX10_between 43 = .ok (.invokevirtual 137, 3) := by decide +kernel
theorem dX10_between_46 : decode cX10_between 46 = .ok (.ifCond .ne 7, 3) := by decide +kernel
theorem dX10_between_49 : decode cX10_between 49 = .ok (.ldc2_w 140, 3) := by decide +kernel
theorem dX10_between_52 : decode cX10_between 52 = .ok (.lreturn, 1) := by decide +kernel
theorem dX10_between_53 : decode cX10_between 53 = .ok (.aload_n 0, 1) := by decide +kernel
theorem dX10_between_54 : decode cX10_between 54 = .ok (.iload_n 1, 1) := by decide +kernel
theorem dX10_between_55 : decode cX10_between 55 = .ok (.invokevirtual 142, 3) := by decide +kernel
theorem dX10_between_58 : decode cX10_between 58 = .ok (.istore 4, 2) := by decide +kernel
theorem dX10_between_60 : decode cX10_between 60 = .ok (.lconst 0, 1) := by decide +kernel
theorem dX10_between_61 : decode cX10_between 61 = .ok (.lstore 5, 2) := by decide +kernel
theorem dX10_between_63 : decode cX10_between 63 = .ok (.lconst 0, 1) := by decide +kernel
theorem dX10_between_64 : decode cX10_between 64 = .ok (.lstore 7, 2) := by decide +kernel
theorem dX10_between_66 : decode cX10_between 66 = .ok (.iconst 0, 1) := by decide +kernel
theorem dX10_between_67 : decode cX10_between 67 = .ok (.istore 9, 2) := by decide +kernel
theorem dX10_between_69 : decode cX10_between 69 = .ok (.iload 9, 2) := by decide +kernel
theorem dX10_between_71 : decode cX10_between 71 = .ok (.iconst 1, 1) := by decide +kernel
theorem dX10_between_72 : decode cX10_between 72 = .ok (.aload_n 0, 1) := by decide +kernel
theorem dX10_between_73 : decode cX10_between 73 = .ok (.getfield 119, 3) := by decide +kernel
theorem dX10_between_76 : decode cX10_between 76 = .ok (.ishl, 1) := by decide +kernel
theorem dX10_between_77 : decode cX10_between 77 = .ok (.if_icmp .ge 102, 3) := by decide +kernel
theorem dX10_between_80 : decode cX10_between 80 = .ok (.iload 9, 2) := by decide +kernel
theorem dX10_between_82 : decode cX10_between 82 = .ok (.invokestatic 145, 3) := by decide +kernel
theorem dX10_between_85 : decode cX10_between 85 = .ok (.istore 10, 2) := by decide +kernel
theorem dX10_between_87 : decode cX10_between 87 = .ok (.iload 10, 2) := by decide +kernel
theorem dX10_between_89 : decode cX10_between 89 = .ok (.iload 4, 2) := by decide +kernel
theorem dX10_between_91 : decode cX10_between 91 = .ok (.iconst 1, 1) := by decide +kernel
theorem dX10_between_92 : decode cX10_between 92 = .ok (.isub, 1) := by decide +kernel
theorem dX10_between_93 : decode cX10_between 93 = .ok (.if_icmp .eq 12, 3) := by decide +kernel
theorem dX10_between_96 : decode cX10_between 96 = .ok (.iload 10, 2) := by decide +kernel
theorem dX10_between_98 : decode cX10_between 98 = .ok (.iload 4, 2) := by decide +kernel
theorem dX10_between_100 : decode cX10_between 100 = .ok (.iconst 2, 1) := by decide +kernel
theorem dX10_between_101 : decode cX10_between 101 = .ok (.isub, 1) := by decide +kernel
theorem dX10_between_102 : decode cX10_between 102 = .ok (.if_icmp .ne 71, 3) := by decide +kernel
theorem dX10_between_105 : decode cX10_between 105 = .ok (.aload_n 0, 1) := by decide +kernel
theorem dX10_between_106 : decode cX10_between 106 = .ok (.iload 9, 2) := by decide +kernel
theorem dX10_between_108 : decode cX10_between 108 = .ok (.iload_n 1, 1) := by decide +kernel
theorem dX10_between_109 : decode cX10_between 109 = .ok (.invokevirtual 148, 3) := by decide +kernel
theorem dX10_between_112 : decode cX10_between 112 = .ok (.ifCond .eq 61, 3) := by decide +kernel
theorem dX10_between_115 : decode cX10_between 115 = .ok (.aload_n 0, 1) := by decide +kernel
theorem dX10_between_116 : decode cX10_between 116 = .ok (.iload 9, 2) := by decide +kernel
theorem dX10_between_118 : decode cX10_between 118 = .ok (.invokevirtual 132, 3) := by decide +kernel
theorem dX10_between_121 : decode cX10_between 121 = .ok (.ifCond .eq 52, 3) := by decide +kernel
theorem dX10_between_124 : decode cX10_between 124 = .ok (.iload 10, 2) := by decide +kernel
theorem dX10_between_126 : decode cX10_between 126 = .ok (.iload 4, 2) := by decide +kernel
theorem dX10_between_128 : decode cX10_between 128 = .ok (.iconst 1, 1) := by decide +kernel
theorem dX10_between_129 : decode cX10_between 129 = .ok (.isub, 1) := by decide +kernel
theorem dX10_between_130 : decode cX10_between 130 = .ok (.if_icmp .ne 17, 3) := by decide +kernel
theorem dX10_between_133 : decode cX10_between 133 = .ok (.lload 5, 2) := by decide +kernel
theorem dX10_between_135 : decode cX10_between 135 = .ok (.aload_n 0, 1) := by decide +kernel
theorem dX10_between_136 : decode cX10_between 136 = .ok (.iload 9, 2) := by decide +kernel
theorem dX10_between_138 : decode cX10_between 138 = .ok (.invokevirtual 151, 3) := by decide +kernel
theorem dX10_between_141 : decode cX10_between 141 = .ok (.ladd, 1) := by decide +kernel
theorem dX10_between_142 : decode cX10_between 142 = .ok (.lstore 5, 2) := by decide +kernel
theorem dX10_between_144 : decode cX10_between 144 = .ok (.goto 29, 3) := by decide +kernel
theorem dX10_between_147 : decode cX10_between 147 = .ok (.aload_n 0, 1) := by decide +kernel
theorem dX10_between_148 : decode cX10_between 148 = .ok (.getfield 34, 3) := by decide +kernel
theorem dX10_between_151 : decode cX10_between 151 = .ok (.iload_n 1, 1) := by decide +kernel
theorem dX10_between_152 : decode cX10_between 152 = .ok (.iaload, 1) := by decide +kernel
theorem dX10_between_153 : decode cX10_between 153 = .ok (.aload_n 0, 1) := by decide +kernel
theorem dX10_between_154 : decode cX10_between 154 = .ok (.getfield 34, 3) := by decide +kernel
theorem dX10_between_157 : decode cX10_between 157 = .ok (.iload_n 2, 1) := by decide +kernel
theorem dX10_between_158 : decode cX10_between 158 = .ok (.iaload, 1) := by decide +kernel
theorem dX10_between_159 : decode cX10_between 159 = .ok (.if_icmp .eq 14, 3) := by decide +kernel
theorem dX10_between_162 : decode cX10_between 162 = .ok (.lload 7, 2) := by decide +kernel
theorem dX10_between_164 : decode cX10_between 164 = .ok (.aload_n 0, 1) := by decide +kernel
theorem dX10_between_165 : decode cX10_between 165 = .ok (.iload 9, 2) := by decide +kernel
theorem dX10_between_167 : decode cX10_between 167 = .ok (.invokevirtual 151, 3) := by decide +kernel
theorem dX10_between_170 : decode cX10_between 170 = .ok (.ladd, 1) := by decide +kernel
theorem dX10_between_171 : decode cX10_between 171 = .ok (.lstore 7, 2) := by decide +kernel
theorem dX10_between_173 : decode cX10_between 173 = .ok (.iinc 9 1, 3) := by decide +kernel
theorem dX10_between_176 : decode cX10_between 176 = .ok (.goto (-107), 3) := by decide +kernel
theorem dX10_between_179 : decode cX10_between 179 = .ok (.aload_n 0, 1) := by decide +kernel
theorem dX10_between_180 : decode cX10_between 180 = .ok (.ldc2_w 155, 3) := by decide +kernel
theorem dX10_between_183 : decode cX10_between 183 = .ok (.lload 7, 2) := by decide +kernel
theorem dX10_between_185 : decode cX10_between 185 = .ok (.lmul, 1) := by decide +kernel
theorem dX10_between_186 : decode cX10_between 186 = .ok (.lload 5, 2) := by decide +kernel
theorem dX10_between_188 : decode cX10_between 188 = .ok (.invokevirtual 74, 3) := by decide +kernel
theorem dX10_between_191 : decode cX10_between 191 = .ok (.iload_n 3, 1) := by decide +kernel
theorem dX10_between_192 : decode cX10_between 192 = .ok (.ifCond .ne 10, 3) := by decide +kernel
theorem dX10_between_195 : decode cX10_between 195 = .ok (.aload_n 0, 1) := by decide +kernel
theorem dX10_between_196 : decode cX10_between 196 = .ok (.getfield 67, 3) := by decide +kernel
theorem dX10_between_199 : decode cX10_between 199 = .ok (.goto 7, 3) := by decide +kernel
theorem dX10_between_202 : decode cX10_between 202 = .ok (.aload_n 0, 1) := by decide +kernel
theorem dX10_between_203 : decode cX10_between 203 = .ok (.getfield 71, 3) := by decide +kernel
theorem dX10_between_206 : decode cX10_between 206 = .ok (.lreturn, 1) := by decide +kernel
set_option maxRecDepth 20000 in
theorem ggX10_goes_X10_joins : GoodIn wsX10_goes wsX10_joins := goodIn_r _ [7, 1, 8, 2, 9, 10, 11, 12, 13, 14, 15, 16, 17, 18, 19, 20, 21, 22, 23, 24, 25, 26, 27, 28, 29, 30, 31, 32, 33] (by decide +kernel) (by decide +kernel)
set_option maxRecDepth 20000 in
theorem gX10_goes_X10_joins : GoodIn wsX10_goes (wsV RX10 132 RX10 yX10_joins wsX10_joins) := goodIn_app (goodIn_of _ (by decide +kernel)) ggX10_goes_X10_joins
theorem dX10_goes_0 : decode cX10_goes 0 = .ok (.iload_n 1, 1) := by decide +kernel
theorem dX10_goes_1 : decode cX10_goes 1 = .ok (.iload_n 2, 1) := by decide +kernel
theorem dX10_goes_2 : decode cX10_goes 2 = .ok (.ishr, 1) := by decide +kernel
theorem dX10_goes_3 : decode cX10_goes 3 = .ok (.iconst 1, 1) := by decide +kernel
theorem dX10_goes_4 : decode cX10_goes 4 = .ok (.iand, 1) := by decide +kernel
theorem dX10_goes_5 : decode cX10_goes 5 = .ok (.ifCond .ne 5, 3) := by decide +kernel
theorem dX10_goes_8 : decode cX10_goes 8 = .ok (.iconst 0, 1) := by decide +kernel
theorem dX10_goes_9 : decode cX10_goes 9 = .ok (.ireturn, 1) := by decide +kernel
theorem dX10_goes_10 : decode cX10_goes 10 = .ok (.aload_n 0, 1) := by decide +kernel
theorem dX10_goes_11 : decode cX10_goes 11 = .ok (.iload_n 1, 1) := by decide +kernel
theorem dX10_goes_12 : decode cX10_goes 12 = .ok (.iconst 1, 1) := by decide +kernel
theorem dX10_goes_13 : decode cX10_goes 13 = .ok (.iload_n 2, 1) := by decide +kernel
theorem dX10_goes_14 : decode cX10_goes 14 = .ok (.ishl, 1) := by decide +kernel
theorem dX10_goes_15 : decode cX10_goes 15 = .ok (.isub, 1) := by decide +kernel
theorem dX10_goes_16 : decode cX10_goes 16 = .ok (.invokevirtual 132, 3) := by decide +kernel
theorem dX10_goes_19 : decode cX10_goes 19 = .ok (.pop, 1) := by decide +kernel
theorem dX10_goes_20 : decode cX10_goes 20 = .ok (.aload_n 0, 1) := by decide +kernel
theorem dX10_goes_21 : decode cX10_goes 21 = .ok (.getfield 34, 3) := by decide +kernel
theorem dX10_goes_24 : decode cX10_goes 24 = .ok (.iload_n 3, 1) := by decide +kernel
theorem dX10_goes_25 : decode cX10_goes 25 = .ok (.iaload, 1) := by decide +kernel
theorem dX10_goes_26 : decode cX10_goes 26 = .ok (.aload_n 0, 1) := by decide +kernel
theorem dX10_goes_27 : decode cX10_goes 27 = .ok (.getfield 34, 3) := by decide +kernel
theorem dX10_goes_30 : decode cX10_goes 30 = .ok (.iload 4, 2) := by decide +kernel
theorem dX10_goes_32 : decode cX10_goes 32 = .ok (.iaload, 1) := by decide +kernel
theorem dX10_goes_33 : decode cX10_goes 33 = .ok (.if_icmp .ne 7, 3) := by decide +kernel
theorem dX10_goes_36 : decode cX10_goes 36 = .ok (.iconst 0, 1) := by decide +kernel
theorem dX10_goes_37 : decode cX10_goes 37 = .ok (.goto 28, 3) := by decide +kernel
theorem dX10_goes_40 : decode cX10_goes 40 = .ok (.aload_n 0, 1) := by decide +kernel
theorem dX10_goes_41 : decode cX10_goes 41 = .ok (.getfield 34, 3) := by decide +kernel
theorem dX10_goes_44 : decode cX10_goes 44 = .ok (.iload_n 3, 1) := by decide +kernel
theorem dX10_goes_45 : decode cX10_goes 45 = .ok (.iaload, 1) := by decide +kernel
theorem dX10_goes_46 : decode cX10_goes 46 = .ok (.aload_n 0, 1) := by decide +kernel
theorem dX10_goes_47 : decode cX10_goes 47 = .ok (.getfield 34, 3) := by decide +kernel
theorem dX10_goes_50 : decode cX10_goes 50 = .ok (.aload_n 0, 1) := by decide +kernel
theorem dX10_goes_51 : decode cX10_goes 51 = .ok (.getfield 22, 3) := by decide +kernel
theorem dX10_goes_54 : decode cX10_goes 54 = .ok (.iload_n 2, 1) := by decide +kernel
theorem dX10_goes_55 : decode cX10_goes 55 = .ok (.iaload, 1) := by decide +kernel
theorem dX10_goes_56 : decode cX10_goes 56 = .ok (.iaload, 1) := by decide +kernel
theorem dX10_goes_57 : decode cX10_goes 57 = .ok (.if_icmp .ne 7, 3) := by decide +kernel
theorem dX10_goes_60 : decode cX10_goes 60 = .ok (.iconst 1, 1) := by decide +kernel
theorem dX10_goes_61 : decode cX10_goes 61 = .ok (.goto 4, 3) := by decide +kernel
theorem dX10_goes_64 : decode cX10_goes 64 = .ok (.iconst (-1), 1) := by decide +kernel
theorem dX10_goes_65 : decode cX10_goes 65 = .ok (.ireturn, 1) := by decide +kernel
set_option maxRecDepth 20000 in
theorem ggX10_through_X10_isWire : GoodIn wsX10_through wsX10_isWire := goodIn_r _ [10, 3, 11, 12, 9, 13, 57, 58, 59, 60, 61, 62, 63, 64, 65, 66, 67, 68, 69, 70, 71, 72, 73, 74, 75, 76, 77, 78, 79, 80] (by decide +kernel) (by decide +kernel)
set_option maxRecDepth 20000 in
theorem gX10_through_X10_isWire : GoodIn wsX10_through (wsV RX10 122 RX10 yX10_isWire wsX10_isWire) := goodIn_app (goodIn_of _ (by decide +kernel)) ggX10_through_X10_isWire
set_option maxRecDepth 20000 in
theorem ggX10_through_X10_isKnot : GoodIn wsX10_through wsX10_isKnot := goodIn_r _ [16, 11, 12, 9, 13] (by decide +kernel) (by decide +kernel)
set_option maxRecDepth 20000 in
theorem gX10_through_X10_isKnot : GoodIn wsX10_through (va_wsS RX10 116 yX10_isKnot wsX10_isKnot) := goodIn_app (goodIn_of _ (by decide +kernel)) ggX10_through_X10_isKnot
set_option maxRecDepth 20000 in
theorem ggX10_through_X10_in : GoodIn wsX10_through wsX10_in := goodIn_r _ [13] (by decide +kernel) (by decide +kernel)
set_option maxRecDepth 20000 in
theorem gX10_through_X10_in : GoodIn wsX10_through (va_wsS RX10 89 yX10_in wsX10_in) := goodIn_app (goodIn_of _ (by decide +kernel)) ggX10_through_X10_in
set_option maxRecDepth 20000 in
theorem ggX10_through_X10_hang : GoodIn wsX10_through wsX10_hang := goodIn_r _ [20, 3, 21, 22, 23, 24, 25, 9, 26, 27, 28, 57, 58, 59, 60, 61, 62, 63, 64, 65, 66, 67, 68, 69, 70, 71, 72, 73, 74, 75, 76, 77, 78, 79, 80] (by decide +kernel) (by decide +kernel)
set_option maxRecDepth 20000 in
theorem gX10_through_X10_hang : GoodIn wsX10_through (wsV RX10 137 RX10 yX10_hang wsX10_hang) := goodIn_app (goodIn_of _ (by decide +kernel)) ggX10_through_X10_hang
set_option maxRecDepth 20000 in
theorem ggX10_through_X10_sizeOf : GoodIn wsX10_through wsX10_sizeOf := goodIn_r _ [32, 21, 57, 58, 59, 60, 61, 62, 63, 64, 65, 66, 67, 68, 69, 70, 71, 72, 73, 74, 75, 76, 77, 78, 79, 80] (by decide +kernel) (by decide +kernel)
set_option maxRecDepth 20000 in
theorem gX10_through_X10_sizeOf : GoodIn wsX10_through (wsV RX10 142 RX10 yX10_sizeOf wsX10_sizeOf) := goodIn_app (goodIn_of _ (by decide +kernel)) ggX10_through_X10_sizeOf
set_option maxRecDepth 20000 in
theorem ggX10_through_X10_bits : GoodIn wsX10_through wsX10_bits := goodIn_r _ [35] (by decide +kernel) (by decide +kernel)
set_option maxRecDepth 20000 in
theorem gX10_through_X10_bits : GoodIn wsX10_through (va_wsS RX10 145 yX10_bits wsX10_bits) := goodIn_app (goodIn_of _ (by decide +kernel)) ggX10_through_X10_bits
set_option maxRecDepth 20000 in
theorem ggX10_through_X10_isOf : GoodIn wsX10_through wsX10_isOf := goodIn_r _ [39, 3, 21, 27, 57, 58, 59, 60, 61, 62, 63, 64, 65, 66, 67, 68, 69, 70, 71, 72, 73, 74, 75, 76, 77, 78, 79, 80] (by decide +kernel) (by decide +kernel)
set_option maxRecDepth 20000 in
theorem gX10_through_X10_isOf : GoodIn wsX10_through (wsV RX10 148 RX10 yX10_isOf wsX10_isOf) := goodIn_app (goodIn_of _ (by decide +kernel)) ggX10_through_X10_isOf
set_option maxRecDepth 20000 in
theorem ggX10_through_X10_joins : GoodIn wsX10_through wsX10_joins := goodIn_r _ [26, 22, 3, 27, 28, 57, 58, 59, 60, 61, 62, 63, 64, 65, 66, 67, 68, 69, 70, 71, 72, 73, 74, 75, 76, 77, 78, 79, 80] (by decide +kernel) (by decide +kernel)
set_option maxRecDepth 20000 in
theorem gX10_through_X10_joins : GoodIn wsX10_through (wsV RX10 132 RX10 yX10_joins wsX10_joins) := goodIn_app (goodIn_of _ (by decide +kernel)) ggX10_through_X10_joins
set_option maxRecDepth 20000 in
theorem ggX10_through_X10_weight : GoodIn wsX10_through wsX10_weight := goodIn_r _ [43, 3, 44, 45, 57, 58, 59, 60, 61, 62, 63, 64, 65, 66, 67, 68, 69, 70, 71, 72, 73, 74, 75, 76, 77, 78, 79, 80] (by decide +kernel) (by decide +kernel)
set_option maxRecDepth 20000 in
theorem gX10_through_X10_weight : GoodIn wsX10_through (wsV RX10 151 RX10 yX10_weight wsX10_weight) := goodIn_app (goodIn_of _ (by decide +kernel)) ggX10_through_X10_weight
set_option maxRecDepth 20000 in
theorem ggX10_through_X10_goes : GoodIn wsX10_through wsX10_goes := goodIn_r _ [49, 22, 27, 23, 24, 25, 9, 26, 3, 28, 57, 58, 59, 60, 61, 62, 63, 64, 65, 66, 67, 68, 69, 70, 71, 72, 73, 74, 75, 76, 77, 78, 79, 80] (by decide +kernel) (by decide +kernel)
set_option maxRecDepth 20000 in
theorem gX10_through_X10_goes : GoodIn wsX10_through (wsV RX10 159 RX10 yX10_goes wsX10_goes) := goodIn_app (goodIn_of _ (by decide +kernel)) ggX10_through_X10_goes
set_option maxRecDepth 20000 in
theorem ggX10_through_X10_least : GoodIn wsX10_through wsX10_least := goodIn_r _ [53, 4, 5, 54, 55, 9, 56, 57, 58, 59, 60, 61, 62, 63, 64, 65, 66, 67, 68, 69, 70, 71, 72, 73, 74, 75, 76, 77, 78, 79, 80] (by decide +kernel) (by decide +kernel)
set_option maxRecDepth 20000 in
theorem gX10_through_X10_least : GoodIn wsX10_through (wsV RX10 74 RX10 yX10_least wsX10_least) := goodIn_app (goodIn_of _ (by decide +kernel)) ggX10_through_X10_least
theorem dX10_through_0 : decode cX10_through 0 = .ok (.aload_n 0, 1) := by decide +kernel
theorem dX10_through_1 : decode cX10_through 1 = .ok (.iconst 0, 1) := by decide +kernel
theorem dX10_through_2 : decode cX10_through 2 = .ok (.putfield 59, 3) := by decide +kernel
theorem dX10_through_5 : decode cX10_through 5 = .ok (.aload_n 0, 1) := by decide +kernel
theorem dX10_through_6 : decode cX10_through 6 = .ok (.iload_n 1, 1) := by decide +kernel
theorem dX10_through_7 : decode cX10_through 7 = .ok (.invokevirtual 122, 3) := by decide +kernel
theorem dX10_through_10 : decode cX10_through 10 = .ok (.ifCond .eq 41, 3) := by decide +kernel
theorem dX10_through_13 : decode cX10_through 13 = .ok (.iload_n 2, 1) := by decide +kernel
theorem dX10_through_14 : decode cX10_through 14 = .ok (.invokestatic 116, 3) := by decide +kernel
theorem dX10_through_17 : decode cX10_through 17 = .ok (.ifCond .eq 34, 3) := by decide +kernel
theorem dX10_through_20 : decode cX10_through 20 = .ok (.iload_n 3, 1) := by decide +kernel
theorem dX10_through_21 : decode cX10_through 21 = .ok (.invokestatic 116, 3) := by decide +kernel
theorem dX10_through_24 : decode cX10_through 24 = .ok (.ifCond .eq 27, 3) := by decide +kernel
theorem dX10_through_27 : decode cX10_through 27 = .ok (.iload_n 2, 1) := by decide +kernel
theorem dX10_through_28 : decode cX10_through 28 = .ok (.iload_n 3, 1) := by decide +kernel
theorem dX10_through_29 : decode cX10_through 29 = .ok (.if_icmp .eq 22, 3) := by decide +kernel
theorem dX10_through_32 : decode cX10_through 32 = .ok (.iload 4, 2) := by decide +kernel
theorem dX10_through_34 : decode cX10_through 34 = .ok (.iconst 0, 1) := by decide +kernel
theorem dX10_through_35 : decode cX10_through 35 = .ok (.iconst 1, 1) := by decide +kernel
