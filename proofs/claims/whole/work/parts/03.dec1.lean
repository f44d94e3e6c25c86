theorem dX0_init_0 : decode cX0_init 0 = .ok (.aload_n 0, 1) := by decide +kernel
theorem dX0_init_1 : decode cX0_init 1 = .ok (.invokespecial 1, 3) := by decide +kernel
theorem dX0_init_4 : decode cX0_init 4 = .ok (.aload_n 0, 1) := by decide +kernel
theorem dX0_init_5 : decode cX0_init 5 = .ok (.lconst 0, 1) := by decide +kernel
theorem dX0_init_6 : decode cX0_init 6 = .ok (.putfield 7, 3) := by decide +kernel
theorem dX0_init_9 : decode cX0_init 9 = .ok (.aload_n 0, 1) := by decide +kernel
theorem dX0_init_10 : decode cX0_init 10 = .ok (.lconst 1, 1) := by decide +kernel
theorem dX0_init_11 : decode cX0_init 11 = .ok (.putfield 13, 3) := by decide +kernel
theorem dX0_init_14 : decode cX0_init 14 = .ok (.return_, 1) := by decide +kernel
theorem dX0_set_0 : decode cX0_set 0 = .ok (.aload_n 0, 1) := by decide +kernel
theorem dX0_set_1 : decode cX0_set 1 = .ok (.lload_n 1, 1) := by decide +kernel
theorem dX0_set_2 : decode cX0_set 2 = .ok (.putfield 7, 3) := by decide +kernel
theorem dX0_set_5 : decode cX0_set 5 = .ok (.aload_n 0, 1) := by decide +kernel
theorem dX0_set_6 : decode cX0_set 6 = .ok (.lload_n 3, 1) := by decide +kernel
theorem dX0_set_7 : decode cX0_set 7 = .ok (.putfield 13, 3) := by decide +kernel
theorem dX0_set_10 : decode cX0_set 10 = .ok (.return_, 1) := by decide +kernel
set_option maxRecDepth 20000 in
theorem ggX0_reduce_X0_commonDivisor : GoodIn wsX0_reduce wsX0_commonDivisor := goodIn_r _ [10] (by decide +kernel) (by decide +kernel)
set_option maxRecDepth 20000 in
theorem gX0_reduce_X0_commonDivisor : GoodIn wsX0_reduce (va_wsS RX0 22 yX0_commonDivisor wsX0_commonDivisor) := goodIn_app (goodIn_of _ (by decide +kernel)) ggX0_reduce_X0_commonDivisor
theorem dX0_reduce_0 : decode cX0_reduce 0 = .ok (.aload_n 0, 1) := by decide +kernel
theorem dX0_reduce_1 : decode cX0_reduce 1 = .ok (.getfield 7, 3) := by decide +kernel
theorem dX0_reduce_4 : decode cX0_reduce 4 = .ok (.invokestatic 16, 3) := by decide +kernel
theorem dX0_reduce_7 : decode cX0_reduce 7 = .ok (.aload_n 0, 1) := by decide +kernel
theorem dX0_reduce_8 : decode cX0_reduce 8 = .ok (.getfield 13, 3) := by decide +kernel
theorem dX0_reduce_11 : decode cX0_reduce 11 = .ok (.invokestatic 22, 3) := by decide +kernel
theorem dX0_reduce_14 : decode cX0_reduce 14 = .ok (.lstore_n 1, 1) := by decide +kernel
theorem dX0_reduce_15 : decode cX0_reduce 15 = .ok (.lload_n 1, 1) := by decide +kernel
theorem dX0_reduce_16 : decode cX0_reduce 16 = .ok (.lconst 1, 1) := by decide +kernel
theorem dX0_reduce_17 : decode cX0_reduce 17 = .ok (.lcmp, 1) := by decide +kernel
theorem dX0_reduce_18 : decode cX0_reduce 18 = .ok (.ifCond .le 23, 3) := by decide +kernel
theorem dX0_reduce_21 : decode cX0_reduce 21 = .ok (.aload_n 0, 1) := by decide +kernel
theorem dX0_reduce_22 : decode cX0_reduce 22 = .ok (.dup, 1) := by decide +kernel
theorem dX0_reduce_23 : decode cX0_reduce 23 = .ok (.getfield 7, 3) := by decide +kernel
theorem dX0_reduce_26 : decode cX0_reduce 26 = .ok (.lload_n 1, 1) := by decide +kernel
theorem dX0_reduce_27 : decode cX0_reduce 27 = .ok (.ldiv, 1) := by decide +kernel
theorem dX0_reduce_28 : decode cX0_reduce 28 = .ok (.putfield 7, 3) := by decide +kernel
theorem dX0_reduce_31 : decode cX0_reduce 31 = .ok (.aload_n 0, 1) := by decide +kernel
theorem dX0_reduce_32 : decode cX0_reduce 32 = .ok (.dup, 1) := by decide +kernel
theorem dX0_reduce_33 : decode cX0_reduce 33 = .ok (.getfield 13, 3) := by decide +kernel
theorem dX0_reduce_36 : decode cX0_reduce 36 = .ok (.lload_n 1, 1) := by decide +kernel
theorem dX0_reduce_37 : decode cX0_reduce 37 = .ok (.ldiv, 1) := by decide +kernel
theorem dX0_reduce_38 : decode cX0_reduce 38 = .ok (.putfield 13, 3) := by decide +kernel
theorem dX0_reduce_41 : decode cX0_reduce 41 = .ok (.return_, 1) := by decide +kernel
theorem dX0_part_0 : decode cX0_part 0 = .ok (.iload_n 1, 1) := by decide +kernel
theorem dX0_part_1 : decode cX0_part 1 = .ok (.ifCond .ne 10, 3) := by decide +kernel
theorem dX0_part_4 : decode cX0_part 4 = .ok (.aload_n 0, 1) := by decide +kernel
theorem dX0_part_5 : decode cX0_part 5 = .ok (.getfield 7, 3) := by decide +kernel
theorem dX0_part_8 : decode cX0_part 8 = .ok (.goto 7, 3) := by decide +kernel
theorem dX0_part_11 : decode cX0_part 11 = .ok (.aload_n 0, 1) := by decide +kernel
theorem dX0_part_12 : decode cX0_part 12 = .ok (.getfield 13, 3) := by decide +kernel
theorem dX0_part_15 : decode cX0_part 15 = .ok (.lreturn, 1) := by decide +kernel
theorem dX0_commonDivisor_0 : decode cX0_commonDivisor 0 = .ok (.lload_n 0, 1) := by decide +kernel
theorem dX0_commonDivisor_1 : decode cX0_commonDivisor 1 = .ok (.lstore 4, 2) := by decide +kernel
theorem dX0_commonDivisor_3 : decode cX0_commonDivisor 3 = .ok (.lload_n 2, 1) := by decide +kernel
theorem dX0_commonDivisor_4 : decode cX0_commonDivisor 4 = .ok (.lstore 6, 2) := by decide +kernel
theorem dX0_commonDivisor_6 : decode cX0_commonDivisor 6 = .ok (.iconst 0, 1) := by decide +kernel
theorem dX0_commonDivisor_7 : decode cX0_commonDivisor 7 = .ok (.istore 8, 2) := by decide +kernel
theorem dX0_commonDivisor_9 : decode cX0_commonDivisor 9 = .ok (.iload 8, 2) := by decide +kernel
theorem dX0_commonDivisor_11 : decode cX0_commonDivisor 11 = .ok (.bipush 100, 2) := by decide +kernel
theorem dX0_commonDivisor_13 : decode cX0_commonDivisor 13 = .ok (.if_icmp .ge 31, 3) := by decide +kernel
theorem dX0_commonDivisor_16 : decode cX0_commonDivisor 16 = .ok (.lload 6, 2) := by decide +kernel
theorem dX0_commonDivisor_18 : decode cX0_commonDivisor 18 = .ok (.lconst 0, 1) := by decide +kernel
theorem dX0_commonDivisor_19 : decode cX0_commonDivisor 19 = .ok (.lcmp, 1) := by decide +kernel
theorem dX0_commonDivisor_20 : decode cX0_commonDivisor 20 = .ok (.ifCond .eq 24, 3) := by decide +kernel
theorem dX0_commonDivisor_23 : decode cX0_commonDivisor 23 = .ok (.lload 4, 2) := by decide +kernel
theorem dX0_commonDivisor_25 : decode cX0_commonDivisor 25 = .ok (.lload 6, 2) := by decide +kernel
theorem dX0_commonDivisor_27 : decode cX0_commonDivisor 27 = .ok (.lrem, 1) := by decide +kernel
theorem dX0_commonDivisor_28 : decode cX0_commonDivisor 28 = .ok (.lstore 9, 2) := by decide +kernel
theorem dX0_commonDivisor_30 : decode cX0_commonDivisor 30 = .ok (.lload 6, 2) := by decide +kernel
theorem dX0_commonDivisor_32 : decode cX0_commonDivisor 32 = .ok (.lstore 4, 2) := by decide +kernel
theorem dX0_commonDivisor_34 : decode cX0_commonDivisor 34 = .ok (.lload 9, 2) := by decide +kernel
theorem dX0_commonDivisor_36 : decode cX0_commonDivisor 36 = .ok (.lstore 6, 2) := by decide +kernel
theorem dX0_commonDivisor_38 : decode cX0_commonDivisor 38 = .ok (.iinc 8 1, 3) := by decide +kernel
theorem dX0_commonDivisor_41 : decode cX0_commonDivisor 41 = .ok (.goto (-32), 3) := by decide +kernel
theorem dX0_commonDivisor_44 : decode cX0_commonDivisor 44 = .ok (.lload 4, 2) := by decide +kernel
theorem dX0_commonDivisor_46 : decode cX0_commonDivisor 46 = .ok (.lreturn, 1) := by decide +kernel
set_option maxRecDepth 20000 in
theorem ggX1_init_X0_init : GoodIn wsX1_init wsX0_init := goodIn_r _ [14, 15, 2, 3, 16, 17, 43, 44] (by decide +kernel) (by decide +kernel)
set_option maxRecDepth 20000 in
theorem gX1_init_X0_init_n19 : GoodIn wsX1_init (wsX0_init) := ggX1_init_X0_init
set_option maxRecDepth 20000 in
theorem ggX1_init_X6_init : GoodIn wsX1_init wsX6_init := goodIn_r _ [19, 20, 2, 3, 21, 22, 23, 24, 25, 26, 27, 28, 29, 30, 31, 32, 33, 34, 35, 36, 37, 38, 39, 46, 47, 48, 45] (by decide +kernel) (by decide +kernel)
set_option maxRecDepth 20000 in
theorem gX1_init_X6_init_n28 : GoodIn wsX1_init (wsX6_init) := ggX1_init_X6_init
theorem dX1_init_0 : decode cX1_init 0 = .ok (.aload_n 0, 1) := by decide +kernel
theorem dX1_init_1 : decode cX1_init 1 = .ok (.invokespecial 3, 3) := by decide +kernel
theorem dX1_init_4 : decode cX1_init 4 = .ok (.aload_n 0, 1) := by decide +kernel
theorem dX1_init_5 : decode cX1_init 5 = .ok (.bipush 9, 2) := by decide +kernel
theorem dX1_init_7 : decode cX1_init 7 = .ok (.anewarray 9, 3) := by decide +kernel
theorem dX1_init_10 : decode cX1_init 10 = .ok (.putfield 11, 3) := by decide +kernel
theorem dX1_init_13 : decode cX1_init 13 = .ok (.aload_n 0, 1) := by decide +kernel
theorem dX1_init_14 : decode cX1_init 14 = .ok (.new 17, 3) := by decide +kernel
theorem dX1_init_17 : decode cX1_init 17 = .ok (.dup, 1) := by decide +kernel
theorem dX1_init_18 : decode cX1_init 18 = .ok (.invokespecial 19, 3) := by decide +kernel
theorem dX1_init_21 : decode cX1_init 21 = .ok (.putfield 20, 3) := by decide +kernel
theorem dX1_init_24 : decode cX1_init 24 = .ok (.aload_n 0, 1) := by decide +kernel
theorem dX1_init_25 : decode cX1_init 25 = .ok (.iconst 0, 1) := by decide +kernel
theorem dX1_init_26 : decode cX1_init 26 = .ok (.putfield 24, 3) := by decide +kernel
theorem dX1_init_29 : decode cX1_init 29 = .ok (.iconst 0, 1) := by decide +kernel
theorem dX1_init_30 : decode cX1_init 30 = .ok (.istore_n 1, 1) := by decide +kernel
theorem dX1_init_31 : decode cX1_init 31 = .ok (.iload_n 1, 1) := by decide +kernel
theorem dX1_init_32 : decode cX1_init 32 = .ok (.bipush 9, 2) := by decide +kernel
theorem dX1_init_34 : decode cX1_init 34 = .ok (.if_icmp .ge 22, 3) := by decide +kernel
theorem dX1_init_37 : decode cX1_init 37 = .ok (.aload_n 0, 1) := by decide +kernel
theorem dX1_init_38 : decode cX1_init 38 = .ok (.getfield 11, 3) := by decide +kernel
theorem dX1_init_41 : decode cX1_init 41 = .ok (.iload_n 1, 1) := by decide +kernel
theorem dX1_init_42 : decode cX1_init 42 = .ok (.new 9, 3) := by decide +kernel
theorem dX1_init_45 : decode cX1_init 45 = .ok (.dup, 1) := by decide +kernel
theorem dX1_init_46 : decode cX1_init 46 = .ok (.invokespecial 28, 3) := by decide +kernel
theorem dX1_init_49 : decode cX1_init 49 = .ok (.aastore, 1) := by decide +kernel
theorem dX1_init_50 : decode cX1_init 50 = .ok (.iinc 1 1, 3) := by decide +kernel
theorem dX1_init_53 : decode cX1_init 53 = .ok (.goto (-22), 3) := by decide +kernel
theorem dX1_init_56 : decode cX1_init 56 = .ok (.return_, 1) := by decide +kernel
set_option maxRecDepth 20000 in
theorem ggX1_sharesOf_X1_fill : GoodIn wsX1_sharesOf wsX1_fill := goodIn_r _ [7, 8, 2, 9, 10, 11, 12, 13, 14, 15, 16, 17, 18, 19, 20, 21, 22, 23, 24, 25, 26, 27, 28, 29, 30, 31, 32, 33, 34, 35, 36, 37, 38, 39, 40, 41, 42, 43, 44, 45, 46, 47, 48, 49, 50, 51, 52, 53, 54, 55, 56, 57, 58, 59, 60, 61, 62, 63, 64, 65, 66, 67, 68, 69, 70, 71, 72, 73, 74, 75, 76, 77, 78, 79, 80, 81, 82, 83, 84, 85, 86, 87, 88, 89, 90, 91, 92, 93, 94, 95, 96, 97, 98, 99, 100, 101, 102, 103, 104, 105, 106, 107, 108, 109, 110, 111, 112, 113, 114, 115, 116, 117, 118, 119, 120, 121, 122, 123, 124, 125, 126, 127, 128, 129, 130, 131, 132, 133, 134, 135, 136, 137, 138, 139, 140, 141, 142, 6, 143, 144, 145, 146, 147, 148, 149, 150, 151, 152, 153, 154, 155, 156, 157, 158, 159, 160, 161, 162, 163, 164, 165, 166, 167, 168, 169, 170, 171, 172] (by decide +kernel) (by decide +kernel)
set_option maxRecDepth 20000 in
theorem gX1_sharesOf_X1_fill : GoodIn wsX1_sharesOf (wsV RX1 29 RX1 yX1_fill wsX1_fill) := goodIn_app (goodIn_of _ (by decide +kernel)) ggX1_sharesOf_X1_fill
theorem dX1_sharesOf_0 : decode cX1_sharesOf 0 = .ok (.aload_n 0, 1) := by decide +kernel
theorem dX1_sharesOf_1 : decode cX1_sharesOf 1 = .ok (.getfield 24, 3) := by decide +kernel
theorem dX1_sharesOf_4 : decode cX1_sharesOf 4 = .ok (.iconst 1, 1) := by decide +kernel
theorem dX1_sharesOf_5 : decode cX1_sharesOf 5 = .ok (.iadd, 1) := by decide +kernel
theorem dX1_sharesOf_6 : decode cX1_sharesOf 6 = .ok (.istore_n 2, 1) := by decide +kernel
theorem dX1_sharesOf_7 : decode cX1_sharesOf 7 = .ok (.iload_n 2, 1) := by decide +kernel
theorem dX1_sharesOf_8 : decode cX1_sharesOf 8 = .ok (.iload_n 1, 1) := by decide +kernel
theorem dX1_sharesOf_9 : decode cX1_sharesOf 9 = .ok (.if_icmp .gt 19, 3) := by decide +kernel
theorem dX1_sharesOf_12 : decode cX1_sharesOf 12 = .ok (.aload_n 0, 1) := by decide +kernel
theorem dX1_sharesOf_13 : decode cX1_sharesOf 13 = .ok (.iload_n 2, 1) := by decide +kernel
theorem dX1_sharesOf_14 : decode cX1_sharesOf 14 = .ok (.invokevirtual 29, 3) := by decide +kernel
theorem dX1_sharesOf_17 : decode cX1_sharesOf 17 = .ok (.aload_n 0, 1) := by decide +kernel
theorem dX1_sharesOf_18 : decode cX1_sharesOf 18 = .ok (.iload_n 2, 1) := by decide +kernel
theorem dX1_sharesOf_19 : decode cX1_sharesOf 19 = .ok (.putfield 24, 3) := by decide +kernel
theorem dX1_sharesOf_22 : decode cX1_sharesOf 22 = .ok (.iinc 2 1, 3) := by decide +kernel
theorem dX1_sharesOf_25 : decode cX1_sharesOf 25 = .ok (.goto (-18), 3) := by decide +kernel
theorem dX1_sharesOf_28 : decode cX1_sharesOf 28 = .ok (.aload_n 0, 1) := by decide +kernel
theorem dX1_sharesOf_29 : decode cX1_sharesOf 29 = .ok (.getfield 11, 3) := by decide +kernel
theorem dX1_sharesOf_32 : decode cX1_sharesOf 32 = .ok (.iload_n 1, 1) := by decide +kernel
theorem dX1_sharesOf_33 : decode cX1_sharesOf 33 = .ok (.iconst 1, 1) := by decide +kernel
theorem dX1_sharesOf_34 : decode cX1_sharesOf 34 = .ok (.isub, 1) := by decide +kernel
theorem dX1_sharesOf_35 : decode cX1_sharesOf 35 = .ok (.aaload, 1) := by decide +kernel
theorem dX1_sharesOf_36 : decode cX1_sharesOf 36 = .ok (.areturn, 1) := by decide +kernel
set_option maxRecDepth 20000 in
theorem ggX1_fill_X0_set : GoodIn wsX1_fill wsX0_set := goodIn_r _ [7, 8, 9, 156, 157] (by decide +kernel) (by decide +kernel)
set_option maxRecDepth 20000 in
theorem gX1_fill_X0_set : GoodIn wsX1_fill (wsV RX1 33 RX0 yX0_set wsX0_set) := goodIn_app (goodIn_of _ (by decide +kernel)) ggX1_fill_X0_set
set_option maxRecDepth 20000 in
theorem ggX1_fill_X6_offer : GoodIn wsX1_fill wsX6_offer := goodIn_r _ [14, 15, 16, 17, 18, 19, 20, 21, 22, 23, 13, 24, 25, 26, 27, 28, 29, 30, 31, 32, 33, 34, 35, 36, 37, 38, 39, 40, 41, 42, 43, 44, 45, 46, 47, 48, 49, 50, 51, 52, 53, 54, 55, 56, 57, 58, 59, 60, 6, 61, 8, 62, 63, 64, 65, 9, 66, 67, 68, 69, 70, 71, 72, 73, 74, 75, 76, 77, 78, 79, 80, 81, 82, 83, 84, 85, 86, 87, 88, 89, 90, 91, 92, 93, 94, 95, 96, 97, 98, 99, 100, 101, 102, 103, 104, 105, 106, 107, 108, 109, 110, 111, 112, 113, 114, 115, 116, 117, 118, 119, 120, 121, 122, 123, 124, 125, 126, 127, 128, 129, 130, 131, 132, 133, 156, 157, 158, 159, 160, 161, 162, 163, 164, 165, 166, 167] (by decide +kernel) (by decide +kernel)
set_option maxRecDepth 20000 in
theorem gX1_fill_X6_offer : GoodIn wsX1_fill (wsV RX1 37 RX6 yX6_offer wsX6_offer) := goodIn_app (goodIn_of _ (by decide +kernel)) ggX1_fill_X6_offer
set_option maxRecDepth 20000 in
theorem ggX1_fill_X1_offerPairs : GoodIn wsX1_fill wsX1_offerPairs := goodIn_r _ [138, 2, 1, 139, 140, 141, 13, 142, 17, 26, 27, 28, 29, 30, 31, 143, 144, 145, 146, 25, 32, 33, 34, 35, 36, 37, 38, 39, 40, 41, 42, 43, 44, 45, 46, 47, 48, 147, 148, 149, 137, 150, 151, 152, 3, 4, 5, 6, 7, 8, 9, 10, 11, 12, 14, 15, 16, 18, 19, 20, 21, 22, 23, 24, 49, 50, 51, 52, 53, 54, 55, 56, 57, 58, 59, 60, 61, 62, 63, 64, 65, 66, 67, 68, 69, 70, 71, 72, 73, 74, 75, 76, 77, 78, 79, 80, 81, 82, 83, 84, 85, 86, 87, 88, 89, 90, 91, 92, 93, 94, 95, 96, 97, 98, 99, 100, 101, 102, 103, 104, 105, 106, 107, 108, 109, 110, 111, 112, 113, 114, 115, 116, 117, 118, 119, 120, 121, 122, 123, 124, 125, 126, 127, 128, 129, 130, 131, 132, 133, 153, 154, 155, 158, 165, 166, 167, 159, 160, 161, 162, 163, 164, 156, 157] (by decide +kernel) (by decide +kernel)
set_option maxRecDepth 20000 in
theorem gX1_fill_X1_offerPairs : GoodIn wsX1_fill (wsV RX1 41 RX1 yX1_offerPairs wsX1_offerPairs) := goodIn_app (goodIn_of _ (by decide +kernel)) ggX1_fill_X1_offerPairs
theorem dX1_fill_0 : decode cX1_fill 0 = .ok (.iload_n 1, 1) := by decide +kernel
theorem dX1_fill_1 : decode cX1_fill 1 = .ok (.iconst 1, 1) := by decide +kernel
theorem dX1_fill_2 : decode cX1_fill 2 = .ok (.if_icmp .ne 33, 3) := by decide +kernel
theorem dX1_fill_5 : decode cX1_fill 5 = .ok (.aload_n 0, 1) := by decide +kernel
theorem dX1_fill_6 : decode cX1_fill 6 = .ok (.getfield 20, 3) := by decide +kernel
theorem dX1_fill_9 : decode cX1_fill 9 = .ok (.lconst 1, 1) := by decide +kernel
theorem dX1_fill_10 : decode cX1_fill 10 = .ok (.lconst 1, 1) := by decide +kernel
theorem dX1_fill_11 : decode cX1_fill 11 = .ok (.invokevirtual 33, 3) := by decide +kernel
theorem dX1_fill_14 : decode cX1_fill 14 = .ok (.aload_n 0, 1) := by decide +kernel
theorem dX1_fill_15 : decode cX1_fill 15 = .ok (.getfield 11, 3) := by decide +kernel
theorem dX1_fill_18 : decode cX1_fill 18 = .ok (.iconst 0, 1) := by decide +kernel
theorem dX1_fill_19 : decode cX1_fill 19 = .ok (.aaload, 1) := by decide +kernel
theorem dX1_fill_20 : decode cX1_fill 20 = .ok (.aload_n 0, 1) := by decide +kernel
theorem dX1_fill_21 : decode cX1_fill 21 = .ok (.getfield 20, 3) := by decide +kernel
theorem dX1_fill_24 : decode cX1_fill 24 = .ok (.iconst 0, 1) := by decide +kernel
theorem dX1_fill_25 : decode cX1_fill 25 = .ok (.bipush (-9), 2) := by decide +kernel
theorem dX1_fill_27 : decode cX1_fill 27 = .ok (.bipush (-9), 2) := by decide +kernel
theorem dX1_fill_29 : decode cX1_fill 29 = .ok (.bipush (-9), 2) := by decide +kernel
theorem dX1_fill_31 : decode cX1_fill 31 = .ok (.invokevirtual 37, 3) := by decide +kernel
theorem dX1_fill_34 : decode cX1_fill 34 = .ok (.return_, 1) := by decide +kernel
theorem dX1_fill_35 : decode cX1_fill 35 = .ok (.iconst 1, 1) := by decide +kernel
theorem dX1_fill_36 : decode cX1_fill 36 = .ok (.istore_n 2, 1) := by decide +kernel
theorem dX1_fill_37 : decode cX1_fill 37 = .ok (.iload_n 2, 1) := by decide +kernel
theorem dX1_fill_38 : decode cX1_fill 38 = .ok (.iconst 2, 1) := by decide +kernel
theorem dX1_fill_39 : decode cX1_fill 39 = .ok (.if_icmp .gt 31, 3) := by decide +kernel
theorem dX1_fill_42 : decode cX1_fill 42 = .ok (.iconst 1, 1) := by decide +kernel
theorem dX1_fill_43 : decode cX1_fill 43 = .ok (.istore_n 3, 1) := by decide +kernel
theorem dX1_fill_44 : decode cX1_fill 44 = .ok (.iload_n 3, 1) := by decide +kernel
theorem dX1_fill_45 : decode cX1_fill 45 = .ok (.iload_n 1, 1) := by decide +kernel
theorem dX1_fill_46 : decode cX1_fill 46 = .ok (.iload_n 3, 1) := by decide +kernel
theorem dX1_fill_47 : decode cX1_fill 47 = .ok (.isub, 1) := by decide +kernel
theorem dX1_fill_48 : decode cX1_fill 48 = .ok (.if_icmp .gt 16, 3) := by decide +kernel
theorem dX1_fill_51 : decode cX1_fill 51 = .ok (.aload_n 0, 1) := by decide +kernel
theorem dX1_fill_52 : decode cX1_fill 52 = .ok (.iload_n 1, 1) := by decide +kernel
theorem dX1_fill_53 : decode cX1_fill 53 = .ok (.iload_n 2, 1) := by decide +kernel
theorem dX1_fill_54 : decode cX1_fill 54 = .ok (.iload_n 3, 1) := by decide +kernel
theorem dX1_fill_55 : decode cX1_fill 55 = .ok (.invokevirtual 41, 3) := by decide +kernel
theorem dX1_fill_58 : decode cX1_fill 58 = .ok (.iinc 3 1, 3) := by decide +kernel
theorem dX1_fill_61 : decode cX1_fill 61 = .ok (.goto (-17), 3) := by decide +kernel
theorem dX1_fill_64 : decode cX1_fill 64 = .ok (.iinc 2 1, 3) := by decide +kernel
theorem dX1_fill_67 : decode cX1_fill 67 = .ok (.goto (-30), 3) := by decide +kernel
theorem dX1_fill_70 : decode cX1_fill 70 = .ok (.return_, 1) := by decide +kernel
set_option maxRecDepth 20000 in
theorem ggX1_offerPairs_X6_size : GoodIn wsX1_offerPairs wsX6_size := goodIn_r _ [7, 8, 9, 10, 11, 12, 13, 14, 152, 153, 154, 155] (by decide +kernel) (by decide +kernel)
set_option maxRecDepth 20000 in
theorem gX1_offerPairs_X6_size : GoodIn wsX1_offerPairs (wsV RX1 45 RX6 yX6_size wsX6_size) := goodIn_app (goodIn_of _ (by decide +kernel)) ggX1_offerPairs_X6_size
set_option maxRecDepth 20000 in
theorem ggX1_offerPairs_X6_at : GoodIn wsX1_offerPairs wsX6_at := goodIn_r _ [18, 8, 19, 9, 10, 11, 12, 13, 14, 20, 21, 22, 23, 24, 25, 26, 27, 28, 29, 30, 31, 32, 33, 34, 35, 36, 152, 153, 154, 155] (by decide +kernel) (by decide +kernel)
set_option maxRecDepth 20000 in
theorem gX1_offerPairs_X6_at : GoodIn wsX1_offerPairs (wsV RX1 49 RX6 yX6_at wsX6_at) := goodIn_app (goodIn_of _ (by decide +kernel)) ggX1_offerPairs_X6_at
set_option maxRecDepth 20000 in
theorem ggX1_offerPairs_X1_join : GoodIn wsX1_offerPairs wsX1_join := goodIn_r _ [41, 42, 43, 2, 44, 45, 46, 47, 48, 49, 50, 156, 157, 158, 159, 160, 161, 149, 150, 151, 162, 163] (by decide +kernel) (by decide +kernel)
set_option maxRecDepth 20000 in
theorem gX1_offerPairs_X1_join : GoodIn wsX1_offerPairs (wsV RX1 53 RX1 yX1_join wsX1_join) := goodIn_app (goodIn_of _ (by decide +kernel)) ggX1_offerPairs_X1_join
set_option maxRecDepth 20000 in
theorem ggX1_offerPairs_X6_offer : GoodIn wsX1_offerPairs wsX6_offer := goodIn_r _ [54, 55, 56, 8, 57, 58, 59, 60, 61, 62, 6, 63, 19, 9, 10, 11, 12, 13, 14, 20, 21, 22, 23, 24, 25, 26, 27, 28, 29, 30, 31, 32, 33, 34, 35, 36, 64, 65, 66, 67, 68, 69, 70, 71, 72, 73, 74, 75, 47, 76, 49, 77, 78, 79, 80, 50, 81, 82, 83, 84, 85, 86, 87, 88, 89, 90, 91, 92, 93, 94, 95, 96, 97, 98, 99, 100, 101, 102, 103, 104, 105, 106, 107, 108, 109, 110, 111, 112, 113, 114, 115, 116, 117, 118, 119, 120, 121, 122, 123, 124, 125, 126, 127, 128, 129, 130, 131, 132, 133, 134, 135, 136, 137, 138, 139, 140, 141, 142, 143, 144, 145, 146, 147, 148, 162, 163, 152, 156, 157, 158, 159, 160, 161, 153, 154, 155] (by decide +kernel) (by decide +kernel)
set_option maxRecDepth 20000 in
theorem gX1_offerPairs_X6_offer : GoodIn wsX1_offerPairs (wsV RX1 37 RX6 yX6_offer wsX6_offer) := goodIn_app (goodIn_of _ (by decide +kernel)) ggX1_offerPairs_X6_offer
theorem dX1_offerPairs_0 : decode cX1_offerPairs 0 = .ok (.aload_n 0, 1) := by decide +kernel
theorem dX1_offerPairs_1 : decode cX1_offerPairs 1 = .ok (.getfield 11, 3) := by decide +kernel
theorem dX1_offerPairs_4 : decode cX1_offerPairs 4 = .ok (.iload_n 1, 1) := by decide +kernel
theorem dX1_offerPairs_5 : decode cX1_offerPairs 5 = .ok (.iconst 1, 1) := by decide +kernel
theorem dX1_offerPairs_6 : decode cX1_offerPairs 6 = .ok (.isub, 1) := by decide +kernel
theorem dX1_offerPairs_7 : decode cX1_offerPairs 7 = .ok (.aaload, 1) := by decide +kernel
theorem dX1_offerPairs_8 : decode cX1_offerPairs 8 = .ok (.astore 4, 2) := by decide +kernel
theorem dX1_offerPairs_10 : decode cX1_offerPairs 10 = .ok (.aload_n 0, 1) := by decide +kernel
theorem dX1_offerPairs_11 : decode cX1_offerPairs 11 = .ok (.getfield 11, 3) := by decide +kernel
theorem dX1_offerPairs_14 : decode cX1_offerPairs 14 = .ok (.iload_n 3, 1) := by decide +kernel
theorem dX1_offerPairs_15 : decode cX1_offerPairs 15 = .ok (.iconst 1, 1) := by decide +kernel
theorem dX1_offerPairs_16 : decode cX1_offerPairs 16 = .ok (.isub, 1) := by decide +kernel
theorem dX1_offerPairs_17 : decode cX1_offerPairs 17 = .ok (.aaload, 1) := by decide +kernel
theorem dX1_offerPairs_18 : decode cX1_offerPairs 18 = .ok (.astore 5, 2) := by decide +kernel
theorem dX1_offerPairs_20 : decode cX1_offerPairs 20 = .ok (.aload_n 0, 1) := by decide +kernel
theorem dX1_offerPairs_21 : decode cX1_offerPairs 21 = .ok (.getfield 11, 3) := by decide +kernel
theorem dX1_offerPairs_24 : decode cX1_offerPairs 24 = .ok (.iload_n 1, 1) := by decide +kernel
theorem dX1_offerPairs_25 : decode cX1_offerPairs 25 = .ok (.iload_n 3, 1) := by decide +kernel
theorem dX1_offerPairs_26 : decode cX1_offerPairs 26 = .ok (.isub, 1) := by decide +kernel
theorem dX1_offerPairs_27 : decode cX1_offerPairs 27 = .ok (.iconst 1, 1) := by decide +kernel
theorem dX1_offerPairs_28 : decode cX1_offerPairs 28 = .ok (.isub, 1) := by decide +kernel
theorem dX1_offerPairs_29 : decode cX1_offerPairs 29 = .ok (.aaload, 1) := by decide +kernel
theorem dX1_offerPairs_30 : decode cX1_offerPairs 30 = .ok (.astore 6, 2) := by decide +kernel
theorem dX1_offerPairs_32 : decode cX1_offerPairs 32 = .ok (.aload 5, 2) := by decide +kernel
theorem dX1_offerPairs_34 : decode cX1_offerPairs 34 = .ok (.invokevirtual 45, 3) := by decide +kernel
theorem dX1_offerPairs_37 : decode cX1_offerPairs 37 = .ok (.istore 7, 2) := by decide +kernel
theorem dX1_offerPairs_39 : decode cX1_offerPairs 39 = .ok (.aload 6, 2) := by decide +kernel
theorem dX1_offerPairs_41 : decode cX1_offerPairs 41 = .ok (.invokevirtual 45, 3) := by decide +kernel
theorem dX1_offerPairs_44 : decode cX1_offerPairs 44 = .ok (.istore 8, 2) := by decide +kernel
theorem dX1_offerPairs_46 : decode cX1_offerPairs 46 = .ok (.iconst 0, 1) := by decide +kernel
theorem dX1_offerPairs_47 : decode cX1_offerPairs 47 = .ok (.istore 9, 2) := by decide +kernel
theorem dX1_offerPairs_49 : decode cX1_offerPairs 49 = .ok (.iload 9, 2) := by decide +kernel
theorem dX1_offerPairs_51 : decode cX1_offerPairs 51 = .ok (.iload 7, 2) := by decide +kernel
theorem dX1_offerPairs_53 : decode cX1_offerPairs 53 = .ok (.if_icmp .ge 62, 3) := by decide +kernel
theorem dX1_offerPairs_56 : decode cX1_offerPairs 56 = .ok (.iconst 0, 1) := by decide +kernel
theorem dX1_offerPairs_57 : decode cX1_offerPairs 57 = .ok (.istore 10, 2) := by decide +kernel
theorem dX1_offerPairs_59 : decode cX1_offerPairs 59 = .ok (.iload 10, 2) := by decide +kernel
theorem dX1_offerPairs_61 : decode cX1_offerPairs 61 = .ok (.iload 8, 2) := by decide +kernel
theorem dX1_offerPairs_63 : decode cX1_offerPairs 63 = .ok (.if_icmp .ge 46, 3) := by decide +kernel
theorem dX1_offerPairs_66 : decode cX1_offerPairs 66 = .ok (.aload_n 0, 1) := by decide +kernel
theorem dX1_offerPairs_67 : decode cX1_offerPairs 67 = .ok (.aload 5, 2) := by decide +kernel
theorem dX1_offerPairs_69 : decode cX1_offerPairs 69 = .ok (.iload 9, 2) := by decide +kernel
theorem dX1_offerPairs_71 : decode cX1_offerPairs 71 = .ok (.invokevirtual 49, 3) := by decide +kernel
theorem dX1_offerPairs_74 : decode cX1_offerPairs 74 = .ok (.aload 6, 2) := by decide +kernel
theorem dX1_offerPairs_76 : decode cX1_offerPairs 76 = .ok (.iload 10, 2) := by decide +kernel
theorem dX1_offerPairs_78 : decode cX1_offerPairs 78 = .ok (.invokevirtual 49, 3) := by decide +kernel
theorem dX1_offerPairs_81 : decode cX1_offerPairs 81 = .ok (.iload_n 2, 1) := by decide +kernel
theorem dX1_offerPairs_82 : decode cX1_offerPairs 82 = .ok (.invokevirtual 53, 3) := by decide +kernel
theorem dX1_offerPairs_85 : decode cX1_offerPairs 85 = .ok (.ifCond .eq 18, 3) := by decide +kernel
theorem dX1_offerPairs_88 : decode cX1_offerPairs 88 = .ok (.aload 4, 2) := by decide +kernel
theorem dX1_offerPairs_90 : decode cX1_offerPairs 90 = .ok (.aload_n 0, 1) := by decide +kernel
theorem dX1_offerPairs_91 : decode cX1_offerPairs 91 = .ok (.getfield 20, 3) := by decide +kernel
theorem dX1_offerPairs_94 : decode cX1_offerPairs 94 = .ok (.iload_n 2, 1) := by decide +kernel
theorem dX1_offerPairs_95 : decode cX1_offerPairs 95 = .ok (.iload_n 3, 1) := by decide +kernel
theorem dX1_offerPairs_96 : decode cX1_offerPairs 96 = .ok (.iload 9, 2) := by decide +kernel
theorem dX1_offerPairs_98 : decode cX1_offerPairs 98 = .ok (.iload 10, 2) := by decide +kernel
theorem dX1_offerPairs_100 : decode cX1_offerPairs 100 = .ok (.invokevirtual 37, 3) := by decide +kernel
theorem dX1_offerPairs_103 : decode cX1_offerPairs 103 = .ok (.iinc 10 1, 3) := by decide +kernel
theorem dX1_offerPairs_106 : decode cX1_offerPairs 106 = .ok (.goto (-47), 3) := by decide +kernel
theorem dX1_offerPairs_109 : decode cX1_offerPairs 109 = .ok (.iinc 9 1, 3) := by decide +kernel
theorem dX1_offerPairs_112 : decode cX1_offerPairs 112 = .ok (.goto (-63), 3) := by decide +kernel
theorem dX1_offerPairs_115 : decode cX1_offerPairs 115 = .ok (.return_, 1) := by decide +kernel
set_option maxRecDepth 20000 in
theorem ggX1_join_X0_set : GoodIn wsX1_join wsX0_set := goodIn_r _ [8, 9, 10, 20, 21] (by decide +kernel) (by decide +kernel)
set_option maxRecDepth 20000 in
theorem gX1_join_X0_set : GoodIn wsX1_join (wsV RX1 33 RX0 yX0_set wsX0_set) := goodIn_app (goodIn_of _ (by decide +kernel)) ggX1_join_X0_set
theorem dX1_join_0 : decode cX1_join 0 = .ok (.aload_n 1, 1) := by decide +kernel
theorem dX1_join_1 : decode cX1_join 1 = .ok (.ifnull 7, 3) := by decide +kernel
theorem dX1_join_4 : decode cX1_join 4 = .ok (.aload_n 2, 1) := by decide +kernel
theorem dX1_join_5 : decode cX1_join 5 = .ok (.ifnonnull 5, 3) := by decide +kernel
theorem dX1_join_8 : decode cX1_join 8 = .ok (.iconst 0, 1) := by decide +kernel
theorem dX1_join_9 : decode cX1_join 9 = .ok (.ireturn, 1) := by decide +kernel
theorem dX1_join_10 : decode cX1_join 10 = .ok (.aload_n 1, 1) := by decide +kernel
theorem dX1_join_11 : decode cX1_join 11 = .ok (.getfield 57, 3) := by decide +kernel
theorem dX1_join_14 : decode cX1_join 14 = .ok (.aload_n 2, 1) := by decide +kernel
theorem dX1_join_15 : decode cX1_join 15 = .ok (.getfield 62, 3) := by decide +kernel
theorem dX1_join_18 : decode cX1_join 18 = .ok (.imul, 1) := by decide +kernel
theorem dX1_join_19 : decode cX1_join 19 = .ok (.aload_n 2, 1) := by decide +kernel
theorem dX1_join_20 : decode cX1_join 20 = .ok (.getfield 57, 3) := by decide +kernel
theorem dX1_join_23 : decode cX1_join 23 = .ok (.aload_n 1, 1) := by decide +kernel
theorem dX1_join_24 : decode cX1_join 24 = .ok (.getfield 62, 3) := by decide +kernel
theorem dX1_join_27 : decode cX1_join 27 = .ok (.imul, 1) := by decide +kernel
theorem dX1_join_28 : decode cX1_join 28 = .ok (.iadd, 1) := by decide +kernel
theorem dX1_join_29 : decode cX1_join 29 = .ok (.istore 4, 2) := by decide +kernel
theorem dX1_join_31 : decode cX1_join 31 = .ok (.iload_n 3, 1) := by decide +kernel
theorem dX1_join_32 : decode cX1_join 32 = .ok (.iconst 1, 1) := by decide +kernel
theorem dX1_join_33 : decode cX1_join 33 = .ok (.if_icmp .ne 26, 3) := by decide +kernel
theorem dX1_join_36 : decode cX1_join 36 = .ok (.aload_n 0, 1) := by decide +kernel
theorem dX1_join_37 : decode cX1_join 37 = .ok (.getfield 20, 3) := by decide +kernel
theorem dX1_join_40 : decode cX1_join 40 = .ok (.iload 4, 2) := by decide +kernel
theorem dX1_join_42 : decode cX1_join 42 = .ok (.i2l, 1) := by decide +kernel
theorem dX1_join_43 : decode cX1_join 43 = .ok (.aload_n 1, 1) := by decide +kernel
theorem dX1_join_44 : decode cX1_join 44 = .ok (.getfield 62, 3) := by decide +kernel
theorem dX1_join_47 : decode cX1_join 47 = .ok (.aload_n 2, 1) := by decide +kernel
theorem dX1_join_48 : decode cX1_join 48 = .ok (.getfield 62, 3) := by decide +kernel
theorem dX1_join_51 : decode cX1_join 51 = .ok (.imul, 1) := by decide +kernel
theorem dX1_join_52 : decode cX1_join 52 = .ok (.i2l, 1) := by decide +kernel
theorem dX1_join_53 : decode cX1_join 53 = .ok (.invokevirtual 33, 3) := by decide +kernel
theorem dX1_join_56 : decode cX1_join 56 = .ok (.goto 23, 3) := by decide +kernel
theorem dX1_join_59 : decode cX1_join 59 = .ok (.aload_n 0, 1) := by decide +kernel
theorem dX1_join_60 : decode cX1_join 60 = .ok (.getfield 20, 3) := by decide +kernel
theorem dX1_join_63 : decode cX1_join 63 = .ok (.aload_n 1, 1) := by decide +kernel
theorem dX1_join_64 : decode cX1_join 64 = .ok (.getfield 57, 3) := by decide +kernel
theorem dX1_join_67 : decode cX1_join 67 = .ok (.aload_n 2, 1) := by decide +kernel
theorem dX1_join_68 : decode cX1_join 68 = .ok (.getfield 57, 3) := by decide +kernel
theorem dX1_join_71 : decode cX1_join 71 = .ok (.imul, 1) := by decide +kernel
theorem dX1_join_72 : decode cX1_join 72 = .ok (.i2l, 1) := by decide +kernel
theorem dX1_join_73 : decode cX1_join 73 = .ok (.iload 4, 2) := by decide +kernel
theorem dX1_join_75 : decode cX1_join 75 = .ok (.i2l, 1) := by decide +kernel
theorem dX1_join_76 : decode cX1_join 76 = .ok (.invokevirtual 33, 3) := by decide +kernel
theorem dX1_join_79 : decode cX1_join 79 = .ok (.iconst 1, 1) := by decide +kernel
theorem dX1_join_80 : decode cX1_join 80 = .ok (.ireturn, 1) := by decide +kernel
set_option maxRecDepth 20000 in
theorem ggX2_init_X4_init : GoodIn wsX2_init wsX4_init := goodIn_r _ [5, 6, 7, 8, 9, 10, 11, 12, 13, 14, 15, 21, 22, 23, 16, 17, 18, 19, 20] (by decide +kernel) (by decide +kernel)
set_option maxRecDepth 20000 in
theorem gX2_init_X4_init : GoodIn wsX2_init (wsX4_init) := ggX2_init_X4_init
theorem dX2_init_0 : decode cX2_init 0 = .ok (.aload_n 0, 1) := by decide +kernel
theorem dX2_init_1 : decode cX2_init 1 = .ok (.iload_n 1, 1) := by decide +kernel
theorem dX2_init_2 : decode cX2_init 2 = .ok (.iload_n 2, 1) := by decide +kernel
theorem dX2_init_3 : decode cX2_init 3 = .ok (.iload_n 3, 1) := by decide +kernel
theorem dX2_init_4 : decode cX2_init 4 = .ok (.invokespecial 1, 3) := by decide +kernel
theorem dX2_init_7 : decode cX2_init 7 = .ok (.aload_n 0, 1) := by decide +kernel
theorem dX2_init_8 : decode cX2_init 8 = .ok (.iload 4, 2) := by decide +kernel
theorem dX2_init_10 : decode cX2_init 10 = .ok (.putfield 7, 3) := by decide +kernel
theorem dX2_init_13 : decode cX2_init 13 = .ok (.return_, 1) := by decide +kernel
set_option maxRecDepth 20000 in
theorem ggX2_measure_X4_measure : GoodIn wsX2_measure wsX4_measure := goodIn_r _ [8, 9, 10, 11, 12, 13, 14, 15, 16, 17] (by decide +kernel) (by decide +kernel)
set_option maxRecDepth 20000 in
theorem gX2_measure_X4_measure_s13 : GoodIn wsX2_measure (va_wsSU RX2 13 yX4_measure wsX4_measure) := goodIn_app (goodIn_of _ (by decide +kernel)) ggX2_measure_X4_measure
theorem dX2_measure_0 : decode cX2_measure 0 = .ok (.aload_n 0, 1) := by decide +kernel
theorem dX2_measure_1 : decode cX2_measure 1 = .ok (.aload_n 1, 1) := by decide +kernel
theorem dX2_measure_2 : decode cX2_measure 2 = .ok (.invokespecial 13, 3) := by decide +kernel
theorem dX2_measure_5 : decode cX2_measure 5 = .ok (.istore_n 2, 1) := by decide +kernel
theorem dX2_measure_6 : decode cX2_measure 6 = .ok (.aload_n 1, 1) := by decide +kernel
theorem dX2_measure_7 : decode cX2_measure 7 = .ok (.dup, 1) := by decide +kernel
theorem dX2_measure_8 : decode cX2_measure 8 = .ok (.getfield 17, 3) := by decide +kernel
theorem dX2_measure_11 : decode cX2_measure 11 = .ok (.aload_n 0, 1) := by decide +kernel
theorem dX2_measure_12 : decode cX2_measure 12 = .ok (.getfield 7, 3) := by decide +kernel
theorem dX2_measure_15 : decode cX2_measure 15 = .ok (.i2l, 1) := by decide +kernel
theorem dX2_measure_16 : decode cX2_measure 16 = .ok (.lmul, 1) := by decide +kernel
theorem dX2_measure_17 : decode cX2_measure 17 = .ok (.putfield 17, 3) := by decide +kernel
theorem dX2_measure_20 : decode cX2_measure 20 = .ok (.iload_n 2, 1) := by decide +kernel
theorem dX2_measure_21 : decode cX2_measure 21 = .ok (.bipush 10, 2) := by decide +kernel
theorem dX2_measure_23 : decode cX2_measure 23 = .ok (.iadd, 1) := by decide +kernel
theorem dX2_measure_24 : decode cX2_measure 24 = .ok (.ireturn, 1) := by decide +kernel
set_option maxRecDepth 20000 in
theorem ggX3_init_X0_init : GoodIn wsX3_init wsX0_init := goodIn_r _ [20, 21, 2, 3, 22, 23, 32, 33] (by decide +kernel) (by decide +kernel)
set_option maxRecDepth 20000 in
theorem gX3_init_X0_init_n27 : GoodIn wsX3_init (wsX0_init) := ggX3_init_X0_init
theorem dX3_init_0 : decode cX3_init 0 = .ok (.aload_n 0, 1) := by decide +kernel
theorem dX3_init_1 : decode cX3_init 1 = .ok (.invokespecial 3, 3) := by decide +kernel
theorem dX3_init_4 : decode cX3_init 4 = .ok (.aload_n 0, 1) := by decide +kernel
theorem dX3_init_5 : decode cX3_init 5 = .ok (.bipush 12, 2) := by decide +kernel
theorem dX3_init_7 : decode cX3_init 7 = .ok (.anewarray 9, 3) := by decide +kernel
theorem dX3_init_10 : decode cX3_init 10 = .ok (.putfield 11, 3) := by decide +kernel
theorem dX3_init_13 : decode cX3_init 13 = .ok (.aload_n 0, 1) := by decide +kernel
theorem dX3_init_14 : decode cX3_init 14 = .ok (.bipush 12, 2) := by decide +kernel
theorem dX3_init_16 : decode cX3_init 16 = .ok (.newarray .long, 2) := by decide +kernel
theorem dX3_init_18 : decode cX3_init 18 = .ok (.putfield 17, 3) := by decide +kernel
theorem dX3_init_21 : decode cX3_init 21 = .ok (.aload_n 0, 1) := by decide +kernel
theorem dX3_init_22 : decode cX3_init 22 = .ok (.iconst 0, 1) := by decide +kernel
theorem dX3_init_23 : decode cX3_init 23 = .ok (.putfield 21, 3) := by decide +kernel
theorem dX3_init_26 : decode cX3_init 26 = .ok (.aload_n 0, 1) := by decide +kernel
theorem dX3_init_27 : decode cX3_init 27 = .ok (.new 25, 3) := by decide +kernel
theorem dX3_init_30 : decode cX3_init 30 = .ok (.dup, 1) := by decide +kernel
theorem dX3_init_31 : decode cX3_init 31 = .ok (.invokespecial 27, 3) := by decide +kernel
theorem dX3_init_34 : decode cX3_init 34 = .ok (.putfield 28, 3) := by decide +kernel
theorem dX3_init_37 : decode cX3_init 37 = .ok (.aload_n 0, 1) := by decide +kernel
theorem dX3_init_38 : decode cX3_init 38 = .ok (.bipush 6, 2) := by decide +kernel
theorem dX3_init_40 : decode cX3_init 40 = .ok (.newarray .int, 2) := by decide +kernel
theorem dX3_init_42 : decode cX3_init 42 = .ok (.putfield 32, 3) := by decide +kernel
theorem dX3_init_45 : decode cX3_init 45 = .ok (.aload_n 0, 1) := by decide +kernel
theorem dX3_init_46 : decode cX3_init 46 = .ok (.iconst 5, 1) := by decide +kernel
theorem dX3_init_47 : decode cX3_init 47 = .ok (.bipush 6, 2) := by decide +kernel
theorem dX3_init_49 : decode cX3_init 49 = .ok (.multianewarray 36 2, 4) := by decide +kernel
theorem dX3_init_53 : decode cX3_init 53 = .ok (.putfield 38, 3) := by decide +kernel
theorem dX3_init_56 : decode cX3_init 56 = .ok (.aload_n 0, 1) := by decide +kernel
theorem dX3_init_57 : decode cX3_init 57 = .ok (.bipush 6, 2) := by decide +kernel
theorem dX3_init_59 : decode cX3_init 59 = .ok (.newarray .int, 2) := by decide +kernel
theorem dX3_init_61 : decode cX3_init 61 = .ok (.putfield 41, 3) := by decide +kernel
theorem dX3_init_64 : decode cX3_init 64 = .ok (.aload_n 0, 1) := by decide +kernel
theorem dX3_init_65 : decode cX3_init 65 = .ok (.iconst 0, 1) := by decide +kernel
theorem dX3_init_66 : decode cX3_init 66 = .ok (.putfield 44, 3) := by decide +kernel
theorem dX3_init_69 : decode cX3_init 69 = .ok (.return_, 1) := by decide +kernel
theorem dX3_size_0 : decode cX3_size 0 = .ok (.aload_n 0, 1) := by decide +kernel
theorem dX3_size_1 : decode cX3_size 1 = .ok (.getfield 21, 3) := by decide +kernel
theorem dX3_size_4 : decode cX3_size 4 = .ok (.ireturn, 1) := by decide +kernel
theorem dX3_at_0 : decode cX3_at 0 = .ok (.iload_n 1, 1) := by decide +kernel
theorem dX3_at_1 : decode cX3_at 1 = .ok (.ifCond .lt 11, 3) := by decide +kernel
theorem dX3_at_4 : decode cX3_at 4 = .ok (.iload_n 1, 1) := by decide +kernel
theorem dX3_at_5 : decode cX3_at 5 = .ok (.aload_n 0, 1) := by decide +kernel
theorem dX3_at_6 : decode cX3_at 6 = .ok (.getfield 21, 3) := by decide +kernel
theorem dX3_at_9 : decode cX3_at 9 = .ok (.if_icmp .lt 5, 3) := by decide +kernel
theorem dX3_at_12 : decode cX3_at 12 = .ok (.aconst_null, 1) := by decide +kernel
theorem dX3_at_13 : decode cX3_at 13 = .ok (.areturn, 1) := by decide +kernel
theorem dX3_at_14 : decode cX3_at 14 = .ok (.aload_n 0, 1) := by decide +kernel
theorem dX3_at_15 : decode cX3_at 15 = .ok (.getfield 11, 3) := by decide +kernel
theorem dX3_at_18 : decode cX3_at 18 = .ok (.iload_n 1, 1) := by decide +kernel
theorem dX3_at_19 : decode cX3_at 19 = .ok (.aaload, 1) := by decide +kernel
theorem dX3_at_20 : decode cX3_at 20 = .ok (.areturn, 1) := by decide +kernel
set_option maxRecDepth 20000 in
theorem ggX3_add_X3_flowOf : GoodIn wsX3_add wsX3_flowOf := goodIn_r _ [8, 9, 10, 11, 12, 13, 14, 15, 16, 17, 18, 19, 20, 21, 22, 23, 24, 25, 26, 27, 28, 29, 30, 31, 32, 33, 34, 35, 36, 37, 38, 39, 40, 41, 42, 43, 44, 45, 46, 47, 48, 49, 50, 51, 52, 53, 54, 55, 56, 57, 58, 59, 60, 61, 62, 63] (by decide +kernel) (by decide +kernel)
set_option maxRecDepth 20000 in
theorem gX3_add_X3_flowOf : GoodIn wsX3_add (wsV RX3 47 RX3 yX3_flowOf wsX3_flowOf) := goodIn_app (goodIn_of _ (by decide +kernel)) ggX3_add_X3_flowOf
theorem dX3_add_0 : decode cX3_add 0 = .ok (.aload_n 0, 1) := by decide +kernel
theorem dX3_add_1 : decode cX3_add 1 = .ok (.getfield 11, 3) := by decide +kernel
theorem dX3_add_4 : decode cX3_add 4 = .ok (.aload_n 0, 1) := by decide +kernel
theorem dX3_add_5 : decode cX3_add 5 = .ok (.getfield 21, 3) := by decide +kernel
theorem dX3_add_8 : decode cX3_add 8 = .ok (.aload_n 1, 1) := by decide +kernel
theorem dX3_add_9 : decode cX3_add 9 = .ok (.aastore, 1) := by decide +kernel
theorem dX3_add_10 : decode cX3_add 10 = .ok (.aload_n 0, 1) := by decide +kernel
theorem dX3_add_11 : decode cX3_add 11 = .ok (.getfield 17, 3) := by decide +kernel
theorem dX3_add_14 : decode cX3_add 14 = .ok (.aload_n 0, 1) := by decide +kernel
theorem dX3_add_15 : decode cX3_add 15 = .ok (.getfield 21, 3) := by decide +kernel
theorem dX3_add_18 : decode cX3_add 18 = .ok (.aload_n 0, 1) := by decide +kernel
theorem dX3_add_19 : decode cX3_add 19 = .ok (.aload_n 1, 1) := by decide +kernel
theorem dX3_add_20 : decode cX3_add 20 = .ok (.invokevirtual 47, 3) := by decide +kernel
theorem dX3_add_23 : decode cX3_add 23 = .ok (.lastore, 1) := by decide +kernel
theorem dX3_add_24 : decode cX3_add 24 = .ok (.aload_n 0, 1) := by decide +kernel
theorem dX3_add_25 : decode cX3_add 25 = .ok (.dup, 1) := by decide +kernel
theorem dX3_add_26 : decode cX3_add 26 = .ok (.getfield 21, 3) := by decide +kernel
theorem dX3_add_29 : decode cX3_add 29 = .ok (.iconst 1, 1) := by decide +kernel
theorem dX3_add_30 : decode cX3_add 30 = .ok (.iadd, 1) := by decide +kernel
theorem dX3_add_31 : decode cX3_add 31 = .ok (.putfield 21, 3) := by decide +kernel
theorem dX3_add_34 : decode cX3_add 34 = .ok (.aload_n 0, 1) := by decide +kernel
theorem dX3_add_35 : decode cX3_add 35 = .ok (.getfield 21, 3) := by decide +kernel
theorem dX3_add_38 : decode cX3_add 38 = .ok (.iconst 1, 1) := by decide +kernel
theorem dX3_add_39 : decode cX3_add 39 = .ok (.isub, 1) := by decide +kernel
theorem dX3_add_40 : decode cX3_add 40 = .ok (.ireturn, 1) := by decide +kernel
set_option maxRecDepth 20000 in
theorem ggX3_flowOf_X2_measure : GoodIn wsX3_flowOf wsX2_measure := goodIn_r _ [11, 12, 13, 14, 6, 15, 16, 17, 18, 19, 20, 21, 22, 23, 24, 25, 45, 46, 47, 48, 49, 50, 51, 52, 53, 54, 55] (by decide +kernel) (by decide +kernel)
set_option maxRecDepth 20000 in
theorem gX3_flowOf_X2_measure_u51X2 : GoodIn wsX3_flowOf (va_wsO RX3 51 RX2 "OhmNets$OneWire" ⟨"OhmNets$OneWire", "measure", "(LOhmNets$Fraction;)I"⟩ yX2_measure wsX2_measure) := goodIn_app (goodIn_of _ (by decide +kernel)) ggX3_flowOf_X2_measure
set_option maxRecDepth 20000 in
theorem ggX3_flowOf_X4_measure : GoodIn wsX3_flowOf wsX4_measure := goodIn_r _ [18, 19, 20, 21, 22, 23, 24, 25, 45, 46] (by decide +kernel) (by decide +kernel)
set_option maxRecDepth 20000 in
theorem gX3_flowOf_X4_measure : GoodIn wsX3_flowOf (wsV RX3 51 RX4 yX4_measure wsX4_measure) := goodIn_app (goodIn_of _ (by decide +kernel)) ggX3_flowOf_X4_measure
set_option maxRecDepth 20000 in
theorem ggX3_flowOf_X8_measure : GoodIn wsX3_flowOf wsX8_measure := goodIn_r _ [31, 32, 33, 34, 35, 36, 9, 10, 11, 12, 13, 14, 6, 15, 16, 17, 18, 19, 20, 21, 22, 23, 24, 25, 45, 46, 51, 52, 53, 54, 55, 47, 48, 49, 50] (by decide +kernel) (by decide +kernel)
set_option maxRecDepth 20000 in
theorem gX3_flowOf_X8_measure_u51X8 : GoodIn wsX3_flowOf (va_wsO RX3 51 RX8 "OhmNets$OneWire" ⟨"OhmNets$OneWire", "measure", "(LOhmNets$Fraction;)I"⟩ yX8_measure wsX8_measure) := goodIn_app (goodIn_of _ (by decide +kernel)) ggX3_flowOf_X8_measure
theorem dX3_flowOf_0 : decode cX3_flowOf 0 = .ok (.aload_n 1, 1) := by decide +kernel
theorem dX3_flowOf_1 : decode cX3_flowOf 1 = .ok (.aload_n 0, 1) := by decide +kernel
theorem dX3_flowOf_2 : decode cX3_flowOf 2 = .ok (.getfield 28, 3) := by decide +kernel
theorem dX3_flowOf_5 : decode cX3_flowOf 5 = .ok (.invokevirtual 51, 3) := by decide +kernel
theorem dX3_flowOf_8 : decode cX3_flowOf 8 = .ok (.pop, 1) := by decide +kernel
theorem dX3_flowOf_9 : decode cX3_flowOf 9 = .ok (.aload_n 0, 1) := by decide +kernel
theorem dX3_flowOf_10 : decode cX3_flowOf 10 = .ok (.getfield 28, 3) := by decide +kernel
theorem dX3_flowOf_13 : decode cX3_flowOf 13 = .ok (.getfield 55, 3) := by decide +kernel
theorem dX3_flowOf_16 : decode cX3_flowOf 16 = .ok (.lconst 0, 1) := by decide +kernel
theorem dX3_flowOf_17 : decode cX3_flowOf 17 = .ok (.lcmp, 1) := by decide +kernel
theorem dX3_flowOf_18 : decode cX3_flowOf 18 = .ok (.ifCond .ne 7, 3) := by decide +kernel
theorem dX3_flowOf_21 : decode cX3_flowOf 21 = .ok (.lconst 0, 1) := by decide +kernel
theorem dX3_flowOf_22 : decode cX3_flowOf 22 = .ok (.goto 22, 3) := by decide +kernel
theorem dX3_flowOf_25 : decode cX3_flowOf 25 = .ok (.ldc2_w 59, 3) := by decide +kernel
theorem dX3_flowOf_28 : decode cX3_flowOf 28 = .ok (.aload_n 0, 1) := by decide +kernel
theorem dX3_flowOf_29 : decode cX3_flowOf 29 = .ok (.getfield 28, 3) := by decide +kernel
theorem dX3_flowOf_32 : decode cX3_flowOf 32 = .ok (.getfield 61, 3) := by decide +kernel
theorem dX3_flowOf_35 : decode cX3_flowOf 35 = .ok (.lmul, 1) := by decide +kernel
theorem dX3_flowOf_36 : decode cX3_flowOf 36 = .ok (.aload_n 0, 1) := by decide +kernel
theorem dX3_flowOf_37 : decode cX3_flowOf 37 = .ok (.getfield 28, 3) := by decide +kernel
theorem dX3_flowOf_40 : decode cX3_flowOf 40 = .ok (.getfield 55, 3) := by decide +kernel
theorem dX3_flowOf_43 : decode cX3_flowOf 43 = .ok (.ldiv, 1) := by decide +kernel
theorem dX3_flowOf_44 : decode cX3_flowOf 44 = .ok (.lreturn, 1) := by decide +kernel
theorem dX3_removeLatest_0 : decode cX3_removeLatest 0 = .ok (.aload_n 0, 1) := by decide +kernel
theorem dX3_removeLatest_1 : decode cX3_removeLatest 1 = .ok (.dup, 1) := by decide +kernel
theorem dX3_removeLatest_2 : decode cX3_removeLatest 2 = .ok (.getfield 21, 3) := by decide +kernel
theorem dX3_removeLatest_5 : decode cX3_removeLatest 5 = .ok (.iconst 1, 1) := by decide +kernel
theorem dX3_removeLatest_6 : decode cX3_removeLatest 6 = .ok (.isub, 1) := by decide +kernel
theorem dX3_removeLatest_7 : decode cX3_removeLatest 7 = .ok (.putfield 21, 3) := by decide +kernel
theorem dX3_removeLatest_10 : decode cX3_removeLatest 10 = .ok (.aload_n 0, 1) := by decide +kernel
theorem dX3_removeLatest_11 : decode cX3_removeLatest 11 = .ok (.getfield 11, 3) := by decide +kernel
theorem dX3_removeLatest_14 : decode cX3_removeLatest 14 = .ok (.aload_n 0, 1) := by decide +kernel
theorem dX3_removeLatest_15 : decode cX3_removeLatest 15 = .ok (.getfield 21, 3) := by decide +kernel
theorem dX3_removeLatest_18 : decode cX3_removeLatest 18 = .ok (.aconst_null, 1) := by decide +kernel
theorem dX3_removeLatest_19 : decode cX3_removeLatest 19 = .ok (.aastore, 1) := by decide +kernel
theorem dX3_removeLatest_20 : decode cX3_removeLatest 20 = .ok (.aload_n 0, 1) := by decide +kernel
theorem dX3_removeLatest_21 : decode cX3_removeLatest 21 = .ok (.getfield 21, 3) := by decide +kernel
theorem dX3_removeLatest_24 : decode cX3_removeLatest 24 = .ok (.ireturn, 1) := by decide +kernel
theorem dX3_knotsWithWires_0 : decode cX3_knotsWithWires 0 = .ok (.iconst 0, 1) := by decide +kernel
theorem dX3_knotsWithWires_1 : decode cX3_knotsWithWires 1 = .ok (.istore_n 1, 1) := by decide +kernel
theorem dX3_knotsWithWires_2 : decode cX3_knotsWithWires 2 = .ok (.iconst 0, 1) := by decide +kernel
theorem dX3_knotsWithWires_3 : decode cX3_knotsWithWires 3 = .ok (.istore_n 2, 1) := by decide +kernel
theorem dX3_knotsWithWires_4 : decode cX3_knotsWithWires 4 = .ok (.iload_n 2, 1) := by decide +kernel
theorem dX3_knotsWithWires_5 : decode cX3_knotsWithWires 5 = .ok (.aload_n 0, 1) := by decide +kernel
theorem dX3_knotsWithWires_6 : decode cX3_knotsWithWires 6 = .ok (.getfield 21, 3) := by decide +kernel
theorem dX3_knotsWithWires_9 : decode cX3_knotsWithWires 9 = .ok (.if_icmp .ge 35, 3) := by decide +kernel
theorem dX3_knotsWithWires_12 : decode cX3_knotsWithWires 12 = .ok (.iload_n 1, 1) := by decide +kernel
theorem dX3_knotsWithWires_13 : decode cX3_knotsWithWires 13 = .ok (.iconst 1, 1) := by decide +kernel
theorem dX3_knotsWithWires_14 : decode cX3_knotsWithWires 14 = .ok (.aload_n 0, 1) := by decide +kernel
theorem dX3_knotsWithWires_15 : decode cX3_knotsWithWires 15 = .ok (.getfield 11, 3) := by decide +kernel
theorem dX3_knotsWithWires_18 : decode cX3_knotsWithWires 18 = .ok (.iload_n 2, 1) := by decide +kernel
theorem dX3_knotsWithWires_19 : decode cX3_knotsWithWires 19 = .ok (.aaload, 1) := by decide +kernel
theorem dX3_knotsWithWires_20 : decode cX3_knotsWithWires 20 = .ok (.getfield 64, 3) := by decide +kernel
theorem dX3_knotsWithWires_23 : decode cX3_knotsWithWires 23 = .ok (.ishl, 1) := by decide +kernel
theorem dX3_knotsWithWires_24 : decode cX3_knotsWithWires 24 = .ok (.iconst 1, 1) := by decide +kernel
theorem dX3_knotsWithWires_25 : decode cX3_knotsWithWires 25 = .ok (.aload_n 0, 1) := by decide +kernel
theorem dX3_knotsWithWires_26 : decode cX3_knotsWithWires 26 = .ok (.getfield 11, 3) := by decide +kernel
theorem dX3_knotsWithWires_29 : decode cX3_knotsWithWires 29 = .ok (.iload_n 2, 1) := by decide +kernel
theorem dX3_knotsWithWires_30 : decode cX3_knotsWithWires 30 = .ok (.aaload, 1) := by decide +kernel
theorem dX3_knotsWithWires_31 : decode cX3_knotsWithWires 31 = .ok (.getfield 67, 3) := by decide +kernel
theorem dX3_knotsWithWires_34 : decode cX3_knotsWithWires 34 = .ok (.ishl, 1) := by decide +kernel
theorem dX3_knotsWithWires_35 : decode cX3_knotsWithWires 35 = .ok (.ior, 1) := by decide +kernel
theorem dX3_knotsWithWires_36 : decode cX3_knotsWithWires 36 = .ok (.ior, 1) := by decide +kernel
theorem dX3_knotsWithWires_37 : decode cX3_knotsWithWires 37 = .ok (.istore_n 1, 1) := by decide +kernel
theorem dX3_knotsWithWires_38 : decode cX3_knotsWithWires 38 = .ok (.iinc 2 1, 3) := by decide +kernel
theorem dX3_knotsWithWires_41 : decode cX3_knotsWithWires 41 = .ok (.goto (-37), 3) := by decide +kernel
theorem dX3_knotsWithWires_44 : decode cX3_knotsWithWires 44 = .ok (.iload_n 1, 1) := by decide +kernel
theorem dX3_knotsWithWires_45 : decode cX3_knotsWithWires 45 = .ok (.ireturn, 1) := by decide +kernel
set_option maxRecDepth 20000 in
theorem ggX3_hangTogether_X3_reachedFrom : GoodIn wsX3_hangTogether wsX3_reachedFrom := goodIn_r _ [5, 6, 7, 8, 9, 10, 11, 12, 13, 14, 15, 16, 17, 18, 19, 20, 21, 22, 23, 24, 25, 26, 27, 28, 29, 30, 31, 32, 33, 34, 35, 36, 37, 38, 39, 40] (by decide +kernel) (by decide +kernel)
set_option maxRecDepth 20000 in
theorem gX3_hangTogether_X3_reachedFrom : GoodIn wsX3_hangTogether (wsV RX3 70 RX3 yX3_reachedFrom wsX3_reachedFrom) := goodIn_app (goodIn_of _ (by decide +kernel)) ggX3_hangTogether_X3_reachedFrom
theorem dX3_hangTogether_0 : decode cX3_hangTogether 0 = .ok (.aload_n 0, 1) := by decide +kernel
theorem dX3_hangTogether_1 : decode cX3_hangTogether 1 = .ok (.iload_n 1, 1) := by decide +kernel
theorem dX3_hangTogether_2 : decode cX3_hangTogether 2 = .ok (.invokevirtual 70, 3) := by decide +kernel
theorem dX3_hangTogether_5 : decode cX3_hangTogether 5 = .ok (.iload_n 2, 1) := by decide +kernel
theorem dX3_hangTogether_6 : decode cX3_hangTogether 6 = .ok (.ishr, 1) := by decide +kernel
theorem dX3_hangTogether_7 : decode cX3_hangTogether 7 = .ok (.iconst 1, 1) := by decide +kernel
theorem dX3_hangTogether_8 : decode cX3_hangTogether 8 = .ok (.iand, 1) := by decide +kernel
theorem dX3_hangTogether_9 : decode cX3_hangTogether 9 = .ok (.iconst 1, 1) := by decide +kernel
theorem dX3_hangTogether_10 : decode cX3_hangTogether 10 = .ok (.if_icmp .ne 7, 3) := by decide +kernel
theorem dX3_hangTogether_13 : decode cX3_hangTogether 13 = .ok (.iconst 1, 1) := by decide +kernel
theorem dX3_hangTogether_14 : decode cX3_hangTogether 14 = .ok (.goto 4, 3) := by decide +kernel
theorem dX3_hangTogether_17 : decode cX3_hangTogether 17 = .ok (.iconst 0, 1) := by decide +kernel
theorem dX3_hangTogether_18 : decode cX3_hangTogether 18 = .ok (.ireturn, 1) := by decide +kernel
set_option maxRecDepth 20000 in
theorem ggX3_reachedFrom_X4_touches : GoodIn wsX3_reachedFrom wsX4_touches := goodIn_r _ [10, 11, 12, 24, 25, 26, 27, 28, 29, 30, 31, 32, 33, 34, 35] (by decide +kernel) (by decide +kernel)
set_option maxRecDepth 20000 in
theorem gX3_reachedFrom_X4_touches_u74X2 : GoodIn wsX3_reachedFrom (va_wsU RX3 74 RX2 "OhmNets$OneWire" ⟨"OhmNets$OneWire", "touches", "(I)Z"⟩ yX4_touches wsX4_touches) := goodIn_app (goodIn_of _ (by decide +kernel)) ggX3_reachedFrom_X4_touches
set_option maxRecDepth 20000 in
theorem gX3_reachedFrom_X4_touches : GoodIn wsX3_reachedFrom (wsV RX3 74 RX4 yX4_touches wsX4_touches) := goodIn_app (goodIn_of _ (by decide +kernel)) ggX3_reachedFrom_X4_touches
set_option maxRecDepth 20000 in
theorem gX3_reachedFrom_X4_touches_u74X8 : GoodIn wsX3_reachedFrom (va_wsU RX3 74 RX8 "OhmNets$OneWire" ⟨"OhmNets$OneWire", "touches", "(I)Z"⟩ yX4_touches wsX4_touches) := goodIn_app (goodIn_of _ (by decide +kernel)) ggX3_reachedFrom_X4_touches
theorem dX3_reachedFrom_0 : decode cX3_reachedFrom 0 = .ok (.iconst 1, 1) := by decide +kernel
theorem dX3_reachedFrom_1 : decode cX3_reachedFrom 1 = .ok (.iload_n 1, 1) := by decide +kernel
theorem dX3_reachedFrom_2 : decode cX3_reachedFrom 2 = .ok (.ishl, 1) := by decide +kernel
theorem dX3_reachedFrom_3 : decode cX3_reachedFrom 3 = .ok (.istore_n 2, 1) := by decide +kernel
theorem dX3_reachedFrom_4 : decode cX3_reachedFrom 4 = .ok (.iconst 1, 1) := by decide +kernel
theorem dX3_reachedFrom_5 : decode cX3_reachedFrom 5 = .ok (.istore_n 3, 1) := by decide +kernel
theorem dX3_reachedFrom_6 : decode cX3_reachedFrom 6 = .ok (.iload_n 3, 1) := by decide +kernel
theorem dX3_reachedFrom_7 : decode cX3_reachedFrom 7 = .ok (.bipush 6, 2) := by decide +kernel
theorem dX3_reachedFrom_9 : decode cX3_reachedFrom 9 = .ok (.if_icmp .ge 69, 3) := by decide +kernel
theorem dX3_reachedFrom_12 : decode cX3_reachedFrom 12 = .ok (.iconst 0, 1) := by decide +kernel
theorem dX3_reachedFrom_13 : decode cX3_reachedFrom 13 = .ok (.istore 4, 2) := by decide +kernel
theorem dX3_reachedFrom_15 : decode cX3_reachedFrom 15 = .ok (.iload 4, 2) := by decide +kernel
theorem dX3_reachedFrom_17 : decode cX3_reachedFrom 17 = .ok (.aload_n 0, 1) := by decide +kernel
theorem dX3_reachedFrom_18 : decode cX3_reachedFrom 18 = .ok (.getfield 21, 3) := by decide +kernel
theorem dX3_reachedFrom_21 : decode cX3_reachedFrom 21 = .ok (.if_icmp .ge 51, 3) := by decide +kernel
theorem dX3_reachedFrom_24 : decode cX3_reachedFrom 24 = .ok (.aload_n 0, 1) := by decide +kernel
theorem dX3_reachedFrom_25 : decode cX3_reachedFrom 25 = .ok (.getfield 11, 3) := by decide +kernel
theorem dX3_reachedFrom_28 : decode cX3_reachedFrom 28 = .ok (.iload 4, 2) := by decide +kernel
theorem dX3_reachedFrom_30 : decode cX3_reachedFrom 30 = .ok (.aaload, 1) := by decide +kernel
theorem dX3_reachedFrom_31 : decode cX3_reachedFrom 31 = .ok (.iload_n 2, 1) := by decide +kernel
theorem dX3_reachedFrom_32 : decode cX3_reachedFrom 32 = .ok (.invokevirtual 74, 3) := by decide +kernel
theorem dX3_reachedFrom_35 : decode cX3_reachedFrom 35 = .ok (.ifCond .eq 31, 3) := by decide +kernel
theorem dX3_reachedFrom_38 : decode cX3_reachedFrom 38 = .ok (.iload_n 2, 1) := by decide +kernel
theorem dX3_reachedFrom_39 : decode cX3_reachedFrom 39 = .ok (.iconst 1, 1) := by decide +kernel
theorem dX3_reachedFrom_40 : decode cX3_reachedFrom 40 = .ok (.aload_n 0, 1) := by decide +kernel
theorem dX3_reachedFrom_41 : decode cX3_reachedFrom 41 = .ok (.getfield 11, 3) := by decide +kernel
theorem dX3_reachedFrom_44 : decode cX3_reachedFrom 44 = .ok (.iload 4, 2) := by decide +kernel
theorem dX3_reachedFrom_46 : decode cX3_reachedFrom 46 = .ok (.aaload, 1) := by decide +kernel
theorem dX3_reachedFrom_47 : decode cX3_reachedFrom 47 = .ok (.getfield 64, 3) := by decide +kernel
theorem dX3_reachedFrom_50 : decode cX3_reachedFrom 50 = .ok (.ishl, 1) := by decide +kernel
theorem dX3_reachedFrom_51 : decode cX3_reachedFrom 51 = .ok (.iconst 1, 1) := by decide +kernel
theorem dX3_reachedFrom_52 : decode cX3_reachedFrom 52 = .ok (.aload_n 0, 1) := by decide +kernel
theorem dX3_reachedFrom_53 : decode cX3_reachedFrom 53 = .ok (.getfield 11, 3) := by decide +kernel
theorem dX3_reachedFrom_56 : decode cX3_reachedFrom 56 = .ok (.iload 4, 2) := by decide +kernel
theorem dX3_reachedFrom_58 : decode cX3_reachedFrom 58 = .ok (.aaload, 1) := by decide +kernel
theorem dX3_reachedFrom_59 : decode cX3_reachedFrom 59 = .ok (.getfield 67, 3) := by decide +kernel
theorem dX3_reachedFrom_62 : decode cX3_reachedFrom 62 = .ok (.ishl, 1) := by decide +kernel
theorem dX3_reachedFrom_63 : decode cX3_reachedFrom 63 = .ok (.ior, 1) := by decide +kernel
theorem dX3_reachedFrom_64 : decode cX3_reachedFrom 64 = .ok (.ior, 1) := by decide +kernel
theorem dX3_reachedFrom_65 : decode cX3_reachedFrom 65 = .ok (.istore_n 2, 1) := by decide +kernel
theorem dX3_reachedFrom_66 : decode cX3_reachedFrom 66 = .ok (.iinc 4 1, 3) := by decide +kernel
theorem dX3_reachedFrom_69 : decode cX3_reachedFrom 69 = .ok (.goto (-54), 3) := by decide +kernel
theorem dX3_reachedFrom_72 : decode cX3_reachedFrom 72 = .ok (.iinc 3 1, 3) := by decide +kernel
theorem dX3_reachedFrom_75 : decode cX3_reachedFrom 75 = .ok (.goto (-69), 3) := by decide +kernel
theorem dX3_reachedFrom_78 : decode cX3_reachedFrom 78 = .ok (.iload_n 2, 1) := by decide +kernel
theorem dX3_reachedFrom_79 : decode cX3_reachedFrom 79 = .ok (.ireturn, 1) := by decide +kernel
set_option maxRecDepth 20000 in
theorem ggX3_solveBetween_X0_set : GoodIn wsX3_solveBetween wsX0_set := goodIn_r _ [6, 7, 8, 72, 73] (by decide +kernel) (by decide +kernel)
set_option maxRecDepth 20000 in
theorem gX3_solveBetween_X0_set : GoodIn wsX3_solveBetween (wsV RX3 78 RX0 yX0_set wsX0_set) := goodIn_app (goodIn_of _ (by decide +kernel)) ggX3_solveBetween_X0_set
set_option maxRecDepth 20000 in
theorem ggX3_solveBetween_X3_solve : GoodIn wsX3_solveBetween wsX3_solve := goodIn_r _ [13, 14, 15, 16, 17, 18, 19, 12, 20, 21, 22, 23, 24, 25, 26, 27, 28, 29, 30, 31, 32, 33, 34, 35, 36, 37, 38, 39, 40, 41, 42, 43, 44, 45, 46, 47, 48, 49, 50, 51, 52, 53, 54, 55, 56, 74, 75, 76, 77, 78, 79, 80, 81, 82, 83, 84, 85, 86, 87, 88, 89, 90, 91, 92, 93] (by decide +kernel) (by decide +kernel)
set_option maxRecDepth 20000 in
theorem gX3_solveBetween_X3_solve : GoodIn wsX3_solveBetween (wsV RX3 82 RX3 yX3_solve wsX3_solve) := goodIn_app (goodIn_of _ (by decide +kernel)) ggX3_solveBetween_X3_solve
set_option maxRecDepth 20000 in
theorem ggX3_solveBetween_X3_numberOf : GoodIn wsX3_solveBetween wsX3_numberOf := goodIn_r _ [60, 14, 15, 16, 74, 75, 76, 77, 78, 79, 80, 81] (by decide +kernel) (by decide +kernel)
set_option maxRecDepth 20000 in
theorem gX3_solveBetween_X3_numberOf : GoodIn wsX3_solveBetween (wsV RX3 86 RX3 yX3_numberOf wsX3_numberOf) := goodIn_app (goodIn_of _ (by decide +kernel)) ggX3_solveBetween_X3_numberOf
set_option maxRecDepth 20000 in
theorem ggX3_solveBetween_X0_reduce : GoodIn wsX3_solveBetween wsX0_reduce := goodIn_r _ [64, 7, 65, 66, 67, 68, 8, 69, 70, 5, 71, 72, 73] (by decide +kernel) (by decide +kernel)
set_option maxRecDepth 20000 in
theorem gX3_solveBetween_X0_reduce : GoodIn wsX3_solveBetween (wsV RX3 90 RX0 yX0_reduce wsX0_reduce) := goodIn_app (goodIn_of _ (by decide +kernel)) ggX3_solveBetween_X0_reduce
theorem dX3_solveBetween_0 : decode cX3_solveBetween 0 = .ok (.iload_n 1, 1) := by decide +kernel
theorem dX3_solveBetween_1 : decode cX3_solveBetween 1 = .ok (.iload_n 2, 1) := by decide +kernel
theorem dX3_solveBetween_2 : decode cX3_solveBetween 2 = .ok (.if_icmp .ne 10, 3) := by decide +kernel
theorem dX3_solveBetween_5 : decode cX3_solveBetween 5 = .ok (.aload_n 3, 1) := by decide +kernel
theorem dX3_solveBetween_6 : decode cX3_solveBetween 6 = .ok (.lconst 0, 1) := by decide +kernel
theorem dX3_solveBetween_7 : decode cX3_solveBetween 7 = .ok (.lconst 1, 1) := by decide +kernel
theorem dX3_solveBetween_8 : decode cX3_solveBetween 8 = .ok (.invokevirtual 78, 3) := by decide +kernel
theorem dX3_solveBetween_11 : decode cX3_solveBetween 11 = .ok (.return_, 1) := by decide +kernel
theorem dX3_solveBetween_12 : decode cX3_solveBetween 12 = .ok (.aload_n 0, 1) := by decide +kernel
theorem dX3_solveBetween_13 : decode cX3_solveBetween 13 = .ok (.iload_n 1, 1) := by decide +kernel
theorem dX3_solveBetween_14 : decode cX3_solveBetween 14 = .ok (.iload_n 2, 1) := by decide +kernel
theorem dX3_solveBetween_15 : decode cX3_solveBetween 15 = .ok (.invokevirtual 82, 3) := by decide +kernel
theorem dX3_solveBetween_18 : decode cX3_solveBetween 18 = .ok (.lstore 4, 2) := by decide +kernel
theorem dX3_solveBetween_20 : decode cX3_solveBetween 20 = .ok (.aload_n 3, 1) := by decide +kernel
theorem dX3_solveBetween_21 : decode cX3_solveBetween 21 = .ok (.ldc2_w 59, 3) := by decide +kernel
theorem dX3_solveBetween_24 : decode cX3_solveBetween 24 = .ok (.aload_n 0, 1) := by decide +kernel
theorem dX3_solveBetween_25 : decode cX3_solveBetween 25 = .ok (.iload_n 1, 1) := by decide +kernel
theorem dX3_solveBetween_26 : decode cX3_solveBetween 26 = .ok (.invokevirtual 86, 3) := by decide +kernel
theorem dX3_solveBetween_29 : decode cX3_solveBetween 29 = .ok (.lmul, 1) := by decide +kernel
theorem dX3_solveBetween_30 : decode cX3_solveBetween 30 = .ok (.lload 4, 2) := by decide +kernel
theorem dX3_solveBetween_32 : decode cX3_solveBetween 32 = .ok (.invokevirtual 78, 3) := by decide +kernel
theorem dX3_solveBetween_35 : decode cX3_solveBetween 35 = .ok (.aload_n 3, 1) := by decide +kernel
theorem dX3_solveBetween_36 : decode cX3_solveBetween 36 = .ok (.invokevirtual 90, 3) := by decide +kernel
theorem dX3_solveBetween_39 : decode cX3_solveBetween 39 = .ok (.return_, 1) := by decide +kernel
set_option maxRecDepth 20000 in
theorem ggX3_solveThrough_X3_solve : GoodIn wsX3_solveThrough wsX3_solve := goodIn_r _ [9, 10, 11, 12, 13, 14, 15, 8, 16, 17, 1, 2, 3, 18, 19, 20, 21, 22, 23, 24, 25, 26, 27, 28, 29, 30, 31, 32, 4, 33, 34, 35, 36, 37, 38, 39, 40, 41, 42, 43, 44, 45, 46, 47, 48, 71, 72, 73, 74, 75, 76, 77, 78, 79, 80, 81, 82, 83, 84, 85, 86, 87, 88, 89, 90] (by decide +kernel) (by decide +kernel)
set_option maxRecDepth 20000 in
theorem gX3_solveThrough_X3_solve : GoodIn wsX3_solveThrough (wsV RX3 82 RX3 yX3_solve wsX3_solve) := goodIn_app (goodIn_of _ (by decide +kernel)) ggX3_solveThrough_X3_solve
set_option maxRecDepth 20000 in
theorem ggX3_solveThrough_X3_numberOf : GoodIn wsX3_solveThrough wsX3_numberOf := goodIn_r _ [52, 10, 11, 12, 71, 72, 73, 74, 75, 76, 77, 78] (by decide +kernel) (by decide +kernel)
set_option maxRecDepth 20000 in
theorem gX3_solveThrough_X3_numberOf : GoodIn wsX3_solveThrough (wsV RX3 86 RX3 yX3_numberOf wsX3_numberOf) := goodIn_app (goodIn_of _ (by decide +kernel)) ggX3_solveThrough_X3_numberOf
set_option maxRecDepth 20000 in
theorem ggX3_solveThrough_X0_set : GoodIn wsX3_solveThrough wsX0_set := goodIn_r _ [57, 58, 59, 91, 92] (by decide +kernel) (by decide +kernel)
set_option maxRecDepth 20000 in
theorem gX3_solveThrough_X0_set : GoodIn wsX3_solveThrough (wsV RX3 78 RX0 yX0_set wsX0_set) := goodIn_app (goodIn_of _ (by decide +kernel)) ggX3_solveThrough_X0_set
set_option maxRecDepth 20000 in
theorem ggX3_solveThrough_X0_reduce : GoodIn wsX3_solveThrough wsX0_reduce := goodIn_r _ [63, 58, 64, 65, 66, 67, 59, 68, 69, 56, 70, 91, 92] (by decide +kernel) (by decide +kernel)
set_option maxRecDepth 20000 in
theorem gX3_solveThrough_X0_reduce : GoodIn wsX3_solveThrough (wsV RX3 90 RX0 yX0_reduce wsX0_reduce) := goodIn_app (goodIn_of _ (by decide +kernel)) ggX3_solveThrough_X0_reduce
theorem dX3_solveThrough_0 : decode cX3_solveThrough 0 = .ok (.aload_n 0, 1) := by decide +kernel
theorem dX3_solveThrough_1 : decode cX3_solveThrough 1 = .ok (.iload_n 2, 1) := by decide +kernel
theorem dX3_solveThrough_2 : decode cX3_solveThrough 2 = .ok (.iload_n 3, 1) := by decide +kernel
theorem dX3_solveThrough_3 : decode cX3_solveThrough 3 = .ok (.invokevirtual 82, 3) := by decide +kernel
theorem dX3_solveThrough_6 : decode cX3_solveThrough 6 = .ok (.lstore 5, 2) := by decide +kernel
theorem dX3_solveThrough_8 : decode cX3_solveThrough 8 = .ok (.aload_n 0, 1) := by decide +kernel
theorem dX3_solveThrough_9 : decode cX3_solveThrough 9 = .ok (.aload_n 0, 1) := by decide +kernel
theorem dX3_solveThrough_10 : decode cX3_solveThrough 10 = .ok (.getfield 11, 3) := by decide +kernel
theorem dX3_solveThrough_13 : decode cX3_solveThrough 13 = .ok (.iload_n 1, 1) := by decide +kernel
theorem dX3_solveThrough_14 : decode cX3_solveThrough 14 = .ok (.aaload, 1) := by decide +kernel
theorem dX3_solveThrough_15 : decode cX3_solveThrough 15 = .ok (.getfield 64, 3) := by decide +kernel
theorem dX3_solveThrough_18 : decode cX3_solveThrough 18 = .ok (.invokevirtual 86, 3) := by decide +kernel
theorem dX3_solveThrough_21 : decode cX3_solveThrough 21 = .ok (.aload_n 0, 1) := by decide +kernel
theorem dX3_solveThrough_22 : decode cX3_solveThrough 22 = .ok (.aload_n 0, 1) := by decide +kernel
theorem dX3_solveThrough_23 : decode cX3_solveThrough 23 = .ok (.getfield 11, 3) := by decide +kernel
theorem dX3_solveThrough_26 : decode cX3_solveThrough 26 = .ok (.iload_n 1, 1) := by decide +kernel
theorem dX3_solveThrough_27 : decode cX3_solveThrough 27 = .ok (.aaload, 1) := by decide +kernel
theorem dX3_solveThrough_28 : decode cX3_solveThrough 28 = .ok (.getfield 67, 3) := by decide +kernel
theorem dX3_solveThrough_31 : decode cX3_solveThrough 31 = .ok (.invokevirtual 86, 3) := by decide +kernel
theorem dX3_solveThrough_34 : decode cX3_solveThrough 34 = .ok (.lsub, 1) := by decide +kernel
theorem dX3_solveThrough_35 : decode cX3_solveThrough 35 = .ok (.lstore 7, 2) := by decide +kernel
theorem dX3_solveThrough_37 : decode cX3_solveThrough 37 = .ok (.aload 4, 2) := by decide +kernel
theorem dX3_solveThrough_39 : decode cX3_solveThrough 39 = .ok (.lload 7, 2) := by decide +kernel
theorem dX3_solveThrough_41 : decode cX3_solveThrough 41 = .ok (.aload_n 0, 1) := by decide +kernel
theorem dX3_solveThrough_42 : decode cX3_solveThrough 42 = .ok (.getfield 17, 3) := by decide +kernel
theorem dX3_solveThrough_45 : decode cX3_solveThrough 45 = .ok (.iload_n 1, 1) := by decide +kernel
theorem dX3_solveThrough_46 : decode cX3_solveThrough 46 = .ok (.laload, 1) := by decide +kernel
theorem dX3_solveThrough_47 : decode cX3_solveThrough 47 = .ok (.lmul, 1) := by decide +kernel
theorem dX3_solveThrough_48 : decode cX3_solveThrough 48 = .ok (.lload 5, 2) := by decide +kernel
theorem dX3_solveThrough_50 : decode cX3_solveThrough 50 = .ok (.invokevirtual 78, 3) := by decide +kernel
theorem dX3_solveThrough_53 : decode cX3_solveThrough 53 = .ok (.aload 4, 2) := by decide +kernel
theorem dX3_solveThrough_55 : decode cX3_solveThrough 55 = .ok (.invokevirtual 90, 3) := by decide +kernel
theorem dX3_solveThrough_58 : decode cX3_solveThrough 58 = .ok (.return_, 1) := by decide +kernel
set_option maxRecDepth 20000 in
theorem ggX3_solve_X3_reachedFrom : GoodIn wsX3_solve wsX3_reachedFrom := goodIn_r _ [8, 9, 10, 11, 12, 13, 14, 15, 16, 17, 18, 19, 20, 21, 22, 23, 45, 46, 47, 48, 49, 50, 51, 52, 53, 54, 55, 56, 57, 58, 59, 60, 61, 62, 63, 64] (by decide +kernel) (by decide +kernel)
set_option maxRecDepth 20000 in
theorem gX3_solve_X3_reachedFrom : GoodIn wsX3_solve (wsV RX3 70 RX3 yX3_reachedFrom wsX3_reachedFrom) := goodIn_app (goodIn_of _ (by decide +kernel)) ggX3_solve_X3_reachedFrom
set_option maxRecDepth 20000 in
theorem ggX3_solve_X3_layLines : GoodIn wsX3_solve wsX3_layLines := goodIn_r _ [27, 3, 2, 9, 1, 10, 11, 12, 28, 29, 30, 31, 7, 32, 33, 34, 35, 36, 45, 46, 47, 48, 49, 50, 51, 52, 53, 54, 55, 56, 57, 58, 59, 60, 61, 62, 63, 64] (by decide +kernel) (by decide +kernel)
set_option maxRecDepth 20000 in
theorem gX3_solve_X3_layLines : GoodIn wsX3_solve (wsV RX3 93 RX3 yX3_layLines wsX3_layLines) := goodIn_app (goodIn_of _ (by decide +kernel)) ggX3_solve_X3_layLines
set_option maxRecDepth 20000 in
theorem ggX3_solve_X3_eliminate : GoodIn wsX3_solve wsX3_eliminate := goodIn_r _ [40, 3, 2, 41, 42, 43, 7, 44, 45, 46, 47, 48, 49, 50, 51, 52] (by decide +kernel) (by decide +kernel)
set_option maxRecDepth 20000 in
theorem gX3_solve_X3_eliminate : GoodIn wsX3_solve (wsV RX3 97 RX3 yX3_eliminate wsX3_eliminate) := goodIn_app (goodIn_of _ (by decide +kernel)) ggX3_solve_X3_eliminate
theorem dX3_solve_0 : decode cX3_solve 0 = .ok (.aload_n 0, 1) := by decide +kernel
theorem dX3_solve_1 : decode cX3_solve 1 = .ok (.aload_n 0, 1) := by decide +kernel
theorem dX3_solve_2 : decode cX3_solve 2 = .ok (.iload_n 1, 1) := by decide +kernel
theorem dX3_solve_3 : decode cX3_solve 3 = .ok (.invokevirtual 70, 3) := by decide +kernel
theorem dX3_solve_6 : decode cX3_solve 6 = .ok (.iload_n 2, 1) := by decide +kernel
theorem dX3_solve_7 : decode cX3_solve 7 = .ok (.iconst 0, 1) := by decide +kernel
theorem dX3_solve_8 : decode cX3_solve 8 = .ok (.invokevirtual 93, 3) := by decide +kernel
theorem dX3_solve_11 : decode cX3_solve 11 = .ok (.aload_n 0, 1) := by decide +kernel
theorem dX3_solve_12 : decode cX3_solve 12 = .ok (.getfield 41, 3) := by decide +kernel
theorem dX3_solve_15 : decode cX3_solve 15 = .ok (.iload_n 1, 1) := by decide +kernel
theorem dX3_solve_16 : decode cX3_solve 16 = .ok (.iaload, 1) := by decide +kernel
theorem dX3_solve_17 : decode cX3_solve 17 = .ok (.istore_n 3, 1) := by decide +kernel
theorem dX3_solve_18 : decode cX3_solve 18 = .ok (.iload_n 3, 1) := by decide +kernel
theorem dX3_solve_19 : decode cX3_solve 19 = .ok (.ifCond .lt 15, 3) := by decide +kernel
theorem dX3_solve_22 : decode cX3_solve 22 = .ok (.aload_n 0, 1) := by decide +kernel
theorem dX3_solve_23 : decode cX3_solve 23 = .ok (.getfield 38, 3) := by decide +kernel
theorem dX3_solve_26 : decode cX3_solve 26 = .ok (.iload_n 3, 1) := by decide +kernel
theorem dX3_solve_27 : decode cX3_solve 27 = .ok (.aaload, 1) := by decide +kernel
theorem dX3_solve_28 : decode cX3_solve 28 = .ok (.aload_n 0, 1) := by decide +kernel
theorem dX3_solve_29 : decode cX3_solve 29 = .ok (.getfield 44, 3) := by decide +kernel
theorem dX3_solve_32 : decode cX3_solve 32 = .ok (.lconst 1, 1) := by decide +kernel
theorem dX3_solve_33 : decode cX3_solve 33 = .ok (.lastore, 1) := by decide +kernel
theorem dX3_solve_34 : decode cX3_solve 34 = .ok (.aload_n 0, 1) := by decide +kernel
theorem dX3_solve_35 : decode cX3_solve 35 = .ok (.invokevirtual 97, 3) := by decide +kernel
theorem dX3_solve_38 : decode cX3_solve 38 = .ok (.lreturn, 1) := by decide +kernel
theorem dX3_numberOf_0 : decode cX3_numberOf 0 = .ok (.aload_n 0, 1) := by decide +kernel
theorem dX3_numberOf_1 : decode cX3_numberOf 1 = .ok (.getfield 41, 3) := by decide +kernel
theorem dX3_numberOf_4 : decode cX3_numberOf 4 = .ok (.iload_n 1, 1) := by decide +kernel
theorem dX3_numberOf_5 : decode cX3_numberOf 5 = .ok (.iaload, 1) := by decide +kernel
theorem dX3_numberOf_6 : decode cX3_numberOf 6 = .ok (.istore_n 2, 1) := by decide +kernel
theorem dX3_numberOf_7 : decode cX3_numberOf 7 = .ok (.iload_n 2, 1) := by decide +kernel
theorem dX3_numberOf_8 : decode cX3_numberOf 8 = .ok (.ifCond .ge 7, 3) := by decide +kernel
theorem dX3_numberOf_11 : decode cX3_numberOf 11 = .ok (.lconst 0, 1) := by decide +kernel
theorem dX3_numberOf_12 : decode cX3_numberOf 12 = .ok (.goto 14, 3) := by decide +kernel
theorem dX3_numberOf_15 : decode cX3_numberOf 15 = .ok (.aload_n 0, 1) := by decide +kernel
theorem dX3_numberOf_16 : decode cX3_numberOf 16 = .ok (.getfield 38, 3) := by decide +kernel
theorem dX3_numberOf_19 : decode cX3_numberOf 19 = .ok (.iload_n 2, 1) := by decide +kernel
theorem dX3_numberOf_20 : decode cX3_numberOf 20 = .ok (.aaload, 1) := by decide +kernel
theorem dX3_numberOf_21 : decode cX3_numberOf 21 = .ok (.aload_n 0, 1) := by decide +kernel
theorem dX3_numberOf_22 : decode cX3_numberOf 22 = .ok (.getfield 44, 3) := by decide +kernel
theorem dX3_numberOf_25 : decode cX3_numberOf 25 = .ok (.laload, 1) := by decide +kernel
theorem dX3_numberOf_26 : decode cX3_numberOf 26 = .ok (.lreturn, 1) := by decide +kernel
set_option maxRecDepth 20000 in
theorem ggX3_countTrees_X3_knotsWithWires : GoodIn wsX3_countTrees wsX3_knotsWithWires := goodIn_r _ [5, 6, 7, 8, 9, 39, 40, 41, 42, 43, 44, 45, 46, 47, 48, 49, 50, 51, 52, 53, 54, 55, 56, 57, 58] (by decide +kernel) (by decide +kernel)
set_option maxRecDepth 20000 in
theorem gX3_countTrees_X3_knotsWithWires : GoodIn wsX3_countTrees (wsV RX3 101 RX3 yX3_knotsWithWires wsX3_knotsWithWires) := goodIn_app (goodIn_of _ (by decide +kernel)) ggX3_countTrees_X3_knotsWithWires
set_option maxRecDepth 20000 in
theorem ggX3_countTrees_J6_numberOfTrailingZeros_0f7a4 : GoodIn wsX3_countTrees wsJ6_numberOfTrailingZeros_0f7a4 := goodIn_r _ [13, 14] (by decide +kernel) (by decide +kernel)
set_option maxRecDepth 20000 in
theorem gX3_countTrees_J6_numberOfTrailingZeros_0f7a4 : GoodIn wsX3_countTrees (va_wsS RX3 105 yJ6_numberOfTrailingZeros_0f7a4 wsJ6_numberOfTrailingZeros_0f7a4) := goodIn_app (goodIn_of _ (by decide +kernel)) ggX3_countTrees_J6_numberOfTrailingZeros_0f7a4
set_option maxRecDepth 20000 in
theorem ggX3_countTrees_X3_layLines : GoodIn wsX3_countTrees wsX3_layLines := goodIn_r _ [18, 19, 20, 6, 21, 7, 8, 9, 22, 23, 24, 25, 4, 26, 27, 28, 29, 30, 39, 40, 41, 42, 43, 44, 45, 46, 47, 48, 49, 50, 51, 52, 53, 54, 55, 56, 57, 58] (by decide +kernel) (by decide +kernel)
set_option maxRecDepth 20000 in
theorem gX3_countTrees_X3_layLines : GoodIn wsX3_countTrees (wsV RX3 93 RX3 yX3_layLines wsX3_layLines) := goodIn_app (goodIn_of _ (by decide +kernel)) ggX3_countTrees_X3_layLines
set_option maxRecDepth 20000 in
theorem ggX3_countTrees_X3_eliminate : GoodIn wsX3_countTrees wsX3_eliminate := goodIn_r _ [34, 19, 20, 35, 36, 37, 4, 38, 39, 40, 41, 42, 43, 44, 45, 46] (by decide +kernel) (by decide +kernel)
set_option maxRecDepth 20000 in
theorem gX3_countTrees_X3_eliminate : GoodIn wsX3_countTrees (wsV RX3 97 RX3 yX3_eliminate wsX3_eliminate) := goodIn_app (goodIn_of _ (by decide +kernel)) ggX3_countTrees_X3_eliminate
theorem dX3_countTrees_0 : decode cX3_countTrees 0 = .ok (.aload_n 0, 1) := by decide +kernel
theorem dX3_countTrees_1 : decode cX3_countTrees 1 = .ok (.invokevirtual 101, 3) := by decide +kernel
theorem dX3_countTrees_4 : decode cX3_countTrees 4 = .ok (.istore_n 1, 1) := by decide +kernel
theorem dX3_countTrees_5 : decode cX3_countTrees 5 = .ok (.iload_n 1, 1) := by decide +kernel
theorem dX3_countTrees_6 : decode cX3_countTrees 6 = .ok (.ifCond .ne 5, 3) := by decide +kernel
theorem dX3_countTrees_9 : decode cX3_countTrees 9 = .ok (.iconst 1, 1) := by decide +kernel
theorem dX3_countTrees_10 : decode cX3_countTrees 10 = .ok (.ireturn, 1) := by decide +kernel
theorem dX3_countTrees_11 : decode cX3_countTrees 11 = .ok (.aload_n 0, 1) := by decide +kernel
theorem dX3_countTrees_12 : decode cX3_countTrees 12 = .ok (.iload_n 1, 1) := by decide +kernel
theorem dX3_countTrees_13 : decode cX3_countTrees 13 = .ok (.iload_n 1, 1) := by decide +kernel
theorem dX3_countTrees_14 : decode cX3_countTrees 14 = .ok (.invokestatic 105, 3) := by decide +kernel
theorem dX3_countTrees_17 : decode cX3_countTrees 17 = .ok (.iconst 1, 1) := by decide +kernel
theorem dX3_countTrees_18 : decode cX3_countTrees 18 = .ok (.invokevirtual 93, 3) := by decide +kernel
theorem dX3_countTrees_21 : decode cX3_countTrees 21 = .ok (.aload_n 0, 1) := by decide +kernel
theorem dX3_countTrees_22 : decode cX3_countTrees 22 = .ok (.invokevirtual 97, 3) := by decide +kernel
theorem dX3_countTrees_25 : decode cX3_countTrees 25 = .ok (.l2i, 1) := by decide +kernel
theorem dX3_countTrees_26 : decode cX3_countTrees 26 = .ok (.ireturn, 1) := by decide +kernel
set_option maxRecDepth 20000 in
theorem ggX3_layLines_X3_numberLines : GoodIn wsX3_layLines wsX3_numberLines := goodIn_r _ [13, 1, 4, 18, 19, 20, 21, 22, 23, 24, 25] (by decide +kernel) (by decide +kernel)
set_option maxRecDepth 20000 in
theorem gX3_layLines_X3_numberLines : GoodIn wsX3_layLines (wsV RX3 110 RX3 yX3_numberLines wsX3_numberLines) := goodIn_app (goodIn_of _ (by decide +kernel)) ggX3_layLines_X3_numberLines
set_option maxRecDepth 20000 in
theorem ggX3_layLines_X3_layEnd : GoodIn wsX3_layLines wsX3_layEnd := goodIn_r _ [17, 2, 18, 19, 20, 21, 22, 23, 24, 25] (by decide +kernel) (by decide +kernel)
set_option maxRecDepth 20000 in
theorem gX3_layLines_X3_layEnd : GoodIn wsX3_layLines (wsV RX3 114 RX3 yX3_layEnd wsX3_layEnd) := goodIn_app (goodIn_of _ (by decide +kernel)) ggX3_layLines_X3_layEnd
theorem dX3_layLines_0 : decode cX3_layLines 0 = .ok (.aload_n 0, 1) := by decide +kernel
theorem dX3_layLines_1 : decode cX3_layLines 1 = .ok (.iload_n 1, 1) := by decide +kernel
theorem dX3_layLines_2 : decode cX3_layLines 2 = .ok (.iconst 1, 1) := by decide +kernel
theorem dX3_layLines_3 : decode cX3_layLines 3 = .ok (.iload_n 2, 1) := by decide +kernel
theorem dX3_layLines_4 : decode cX3_layLines 4 = .ok (.ishl, 1) := by decide +kernel
theorem dX3_layLines_5 : decode cX3_layLines 5 = .ok (.iconst (-1), 1) := by decide +kernel
theorem dX3_layLines_6 : decode cX3_layLines 6 = .ok (.ixor, 1) := by decide +kernel
theorem dX3_layLines_7 : decode cX3_layLines 7 = .ok (.iand, 1) := by decide +kernel
theorem dX3_layLines_8 : decode cX3_layLines 8 = .ok (.invokevirtual 110, 3) := by decide +kernel
theorem dX3_layLines_11 : decode cX3_layLines 11 = .ok (.iconst 0, 1) := by decide +kernel
theorem dX3_layLines_12 : decode cX3_layLines 12 = .ok (.istore 4, 2) := by decide +kernel
theorem dX3_layLines_14 : decode cX3_layLines 14 = .ok (.iload 4, 2) := by decide +kernel
theorem dX3_layLines_16 : decode cX3_layLines 16 = .ok (.aload_n 0, 1) := by decide +kernel
theorem dX3_layLines_17 : decode cX3_layLines 17 = .ok (.getfield 44, 3) := by decide +kernel
theorem dX3_layLines_20 : decode cX3_layLines 20 = .ok (.if_icmp .ge 38, 3) := by decide +kernel
theorem dX3_layLines_23 : decode cX3_layLines 23 = .ok (.iconst 0, 1) := by decide +kernel
theorem dX3_layLines_24 : decode cX3_layLines 24 = .ok (.istore 5, 2) := by decide +kernel
theorem dX3_layLines_26 : decode cX3_layLines 26 = .ok (.iload 5, 2) := by decide +kernel
theorem dX3_layLines_28 : decode cX3_layLines 28 = .ok (.aload_n 0, 1) := by decide +kernel
theorem dX3_layLines_29 : decode cX3_layLines 29 = .ok (.getfield 44, 3) := by decide +kernel
theorem dX3_layLines_32 : decode cX3_layLines 32 = .ok (.if_icmp .gt 20, 3) := by decide +kernel
theorem dX3_layLines_35 : decode cX3_layLines 35 = .ok (.aload_n 0, 1) := by decide +kernel
theorem dX3_layLines_36 : decode cX3_layLines 36 = .ok (.getfield 38, 3) := by decide +kernel
theorem dX3_layLines_39 : decode cX3_layLines 39 = .ok (.iload 4, 2) := by decide +kernel
theorem dX3_layLines_41 : decode cX3_layLines 41 = .ok (.aaload, 1) := by decide +kernel
theorem dX3_layLines_42 : decode cX3_layLines 42 = .ok (.iload 5, 2) := by decide +kernel
theorem dX3_layLines_44 : decode cX3_layLines 44 = .ok (.lconst 0, 1) := by decide +kernel
theorem dX3_layLines_45 : decode cX3_layLines 45 = .ok (.lastore, 1) := by decide +kernel
theorem dX3_layLines_46 : decode cX3_layLines 46 = .ok (.iinc 5 1, 3) := by decide +kernel
theorem dX3_layLines_49 : decode cX3_layLines 49 = .ok (.goto (-23), 3) := by decide +kernel
theorem dX3_layLines_52 : decode cX3_layLines 52 = .ok (.iinc 4 1, 3) := by decide +kernel
theorem dX3_layLines_55 : decode cX3_layLines 55 = .ok (.goto (-41), 3) := by decide +kernel
theorem dX3_layLines_58 : decode cX3_layLines 58 = .ok (.iconst 0, 1) := by decide +kernel
theorem dX3_layLines_59 : decode cX3_layLines 59 = .ok (.istore 4, 2) := by decide +kernel
theorem dX3_layLines_61 : decode cX3_layLines 61 = .ok (.iload 4, 2) := by decide +kernel
theorem dX3_layLines_63 : decode cX3_layLines 63 = .ok (.aload_n 0, 1) := by decide +kernel
theorem dX3_layLines_64 : decode cX3_layLines 64 = .ok (.getfield 21, 3) := by decide +kernel
theorem dX3_layLines_67 : decode cX3_layLines 67 = .ok (.if_icmp .ge 80, 3) := by decide +kernel
theorem dX3_layLines_70 : decode cX3_layLines 70 = .ok (.aload_n 0, 1) := by decide +kernel
theorem dX3_layLines_71 : decode cX3_layLines 71 = .ok (.getfield 41, 3) := by decide +kernel
theorem dX3_layLines_74 : decode cX3_layLines 74 = .ok (.aload_n 0, 1) := by decide +kernel
theorem dX3_layLines_75 : decode cX3_layLines 75 = .ok (.getfield 11, 3) := by decide +kernel
theorem dX3_layLines_78 : decode cX3_layLines 78 = .ok (.iload 4, 2) := by decide +kernel
theorem dX3_layLines_80 : decode cX3_layLines 80 = .ok (.aaload, 1) := by decide +kernel
theorem dX3_layLines_81 : decode cX3_layLines 81 = .ok (.getfield 64, 3) := by decide +kernel
theorem dX3_layLines_84 : decode cX3_layLines 84 = .ok (.iaload, 1) := by decide +kernel
theorem dX3_layLines_85 : decode cX3_layLines 85 = .ok (.istore 5, 2) := by decide +kernel
theorem dX3_layLines_87 : decode cX3_layLines 87 = .ok (.aload_n 0, 1) := by decide +kernel
theorem dX3_layLines_88 : decode cX3_layLines 88 = .ok (.getfield 41, 3) := by decide +kernel
theorem dX3_layLines_91 : decode cX3_layLines 91 = .ok (.aload_n 0, 1) := by decide +kernel
theorem dX3_layLines_92 : decode cX3_layLines 92 = .ok (.getfield 11, 3) := by decide +kernel
theorem dX3_layLines_95 : decode cX3_layLines 95 = .ok (.iload 4, 2) := by decide +kernel
theorem dX3_layLines_97 : decode cX3_layLines 97 = .ok (.aaload, 1) := by decide +kernel
theorem dX3_layLines_98 : decode cX3_layLines 98 = .ok (.getfield 67, 3) := by decide +kernel
theorem dX3_layLines_101 : decode cX3_layLines 101 = .ok (.iaload, 1) := by decide +kernel
theorem dX3_layLines_102 : decode cX3_layLines 102 = .ok (.istore 6, 2) := by decide +kernel
theorem dX3_layLines_104 : decode cX3_layLines 104 = .ok (.iload_n 3, 1) := by decide +kernel
theorem dX3_layLines_105 : decode cX3_layLines 105 = .ok (.ifCond .eq 7, 3) := by decide +kernel
theorem dX3_layLines_108 : decode cX3_layLines 108 = .ok (.lconst 1, 1) := by decide +kernel
theorem dX3_layLines_109 : decode cX3_layLines 109 = .ok (.goto 10, 3) := by decide +kernel
theorem dX3_layLines_112 : decode cX3_layLines 112 = .ok (.aload_n 0, 1) := by decide +kernel
theorem dX3_layLines_113 : decode cX3_layLines 113 = .ok (.getfield 17, 3) := by decide +kernel
theorem dX3_layLines_116 : decode cX3_layLines 116 = .ok (.iload 4, 2) := by decide +kernel
theorem dX3_layLines_118 : decode cX3_layLines 118 = .ok (.laload, 1) := by decide +kernel
theorem dX3_layLines_119 : decode cX3_layLines 119 = .ok (.lstore 7, 2) := by decide +kernel
theorem dX3_layLines_121 : decode cX3_layLines 121 = .ok (.aload_n 0, 1) := by decide +kernel
theorem dX3_layLines_122 : decode cX3_layLines 122 = .ok (.iload 5, 2) := by decide +kernel
theorem dX3_layLines_124 : decode cX3_layLines 124 = .ok (.iload 6, 2) := by decide +kernel
theorem dX3_layLines_126 : decode cX3_layLines 126 = .ok (.lload 7, 2) := by decide +kernel
theorem dX3_layLines_128 : decode cX3_layLines 128 = .ok (.invokevirtual 114, 3) := by decide +kernel
theorem dX3_layLines_131 : decode cX3_layLines 131 = .ok (.aload_n 0, 1) := by decide +kernel
theorem dX3_layLines_132 : decode cX3_layLines 132 = .ok (.iload 6, 2) := by decide +kernel
theorem dX3_layLines_134 : decode cX3_layLines 134 = .ok (.iload 5, 2) := by decide +kernel
theorem dX3_layLines_136 : decode cX3_layLines 136 = .ok (.lload 7, 2) := by decide +kernel
theorem dX3_layLines_138 : decode cX3_layLines 138 = .ok (.invokevirtual 114, 3) := by decide +kernel
theorem dX3_layLines_141 : decode cX3_layLines 141 = .ok (.iinc 4 1, 3) := by decide +kernel
theorem dX3_layLines_144 : decode cX3_layLines 144 = .ok (.goto (-83), 3) := by decide +kernel
theorem dX3_layLines_147 : decode cX3_layLines 147 = .ok (.return_, 1) := by decide +kernel
theorem dX3_numberLines_0 : decode cX3_numberLines 0 = .ok (.aload_n 0, 1) := by decide +kernel
theorem dX3_numberLines_1 : decode cX3_numberLines 1 = .ok (.iconst 0, 1) := by decide +kernel
theorem dX3_numberLines_2 : decode cX3_numberLines 2 = .ok (.putfield 44, 3) := by decide +kernel
theorem dX3_numberLines_5 : decode cX3_numberLines 5 = .ok (.iconst 0, 1) := by decide +kernel
theorem dX3_numberLines_6 : decode cX3_numberLines 6 = .ok (.istore_n 2, 1) := by decide +kernel
theorem dX3_numberLines_7 : decode cX3_numberLines 7 = .ok (.iload_n 2, 1) := by decide +kernel
theorem dX3_numberLines_8 : decode cX3_numberLines 8 = .ok (.bipush 6, 2) := by decide +kernel
theorem dX3_numberLines_10 : decode cX3_numberLines 10 = .ok (.if_icmp .ge 48, 3) := by decide +kernel
theorem dX3_numberLines_13 : decode cX3_numberLines 13 = .ok (.iload_n 1, 1) := by decide +kernel
theorem dX3_numberLines_14 : decode cX3_numberLines 14 = .ok (.iload_n 2, 1) := by decide +kernel
theorem dX3_numberLines_15 : decode cX3_numberLines 15 = .ok (.ishr, 1) := by decide +kernel
theorem dX3_numberLines_16 : decode cX3_numberLines 16 = .ok (.iconst 1, 1) := by decide +kernel
theorem dX3_numberLines_17 : decode cX3_numberLines 17 = .ok (.iand, 1) := by decide +kernel
theorem dX3_numberLines_18 : decode cX3_numberLines 18 = .ok (.iconst 1, 1) := by decide +kernel
theorem dX3_numberLines_19 : decode cX3_numberLines 19 = .ok (.if_icmp .ne 26, 3) := by decide +kernel
theorem dX3_numberLines_22 : decode cX3_numberLines 22 = .ok (.aload_n 0, 1) := by decide +kernel
theorem dX3_numberLines_23 : decode cX3_numberLines 23 = .ok (.getfield 41, 3) := by decide +kernel
theorem dX3_numberLines_26 : decode cX3_numberLines 26 = .ok (.iload_n 2, 1) := by decide +kernel
theorem dX3_numberLines_27 : decode cX3_numberLines 27 = .ok (.aload_n 0, 1) := by decide +kernel
theorem dX3_numberLines_28 : decode cX3_numberLines 28 = .ok (.getfield 44, 3) := by decide +kernel
theorem dX3_numberLines_31 : decode cX3_numberLines 31 = .ok (.iastore, 1) := by decide +kernel
theorem dX3_numberLines_32 : decode cX3_numberLines 32 = .ok (.aload_n 0, 1) := by decide +kernel
theorem dX3_numberLines_33 : decode cX3_numberLines 33 = .ok (.dup, 1) := by decide +kernel
theorem dX3_numberLines_34 : decode cX3_numberLines 34 = .ok (.getfield 44, 3) := by decide +kernel
theorem dX3_numberLines_37 : decode cX3_numberLines 37 = .ok (.iconst 1, 1) := by decide +kernel
theorem dX3_numberLines_38 : decode cX3_numberLines 38 = .ok (.iadd, 1) := by decide +kernel
theorem dX3_numberLines_39 : decode cX3_numberLines 39 = .ok (.putfield 44, 3) := by decide +kernel
theorem dX3_numberLines_42 : decode cX3_numberLines 42 = .ok (.goto 10, 3) := by decide +kernel
theorem dX3_numberLines_45 : decode cX3_numberLines 45 = .ok (.aload_n 0, 1) := by decide +kernel
theorem dX3_numberLines_46 : decode cX3_numberLines 46 = .ok (.getfield 41, 3) := by decide +kernel
theorem dX3_numberLines_49 : decode cX3_numberLines 49 = .ok (.iload_n 2, 1) := by decide +kernel
theorem dX3_numberLines_50 : decode cX3_numberLines 50 = .ok (.iconst (-1), 1) := by decide +kernel
theorem dX3_numberLines_51 : decode cX3_numberLines 51 = .ok (.iastore, 1) := by decide +kernel
theorem dX3_numberLines_52 : decode cX3_numberLines 52 = .ok (.iinc 2 1, 3) := by decide +kernel
theorem dX3_numberLines_55 : decode cX3_numberLines 55 = .ok (.goto (-48), 3) := by decide +kernel
theorem dX3_numberLines_58 : decode cX3_numberLines 58 = .ok (.return_, 1) := by decide +kernel
theorem dX3_layEnd_0 : decode cX3_layEnd 0 = .ok (.iload_n 1, 1) := by decide +kernel
theorem dX3_layEnd_1 : decode cX3_layEnd 1 = .ok (.ifCond .ge 4, 3) := by decide +kernel
theorem dX3_layEnd_4 : decode cX3_layEnd 4 = .ok (.return_, 1) := by decide +kernel
theorem dX3_layEnd_5 : decode cX3_layEnd 5 = .ok (.aload_n 0, 1) := by decide +kernel
theorem dX3_layEnd_6 : decode cX3_layEnd 6 = .ok (.getfield 38, 3) := by decide +kernel
theorem dX3_layEnd_9 : decode cX3_layEnd 9 = .ok (.iload_n 1, 1) := by decide +kernel
theorem dX3_layEnd_10 : decode cX3_layEnd 10 = .ok (.aaload, 1) := by decide +kernel
theorem dX3_layEnd_11 : decode cX3_layEnd 11 = .ok (.iload_n 1, 1) := by decide +kernel
theorem dX3_layEnd_12 : decode cX3_layEnd 12 = .ok (.dup2, 1) := by decide +kernel
theorem dX3_layEnd_13 : decode cX3_layEnd 13 = .ok (.laload, 1) := by decide +kernel
theorem dX3_layEnd_14 : decode cX3_layEnd 14 = .ok (.lload_n 3, 1) := by decide +kernel
theorem dX3_layEnd_15 : decode cX3_layEnd 15 = .ok (.ladd, 1) := by decide +kernel
theorem dX3_layEnd_16 : decode cX3_layEnd 16 = .ok (.lastore, 1) := by decide +kernel
theorem dX3_layEnd_17 : decode cX3_layEnd 17 = .ok (.iload_n 2, 1) := by decide +kernel
theorem dX3_layEnd_18 : decode cX3_layEnd 18 = .ok (.ifCond .lt 15, 3) := by decide +kernel
theorem dX3_layEnd_21 : decode cX3_layEnd 21 = .ok (.aload_n 0, 1) := by decide +kernel
theorem dX3_layEnd_22 : decode cX3_layEnd 22 = .ok (.getfield 38, 3) := by decide +kernel
theorem dX3_layEnd_25 : decode cX3_layEnd 25 = .ok (.iload_n 1, 1) := by decide +kernel
theorem dX3_layEnd_26 : decode cX3_layEnd 26 = .ok (.aaload, 1) := by decide +kernel
theorem dX3_layEnd_27 : decode cX3_layEnd 27 = .ok (.iload_n 2, 1) := by decide +kernel
theorem dX3_layEnd_28 : decode cX3_layEnd 28 = .ok (.dup2, 1) := by decide +kernel
theorem dX3_layEnd_29 : decode cX3_layEnd 29 = .ok (.laload, 1) := by decide +kernel
theorem dX3_layEnd_30 : decode cX3_layEnd 30 = .ok (.lload_n 3, 1) := by decide +kernel
theorem dX3_layEnd_31 : decode cX3_layEnd 31 = .ok (.lsub, 1) := by decide +kernel
theorem dX3_layEnd_32 : decode cX3_layEnd 32 = .ok (.lastore, 1) := by decide +kernel
theorem dX3_layEnd_33 : decode cX3_layEnd 33 = .ok (.return_, 1) := by decide +kernel
set_option maxRecDepth 20000 in
theorem ggX3_eliminate_X3_subtract : GoodIn wsX3_eliminate wsX3_subtract := goodIn_r _ [7, 2, 1, 8, 9, 10, 11, 12, 13, 14, 15] (by decide +kernel) (by decide +kernel)
set_option maxRecDepth 20000 in
theorem gX3_eliminate_X3_subtract : GoodIn wsX3_eliminate (wsV RX3 118 RX3 yX3_subtract wsX3_subtract) := goodIn_app (goodIn_of _ (by decide +kernel)) ggX3_eliminate_X3_subtract
theorem dX3_eliminate_0 : decode cX3_eliminate 0 = .ok (.lconst 1, 1) := by decide +kernel
theorem dX3_eliminate_1 : decode cX3_eliminate 1 = .ok (.lstore_n 1, 1) := by decide +kernel
theorem dX3_eliminate_2 : decode cX3_eliminate 2 = .ok (.iconst 0, 1) := by decide +kernel
theorem dX3_eliminate_3 : decode cX3_eliminate 3 = .ok (.istore_n 3, 1) := by decide +kernel
theorem dX3_eliminate_4 : decode cX3_eliminate 4 = .ok (.iload_n 3, 1) := by decide +kernel
theorem dX3_eliminate_5 : decode cX3_eliminate 5 = .ok (.aload_n 0, 1) := by decide +kernel
theorem dX3_eliminate_6 : decode cX3_eliminate 6 = .ok (.getfield 44, 3) := by decide +kernel
theorem dX3_eliminate_9 : decode cX3_eliminate 9 = .ok (.if_icmp .ge 63, 3) := by decide +kernel
theorem dX3_eliminate_12 : decode cX3_eliminate 12 = .ok (.aload_n 0, 1) := by decide +kernel
theorem dX3_eliminate_13 : decode cX3_eliminate 13 = .ok (.getfield 38, 3) := by decide +kernel
theorem dX3_eliminate_16 : decode cX3_eliminate 16 = .ok (.iload_n 3, 1) := by decide +kernel
theorem dX3_eliminate_17 : decode cX3_eliminate 17 = .ok (.aaload, 1) := by decide +kernel
theorem dX3_eliminate_18 : decode cX3_eliminate 18 = .ok (.iload_n 3, 1) := by decide +kernel
theorem dX3_eliminate_19 : decode cX3_eliminate 19 = .ok (.laload, 1) := by decide +kernel
theorem dX3_eliminate_20 : decode cX3_eliminate 20 = .ok (.lstore 4, 2) := by decide +kernel
theorem dX3_eliminate_22 : decode cX3_eliminate 22 = .ok (.lload 4, 2) := by decide +kernel
theorem dX3_eliminate_24 : decode cX3_eliminate 24 = .ok (.lconst 0, 1) := by decide +kernel
theorem dX3_eliminate_25 : decode cX3_eliminate 25 = .ok (.lcmp, 1) := by decide +kernel
theorem dX3_eliminate_26 : decode cX3_eliminate 26 = .ok (.ifCond .ne 5, 3) := by decide +kernel
theorem dX3_eliminate_29 : decode cX3_eliminate 29 = .ok (.lconst 0, 1) := by decide +kernel
theorem dX3_eliminate_30 : decode cX3_eliminate 30 = .ok (.lreturn, 1) := by decide +kernel
theorem dX3_eliminate_31 : decode cX3_eliminate 31 = .ok (.iconst 0, 1) := by decide +kernel
theorem dX3_eliminate_32 : decode cX3_eliminate 32 = .ok (.istore 6, 2) := by decide +kernel
theorem dX3_eliminate_34 : decode cX3_eliminate 34 = .ok (.iload 6, 2) := by decide +kernel
theorem dX3_eliminate_36 : decode cX3_eliminate 36 = .ok (.aload_n 0, 1) := by decide +kernel
theorem dX3_eliminate_37 : decode cX3_eliminate 37 = .ok (.getfield 44, 3) := by decide +kernel
theorem dX3_eliminate_40 : decode cX3_eliminate 40 = .ok (.if_icmp .ge 23, 3) := by decide +kernel
theorem dX3_eliminate_43 : decode cX3_eliminate 43 = .ok (.iload 6, 2) := by decide +kernel
theorem dX3_eliminate_45 : decode cX3_eliminate 45 = .ok (.iload_n 3, 1) := by decide +kernel
theorem dX3_eliminate_46 : decode cX3_eliminate 46 = .ok (.if_icmp .eq 11, 3) := by decide +kernel
theorem dX3_eliminate_49 : decode cX3_eliminate 49 = .ok (.aload_n 0, 1) := by decide +kernel
theorem dX3_eliminate_50 : decode cX3_eliminate 50 = .ok (.iload 6, 2) := by decide +kernel
theorem dX3_eliminate_52 : decode cX3_eliminate 52 = .ok (.iload_n 3, 1) := by decide +kernel
theorem dX3_eliminate_53 : decode cX3_eliminate 53 = .ok (.lload_n 1, 1) := by decide +kernel
theorem dX3_eliminate_54 : decode cX3_eliminate 54 = .ok (.invokevirtual 118, 3) := by decide +kernel
theorem dX3_eliminate_57 : decode cX3_eliminate 57 = .ok (.iinc 6 1, 3) := by decide +kernel
theorem dX3_eliminate_60 : decode cX3_eliminate 60 = .ok (.goto (-26), 3) := by decide +kernel
theorem dX3_eliminate_63 : decode cX3_eliminate 63 = .ok (.lload 4, 2) := by decide +kernel
theorem dX3_eliminate_65 : decode cX3_eliminate 65 = .ok (.lstore_n 1, 1) := by decide +kernel
theorem dX3_eliminate_66 : decode cX3_eliminate 66 = .ok (.iinc 3 1, 3) := by decide +kernel
theorem dX3_eliminate_69 : decode cX3_eliminate 69 = .ok (.goto (-65), 3) := by decide +kernel
theorem dX3_eliminate_72 : decode cX3_eliminate 72 = .ok (.lload_n 1, 1) := by decide +kernel
theorem dX3_eliminate_73 : decode cX3_eliminate 73 = .ok (.lreturn, 1) := by decide +kernel
theorem dX3_subtract_0 : decode cX3_subtract 0 = .ok (.lload_n 3, 1) := by decide +kernel
theorem dX3_subtract_1 : decode cX3_subtract 1 = .ok (.lconst 0, 1) := by decide +kernel
theorem dX3_subtract_2 : decode cX3_subtract 2 = .ok (.lcmp, 1) := by decide +kernel
theorem dX3_subtract_3 : decode cX3_subtract 3 = .ok (.ifCond .ne 4, 3) := by decide +kernel
theorem dX3_subtract_6 : decode cX3_subtract 6 = .ok (.return_, 1) := by decide +kernel
theorem dX3_subtract_7 : decode cX3_subtract 7 = .ok (.aload_n 0, 1) := by decide +kernel
theorem dX3_subtract_8 : decode cX3_subtract 8 = .ok (.getfield 38, 3) := by decide +kernel
theorem dX3_subtract_11 : decode cX3_subtract 11 = .ok (.iload_n 2, 1) := by decide +kernel
theorem dX3_subtract_12 : decode cX3_subtract 12 = .ok (.aaload, 1) := by decide +kernel
theorem dX3_subtract_13 : decode cX3_subtract 13 = .ok (.iload_n 2, 1) := by decide +kernel
theorem dX3_subtract_14 : decode cX3_subtract 14 = .ok (.laload, 1) := by decide +kernel
theorem dX3_subtract_15 : decode cX3_subtract 15 = .ok (.lstore 5, 2) := by decide +kernel
theorem dX3_subtract_17 : decode cX3_subtract 17 = .ok (.aload_n 0, 1) := by decide +kernel
theorem dX3_subtract_18 : decode cX3_subtract 18 = .ok (.getfield 38, 3) := by decide +kernel
theorem dX3_subtract_21 : decode cX3_subtract 21 = .ok (.iload_n 1, 1) := by decide +kernel
theorem dX3_subtract_22 : decode cX3_subtract 22 = .ok (.aaload, 1) := by decide +kernel
theorem dX3_subtract_23 : decode cX3_subtract 23 = .ok (.iload_n 2, 1) := by decide +kernel
theorem dX3_subtract_24 : decode cX3_subtract 24 = .ok (.laload, 1) := by decide +kernel
theorem dX3_subtract_25 : decode cX3_subtract 25 = .ok (.lstore 7, 2) := by decide +kernel
theorem dX3_subtract_27 : decode cX3_subtract 27 = .ok (.iload_n 2, 1) := by decide +kernel
theorem dX3_subtract_28 : decode cX3_subtract 28 = .ok (.iconst 1, 1) := by decide +kernel
theorem dX3_subtract_29 : decode cX3_subtract 29 = .ok (.iadd, 1) := by decide +kernel
theorem dX3_subtract_30 : decode cX3_subtract 30 = .ok (.istore 9, 2) := by decide +kernel
theorem dX3_subtract_32 : decode cX3_subtract 32 = .ok (.iload 9, 2) := by decide +kernel
theorem dX3_subtract_34 : decode cX3_subtract 34 = .ok (.aload_n 0, 1) := by decide +kernel
theorem dX3_subtract_35 : decode cX3_subtract 35 = .ok (.getfield 44, 3) := by decide +kernel
theorem dX3_subtract_38 : decode cX3_subtract 38 = .ok (.if_icmp .gt 45, 3) := by decide +kernel
theorem dX3_subtract_41 : decode cX3_subtract 41 = .ok (.aload_n 0, 1) := by decide +kernel
theorem dX3_subtract_42 : decode cX3_subtract 42 = .ok (.getfield 38, 3) := by decide +kernel
theorem dX3_subtract_45 : decode cX3_subtract 45 = .ok (.iload_n 1, 1) := by decide +kernel
theorem dX3_subtract_46 : decode cX3_subtract 46 = .ok (.aaload, 1) := by decide +kernel
theorem dX3_subtract_47 : decode cX3_subtract 47 = .ok (.iload 9, 2) := by decide +kernel
theorem dX3_subtract_49 : decode cX3_subtract 49 = .ok (.lload 5, 2) := by decide +kernel
theorem dX3_subtract_51 : decode cX3_subtract 51 = .ok (.aload_n 0, 1) := by decide +kernel
theorem dX3_subtract_52 : decode cX3_subtract 52 = .ok (.getfield 38, 3) := by decide +kernel
theorem dX3_subtract_55 : decode cX3_subtract 55 = .ok (.iload_n 1, 1) := by decide +kernel
theorem dX3_subtract_56 : decode cX3_subtract 56 = .ok (.aaload, 1) := by decide +kernel
theorem dX3_subtract_57 : decode cX3_subtract 57 = .ok (.iload 9, 2) := by decide +kernel
theorem dX3_subtract_59 : decode cX3_subtract 59 = .ok (.laload, 1) := by decide +kernel
theorem dX3_subtract_60 : decode cX3_subtract 60 = .ok (.lmul, 1) := by decide +kernel
theorem dX3_subtract_61 : decode cX3_subtract 61 = .ok (.lload 7, 2) := by decide +kernel
theorem dX3_subtract_63 : decode cX3_subtract 63 = .ok (.aload_n 0, 1) := by decide +kernel
theorem dX3_subtract_64 : decode cX3_subtract 64 = .ok (.getfield 38, 3) := by decide +kernel
theorem dX3_subtract_67 : decode cX3_subtract 67 = .ok (.iload_n 2, 1) := by decide +kernel
theorem dX3_subtract_68 : decode cX3_subtract 68 = .ok (.aaload, 1) := by decide +kernel
theorem dX3_subtract_69 : decode cX3_subtract 69 = .ok (.iload 9, 2) := by decide +kernel
theorem dX3_subtract_71 : decode cX3_subtract 71 = .ok (.laload, 1) := by decide +kernel
theorem dX3_subtract_72 : decode cX3_subtract 72 = .ok (.lmul, 1) := by decide +kernel
theorem dX3_subtract_73 : decode cX3_subtract 73 = .ok (.lsub, 1) := by decide +kernel
theorem dX3_subtract_74 : decode cX3_subtract 74 = .ok (.lload_n 3, 1) := by decide +kernel
theorem dX3_subtract_75 : decode cX3_subtract 75 = .ok (.ldiv, 1) := by decide +kernel
theorem dX3_subtract_76 : decode cX3_subtract 76 = .ok (.lastore, 1) := by decide +kernel
theorem dX3_subtract_77 : decode cX3_subtract 77 = .ok (.iinc 9 1, 3) := by decide +kernel
theorem dX3_subtract_80 : decode cX3_subtract 80 = .ok (.goto (-48), 3) := by decide +kernel
theorem dX3_subtract_83 : decode cX3_subtract 83 = .ok (.return_, 1) := by decide +kernel
set_option maxRecDepth 20000 in
theorem ggX3_fallsTogether_X3_reachedFrom : GoodIn wsX3_fallsTogether wsX3_reachedFrom := goodIn_r _ [6, 7, 8, 9, 10, 11, 12, 13, 14, 15, 16, 17, 18, 19, 20, 21, 45, 46, 47, 48, 49, 50, 51, 52, 53, 54, 55, 56, 57, 58, 59, 60, 61, 62, 63, 64] (by decide +kernel) (by decide +kernel)
set_option maxRecDepth 20000 in
theorem gX3_fallsTogether_X3_reachedFrom : GoodIn wsX3_fallsTogether (wsV RX3 70 RX3 yX3_reachedFrom wsX3_reachedFrom) := goodIn_app (goodIn_of _ (by decide +kernel)) ggX3_fallsTogether_X3_reachedFrom
set_option maxRecDepth 20000 in
theorem ggX3_fallsTogether_X3_layNeighbours : GoodIn wsX3_fallsTogether wsX3_layNeighbours := goodIn_r _ [25, 1, 7, 8, 9, 10, 11, 12, 13, 14, 15, 16, 17, 18, 19, 20, 21, 26, 27, 28, 5, 29, 45, 46, 47, 48, 49, 50, 51, 52, 53, 54, 55, 56, 57, 58, 59, 60, 61, 62, 63, 64] (by decide +kernel) (by decide +kernel)
set_option maxRecDepth 20000 in
theorem gX3_fallsTogether_X3_layNeighbours : GoodIn wsX3_fallsTogether (wsV RX3 121 RX3 yX3_layNeighbours wsX3_layNeighbours) := goodIn_app (goodIn_of _ (by decide +kernel)) ggX3_fallsTogether_X3_layNeighbours
set_option maxRecDepth 20000 in
theorem ggX3_fallsTogether_J6_bitCount_0f7a4 : GoodIn wsX3_fallsTogether wsJ6_bitCount_0f7a4 := goodIn_r _ [33, 34, 35, 36] (by decide +kernel) (by decide +kernel)
set_option maxRecDepth 20000 in
theorem gX3_fallsTogether_J6_bitCount_0f7a4 : GoodIn wsX3_fallsTogether (va_wsS RX3 124 yJ6_bitCount_0f7a4 wsJ6_bitCount_0f7a4) := goodIn_app (goodIn_of _ (by decide +kernel)) ggX3_fallsTogether_J6_bitCount_0f7a4
set_option maxRecDepth 20000 in
theorem ggX3_fallsTogether_X3_takeAway : GoodIn wsX3_fallsTogether wsX3_takeAway := goodIn_r _ [40, 1, 30, 31, 32, 33, 34, 35, 36, 41, 42, 43, 44, 26, 27, 28, 5, 29, 45, 46, 47, 48, 49, 50, 51, 52] (by decide +kernel) (by decide +kernel)
set_option maxRecDepth 20000 in
theorem gX3_fallsTogether_X3_takeAway : GoodIn wsX3_fallsTogether (wsV RX3 127 RX3 yX3_takeAway wsX3_takeAway) := goodIn_app (goodIn_of _ (by decide +kernel)) ggX3_fallsTogether_X3_takeAway
theorem dX3_fallsTogether_0 : decode cX3_fallsTogether 0 = .ok (.aload_n 0, 1) := by decide +kernel
theorem dX3_fallsTogether_1 : decode cX3_fallsTogether 1 = .ok (.aload_n 0, 1) := by decide +kernel
theorem dX3_fallsTogether_2 : decode cX3_fallsTogether 2 = .ok (.iload_n 1, 1) := by decide +kernel
theorem dX3_fallsTogether_3 : decode cX3_fallsTogether 3 = .ok (.invokevirtual 70, 3) := by decide +kernel
theorem dX3_fallsTogether_6 : decode cX3_fallsTogether 6 = .ok (.invokevirtual 121, 3) := by decide +kernel
theorem dX3_fallsTogether_9 : decode cX3_fallsTogether 9 = .ok (.iconst 1, 1) := by decide +kernel
theorem dX3_fallsTogether_10 : decode cX3_fallsTogether 10 = .ok (.iload_n 1, 1) := by decide +kernel
theorem dX3_fallsTogether_11 : decode cX3_fallsTogether 11 = .ok (.ishl, 1) := by decide +kernel
theorem dX3_fallsTogether_12 : decode cX3_fallsTogether 12 = .ok (.iconst 1, 1) := by decide +kernel
theorem dX3_fallsTogether_13 : decode cX3_fallsTogether 13 = .ok (.iload_n 2, 1) := by decide +kernel
theorem dX3_fallsTogether_14 : decode cX3_fallsTogether 14 = .ok (.ishl, 1) := by decide +kernel
theorem dX3_fallsTogether_15 : decode cX3_fallsTogether 15 = .ok (.ior, 1) := by decide +kernel
theorem dX3_fallsTogether_16 : decode cX3_fallsTogether 16 = .ok (.istore_n 3, 1) := by decide +kernel
theorem dX3_fallsTogether_17 : decode cX3_fallsTogether 17 = .ok (.iconst 0, 1) := by decide +kernel
theorem dX3_fallsTogether_18 : decode cX3_fallsTogether 18 = .ok (.istore 4, 2) := by decide +kernel
theorem dX3_fallsTogether_20 : decode cX3_fallsTogether 20 = .ok (.iload 4, 2) := by decide +kernel
theorem dX3_fallsTogether_22 : decode cX3_fallsTogether 22 = .ok (.bipush 6, 2) := by decide +kernel
theorem dX3_fallsTogether_24 : decode cX3_fallsTogether 24 = .ok (.if_icmp .ge 54, 3) := by decide +kernel
theorem dX3_fallsTogether_27 : decode cX3_fallsTogether 27 = .ok (.iconst 0, 1) := by decide +kernel
theorem dX3_fallsTogether_28 : decode cX3_fallsTogether 28 = .ok (.istore 5, 2) := by decide +kernel
theorem dX3_fallsTogether_30 : decode cX3_fallsTogether 30 = .ok (.iload 5, 2) := by decide +kernel
theorem dX3_fallsTogether_32 : decode cX3_fallsTogether 32 = .ok (.bipush 6, 2) := by decide +kernel
theorem dX3_fallsTogether_34 : decode cX3_fallsTogether 34 = .ok (.if_icmp .ge 38, 3) := by decide +kernel
theorem dX3_fallsTogether_37 : decode cX3_fallsTogether 37 = .ok (.iload_n 3, 1) := by decide +kernel
theorem dX3_fallsTogether_38 : decode cX3_fallsTogether 38 = .ok (.iload 5, 2) := by decide +kernel
theorem dX3_fallsTogether_40 : decode cX3_fallsTogether 40 = .ok (.ishr, 1) := by decide +kernel
theorem dX3_fallsTogether_41 : decode cX3_fallsTogether 41 = .ok (.iconst 1, 1) := by decide +kernel
theorem dX3_fallsTogether_42 : decode cX3_fallsTogether 42 = .ok (.iand, 1) := by decide +kernel
theorem dX3_fallsTogether_43 : decode cX3_fallsTogether 43 = .ok (.ifCond .ne 23, 3) := by decide +kernel
theorem dX3_fallsTogether_46 : decode cX3_fallsTogether 46 = .ok (.aload_n 0, 1) := by decide +kernel
theorem dX3_fallsTogether_47 : decode cX3_fallsTogether 47 = .ok (.getfield 32, 3) := by decide +kernel
theorem dX3_fallsTogether_50 : decode cX3_fallsTogether 50 = .ok (.iload 5, 2) := by decide +kernel
theorem dX3_fallsTogether_52 : decode cX3_fallsTogether 52 = .ok (.iaload, 1) := by decide +kernel
theorem dX3_fallsTogether_53 : decode cX3_fallsTogether 53 = .ok (.invokestatic 124, 3) := by decide +kernel
theorem dX3_fallsTogether_56 : decode cX3_fallsTogether 56 = .ok (.iconst 2, 1) := by decide +kernel
theorem dX3_fallsTogether_57 : decode cX3_fallsTogether 57 = .ok (.if_icmp .gt 9, 3) := by decide +kernel
theorem dX3_fallsTogether_60 : decode cX3_fallsTogether 60 = .ok (.aload_n 0, 1) := by decide +kernel
theorem dX3_fallsTogether_61 : decode cX3_fallsTogether 61 = .ok (.iload 5, 2) := by decide +kernel
theorem dX3_fallsTogether_63 : decode cX3_fallsTogether 63 = .ok (.invokevirtual 127, 3) := by decide +kernel
theorem dX3_fallsTogether_66 : decode cX3_fallsTogether 66 = .ok (.iinc 5 1, 3) := by decide +kernel
theorem dX3_fallsTogether_69 : decode cX3_fallsTogether 69 = .ok (.goto (-39), 3) := by decide +kernel
theorem dX3_fallsTogether_72 : decode cX3_fallsTogether 72 = .ok (.iinc 4 1, 3) := by decide +kernel
theorem dX3_fallsTogether_75 : decode cX3_fallsTogether 75 = .ok (.goto (-55), 3) := by decide +kernel
theorem dX3_fallsTogether_78 : decode cX3_fallsTogether 78 = .ok (.aload_n 0, 1) := by decide +kernel
theorem dX3_fallsTogether_79 : decode cX3_fallsTogether 79 = .ok (.getfield 32, 3) := by decide +kernel
theorem dX3_fallsTogether_82 : decode cX3_fallsTogether 82 = .ok (.iload_n 1, 1) := by decide +kernel
theorem dX3_fallsTogether_83 : decode cX3_fallsTogether 83 = .ok (.iaload, 1) := by decide +kernel
theorem dX3_fallsTogether_84 : decode cX3_fallsTogether 84 = .ok (.iconst 1, 1) := by decide +kernel
theorem dX3_fallsTogether_85 : decode cX3_fallsTogether 85 = .ok (.iload_n 2, 1) := by decide +kernel
theorem dX3_fallsTogether_86 : decode cX3_fallsTogether 86 = .ok (.ishl, 1) := by decide +kernel
theorem dX3_fallsTogether_87 : decode cX3_fallsTogether 87 = .ok (.if_icmp .ne 19, 3) := by decide +kernel
theorem dX3_fallsTogether_90 : decode cX3_fallsTogether 90 = .ok (.aload_n 0, 1) := by decide +kernel
theorem dX3_fallsTogether_91 : decode cX3_fallsTogether 91 = .ok (.getfield 32, 3) := by decide +kernel
theorem dX3_fallsTogether_94 : decode cX3_fallsTogether 94 = .ok (.iload_n 2, 1) := by decide +kernel
theorem dX3_fallsTogether_95 : decode cX3_fallsTogether 95 = .ok (.iaload, 1) := by decide +kernel
theorem dX3_fallsTogether_96 : decode cX3_fallsTogether 96 = .ok (.iconst 1, 1) := by decide +kernel
theorem dX3_fallsTogether_97 : decode cX3_fallsTogether 97 = .ok (.iload_n 1, 1) := by decide +kernel
