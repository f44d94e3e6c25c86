theorem dX10_through_36 : decode cX10_through 36 = .ok (.invokestatic 89, 3) := by decide +kernel
theorem dX10_through_39 : decode cX10_through 39 = .ok (.ifCond .eq 12, 3) := by decide +kernel
theorem dX10_through_42 : decode cX10_through 42 = .ok (.aload_n 0, 1) := by decide +kernel
theorem dX10_through_43 : decode cX10_through 43 = .ok (.iload_n 2, 1) := by decide +kernel
theorem dX10_through_44 : decode cX10_through 44 = .ok (.iload_n 3, 1) := by decide +kernel
theorem dX10_through_45 : decode cX10_through 45 = .ok (.invokevirtual 137, 3) := by decide +kernel
theorem dX10_through_48 : decode cX10_through 48 = .ok (.ifCond .ne 7, 3) := by decide +kernel
theorem dX10_through_51 : decode cX10_through 51 = .ok (.ldc2_w 157, 3) := by decide +kernel
theorem dX10_through_54 : decode cX10_through 54 = .ok (.lreturn, 1) := by decide +kernel
theorem dX10_through_55 : decode cX10_through 55 = .ok (.aload_n 0, 1) := by decide +kernel
theorem dX10_through_56 : decode cX10_through 56 = .ok (.iload_n 2, 1) := by decide +kernel
theorem dX10_through_57 : decode cX10_through 57 = .ok (.invokevirtual 142, 3) := by decide +kernel
theorem dX10_through_60 : decode cX10_through 60 = .ok (.istore 5, 2) := by decide +kernel
theorem dX10_through_62 : decode cX10_through 62 = .ok (.lconst 0, 1) := by decide +kernel
theorem dX10_through_63 : decode cX10_through 63 = .ok (.lstore 6, 2) := by decide +kernel
theorem dX10_through_65 : decode cX10_through 65 = .ok (.lconst 0, 1) := by decide +kernel
theorem dX10_through_66 : decode cX10_through 66 = .ok (.lstore 8, 2) := by decide +kernel
theorem dX10_through_68 : decode cX10_through 68 = .ok (.iconst 0, 1) := by decide +kernel
theorem dX10_through_69 : decode cX10_through 69 = .ok (.istore 10, 2) := by decide +kernel
theorem dX10_through_71 : decode cX10_through 71 = .ok (.iload 10, 2) := by decide +kernel
theorem dX10_through_73 : decode cX10_through 73 = .ok (.iconst 1, 1) := by decide +kernel
theorem dX10_through_74 : decode cX10_through 74 = .ok (.aload_n 0, 1) := by decide +kernel
theorem dX10_through_75 : decode cX10_through 75 = .ok (.getfield 119, 3) := by decide +kernel
theorem dX10_through_78 : decode cX10_through 78 = .ok (.ishl, 1) := by decide +kernel
theorem dX10_through_79 : decode cX10_through 79 = .ok (.if_icmp .ge 73, 3) := by decide +kernel
theorem dX10_through_82 : decode cX10_through 82 = .ok (.iload 10, 2) := by decide +kernel
theorem dX10_through_84 : decode cX10_through 84 = .ok (.invokestatic 145, 3) := by decide +kernel
theorem dX10_through_87 : decode cX10_through 87 = .ok (.iload 5, 2) := by decide +kernel
theorem dX10_through_89 : decode cX10_through 89 = .ok (.iconst 1, 1) := by decide +kernel
theorem dX10_through_90 : decode cX10_through 90 = .ok (.isub, 1) := by decide +kernel
theorem dX10_through_91 : decode cX10_through 91 = .ok (.if_icmp .ne 55, 3) := by decide +kernel
theorem dX10_through_94 : decode cX10_through 94 = .ok (.aload_n 0, 1) := by decide +kernel
theorem dX10_through_95 : decode cX10_through 95 = .ok (.iload 10, 2) := by decide +kernel
theorem dX10_through_97 : decode cX10_through 97 = .ok (.iload_n 2, 1) := by decide +kernel
theorem dX10_through_98 : decode cX10_through 98 = .ok (.invokevirtual 148, 3) := by decide +kernel
theorem dX10_through_101 : decode cX10_through 101 = .ok (.ifCond .eq 45, 3) := by decide +kernel
theorem dX10_through_104 : decode cX10_through 104 = .ok (.aload_n 0, 1) := by decide +kernel
theorem dX10_through_105 : decode cX10_through 105 = .ok (.iload 10, 2) := by decide +kernel
theorem dX10_through_107 : decode cX10_through 107 = .ok (.invokevirtual 132, 3) := by decide +kernel
theorem dX10_through_110 : decode cX10_through 110 = .ok (.ifCond .eq 36, 3) := by decide +kernel
theorem dX10_through_113 : decode cX10_through 113 = .ok (.aload_n 0, 1) := by decide +kernel
theorem dX10_through_114 : decode cX10_through 114 = .ok (.iload 10, 2) := by decide +kernel
theorem dX10_through_116 : decode cX10_through 116 = .ok (.invokevirtual 151, 3) := by decide +kernel
theorem dX10_through_119 : decode cX10_through 119 = .ok (.lstore 11, 2) := by decide +kernel
theorem dX10_through_121 : decode cX10_through 121 = .ok (.lload 6, 2) := by decide +kernel
theorem dX10_through_123 : decode cX10_through 123 = .ok (.lload 11, 2) := by decide +kernel
theorem dX10_through_125 : decode cX10_through 125 = .ok (.ladd, 1) := by decide +kernel
theorem dX10_through_126 : decode cX10_through 126 = .ok (.lstore 6, 2) := by decide +kernel
theorem dX10_through_128 : decode cX10_through 128 = .ok (.lload 8, 2) := by decide +kernel
theorem dX10_through_130 : decode cX10_through 130 = .ok (.aload_n 0, 1) := by decide +kernel
theorem dX10_through_131 : decode cX10_through 131 = .ok (.iload 10, 2) := by decide +kernel
theorem dX10_through_133 : decode cX10_through 133 = .ok (.iload_n 1, 1) := by decide +kernel
theorem dX10_through_134 : decode cX10_through 134 = .ok (.iload_n 2, 1) := by decide +kernel
theorem dX10_through_135 : decode cX10_through 135 = .ok (.iload_n 3, 1) := by decide +kernel
theorem dX10_through_136 : decode cX10_through 136 = .ok (.invokevirtual 159, 3) := by decide +kernel
theorem dX10_through_139 : decode cX10_through 139 = .ok (.i2l, 1) := by decide +kernel
theorem dX10_through_140 : decode cX10_through 140 = .ok (.lload 11, 2) := by decide +kernel
theorem dX10_through_142 : decode cX10_through 142 = .ok (.lmul, 1) := by decide +kernel
theorem dX10_through_143 : decode cX10_through 143 = .ok (.ladd, 1) := by decide +kernel
theorem dX10_through_144 : decode cX10_through 144 = .ok (.lstore 8, 2) := by decide +kernel
theorem dX10_through_146 : decode cX10_through 146 = .ok (.iinc 10 1, 3) := by decide +kernel
theorem dX10_through_149 : decode cX10_through 149 = .ok (.goto (-78), 3) := by decide +kernel
theorem dX10_through_152 : decode cX10_through 152 = .ok (.aload_n 0, 1) := by decide +kernel
theorem dX10_through_153 : decode cX10_through 153 = .ok (.lload 8, 2) := by decide +kernel
theorem dX10_through_155 : decode cX10_through 155 = .ok (.lload 6, 2) := by decide +kernel
theorem dX10_through_157 : decode cX10_through 157 = .ok (.invokevirtual 74, 3) := by decide +kernel
theorem dX10_through_160 : decode cX10_through 160 = .ok (.iload 4, 2) := by decide +kernel
theorem dX10_through_162 : decode cX10_through 162 = .ok (.ifCond .ne 10, 3) := by decide +kernel
theorem dX10_through_165 : decode cX10_through 165 = .ok (.aload_n 0, 1) := by decide +kernel
theorem dX10_through_166 : decode cX10_through 166 = .ok (.getfield 67, 3) := by decide +kernel
theorem dX10_through_169 : decode cX10_through 169 = .ok (.goto 7, 3) := by decide +kernel
theorem dX10_through_172 : decode cX10_through 172 = .ok (.aload_n 0, 1) := by decide +kernel
theorem dX10_through_173 : decode cX10_through 173 = .ok (.getfield 71, 3) := by decide +kernel
theorem dX10_through_176 : decode cX10_through 176 = .ok (.lreturn, 1) := by decide +kernel
theorem dX10_hasWire_0 : decode cX10_hasWire 0 = .ok (.iconst 0, 1) := by decide +kernel
theorem dX10_hasWire_1 : decode cX10_hasWire 1 = .ok (.istore_n 2, 1) := by decide +kernel
theorem dX10_hasWire_2 : decode cX10_hasWire 2 = .ok (.iconst 0, 1) := by decide +kernel
theorem dX10_hasWire_3 : decode cX10_hasWire 3 = .ok (.istore_n 3, 1) := by decide +kernel
theorem dX10_hasWire_4 : decode cX10_hasWire 4 = .ok (.iload_n 3, 1) := by decide +kernel
theorem dX10_hasWire_5 : decode cX10_hasWire 5 = .ok (.aload_n 0, 1) := by decide +kernel
theorem dX10_hasWire_6 : decode cX10_hasWire 6 = .ok (.getfield 119, 3) := by decide +kernel
theorem dX10_hasWire_9 : decode cX10_hasWire 9 = .ok (.if_icmp .ge 37, 3) := by decide +kernel
theorem dX10_hasWire_12 : decode cX10_hasWire 12 = .ok (.iload_n 2, 1) := by decide +kernel
theorem dX10_hasWire_13 : decode cX10_hasWire 13 = .ok (.aload_n 0, 1) := by decide +kernel
theorem dX10_hasWire_14 : decode cX10_hasWire 14 = .ok (.getfield 22, 3) := by decide +kernel
theorem dX10_hasWire_17 : decode cX10_hasWire 17 = .ok (.iload_n 3, 1) := by decide +kernel
theorem dX10_hasWire_18 : decode cX10_hasWire 18 = .ok (.iaload, 1) := by decide +kernel
theorem dX10_hasWire_19 : decode cX10_hasWire 19 = .ok (.iload_n 1, 1) := by decide +kernel
theorem dX10_hasWire_20 : decode cX10_hasWire 20 = .ok (.if_icmp .eq 13, 3) := by decide +kernel
theorem dX10_hasWire_23 : decode cX10_hasWire 23 = .ok (.aload_n 0, 1) := by decide +kernel
theorem dX10_hasWire_24 : decode cX10_hasWire 24 = .ok (.getfield 25, 3) := by decide +kernel
theorem dX10_hasWire_27 : decode cX10_hasWire 27 = .ok (.iload_n 3, 1) := by decide +kernel
theorem dX10_hasWire_28 : decode cX10_hasWire 28 = .ok (.iaload, 1) := by decide +kernel
theorem dX10_hasWire_29 : decode cX10_hasWire 29 = .ok (.iload_n 1, 1) := by decide +kernel
theorem dX10_hasWire_30 : decode cX10_hasWire 30 = .ok (.if_icmp .ne 7, 3) := by decide +kernel
theorem dX10_hasWire_33 : decode cX10_hasWire 33 = .ok (.iconst 1, 1) := by decide +kernel
theorem dX10_hasWire_34 : decode cX10_hasWire 34 = .ok (.goto 4, 3) := by decide +kernel
theorem dX10_hasWire_37 : decode cX10_hasWire 37 = .ok (.iconst 0, 1) := by decide +kernel
theorem dX10_hasWire_38 : decode cX10_hasWire 38 = .ok (.ior, 1) := by decide +kernel
theorem dX10_hasWire_39 : decode cX10_hasWire 39 = .ok (.istore_n 2, 1) := by decide +kernel
theorem dX10_hasWire_40 : decode cX10_hasWire 40 = .ok (.iinc 3 1, 3) := by decide +kernel
theorem dX10_hasWire_43 : decode cX10_hasWire 43 = .ok (.goto (-39), 3) := by decide +kernel
theorem dX10_hasWire_46 : decode cX10_hasWire 46 = .ok (.iload_n 2, 1) := by decide +kernel
theorem dX10_hasWire_47 : decode cX10_hasWire 47 = .ok (.ireturn, 1) := by decide +kernel
set_option maxRecDepth 20000 in
theorem ggX10_knots_X10_hasWire : GoodIn wsX10_knots wsX10_hasWire := goodIn_r _ [5, 6, 7, 8, 9, 10, 11, 12, 13, 14, 15, 16, 17, 18, 19, 20, 21, 22, 23, 24, 25, 26, 27, 28, 29, 30, 31, 32] (by decide +kernel) (by decide +kernel)
set_option maxRecDepth 20000 in
theorem gX10_knots_X10_hasWire : GoodIn wsX10_knots (wsV RX10 163 RX10 yX10_hasWire wsX10_hasWire) := goodIn_app (goodIn_of _ (by decide +kernel)) ggX10_knots_X10_hasWire
theorem dX10_knots_0 : decode cX10_knots 0 = .ok (.iconst 0, 1) := by decide +kernel
theorem dX10_knots_1 : decode cX10_knots 1 = .ok (.istore_n 1, 1) := by decide +kernel
theorem dX10_knots_2 : decode cX10_knots 2 = .ok (.iconst 0, 1) := by decide +kernel
theorem dX10_knots_3 : decode cX10_knots 3 = .ok (.istore_n 2, 1) := by decide +kernel
theorem dX10_knots_4 : decode cX10_knots 4 = .ok (.iload_n 2, 1) := by decide +kernel
theorem dX10_knots_5 : decode cX10_knots 5 = .ok (.bipush 6, 2) := by decide +kernel
theorem dX10_knots_7 : decode cX10_knots 7 = .ok (.if_icmp .ge 25, 3) := by decide +kernel
theorem dX10_knots_10 : decode cX10_knots 10 = .ok (.iload_n 1, 1) := by decide +kernel
theorem dX10_knots_11 : decode cX10_knots 11 = .ok (.aload_n 0, 1) := by decide +kernel
theorem dX10_knots_12 : decode cX10_knots 12 = .ok (.iload_n 2, 1) := by decide +kernel
theorem dX10_knots_13 : decode cX10_knots 13 = .ok (.invokevirtual 163, 3) := by decide +kernel
theorem dX10_knots_16 : decode cX10_knots 16 = .ok (.ifCond .eq 7, 3) := by decide +kernel
theorem dX10_knots_19 : decode cX10_knots 19 = .ok (.iconst 1, 1) := by decide +kernel
theorem dX10_knots_20 : decode cX10_knots 20 = .ok (.goto 4, 3) := by decide +kernel
theorem dX10_knots_23 : decode cX10_knots 23 = .ok (.iconst 0, 1) := by decide +kernel
theorem dX10_knots_24 : decode cX10_knots 24 = .ok (.iadd, 1) := by decide +kernel
theorem dX10_knots_25 : decode cX10_knots 25 = .ok (.istore_n 1, 1) := by decide +kernel
theorem dX10_knots_26 : decode cX10_knots 26 = .ok (.iinc 2 1, 3) := by decide +kernel
theorem dX10_knots_29 : decode cX10_knots 29 = .ok (.goto (-25), 3) := by decide +kernel
theorem dX10_knots_32 : decode cX10_knots 32 = .ok (.iload_n 1, 1) := by decide +kernel
theorem dX10_knots_33 : decode cX10_knots 33 = .ok (.ireturn, 1) := by decide +kernel
set_option maxRecDepth 20000 in
theorem ggX10_trees_X10_knots : GoodIn wsX10_trees wsX10_knots := goodIn_r _ [7, 8, 9, 10, 6, 11, 2, 12, 13, 22, 23, 24, 25, 26, 27, 28, 29, 30, 31, 32, 33, 34, 35, 36, 37, 38, 39, 40, 41, 42, 43, 44, 45] (by decide +kernel) (by decide +kernel)
set_option maxRecDepth 20000 in
theorem gX10_trees_X10_knots : GoodIn wsX10_trees (wsV RX10 166 RX10 yX10_knots wsX10_knots) := goodIn_app (goodIn_of _ (by decide +kernel)) ggX10_trees_X10_knots
set_option maxRecDepth 20000 in
theorem ggX10_trees_X10_bits : GoodIn wsX10_trees wsX10_bits := goodIn_r _ [16] (by decide +kernel) (by decide +kernel)
set_option maxRecDepth 20000 in
theorem gX10_trees_X10_bits : GoodIn wsX10_trees (va_wsS RX10 145 yX10_bits wsX10_bits) := goodIn_app (goodIn_of _ (by decide +kernel)) ggX10_trees_X10_bits
set_option maxRecDepth 20000 in
theorem ggX10_trees_X10_joins : GoodIn wsX10_trees wsX10_joins := goodIn_r _ [20, 21, 2, 12, 13, 22, 23, 24, 25, 26, 27, 28, 29, 30, 31, 32, 33, 34, 35, 36, 37, 38, 39, 40, 41, 42, 43, 44, 45] (by decide +kernel) (by decide +kernel)
set_option maxRecDepth 20000 in
theorem gX10_trees_X10_joins : GoodIn wsX10_trees (wsV RX10 132 RX10 yX10_joins wsX10_joins) := goodIn_app (goodIn_of _ (by decide +kernel)) ggX10_trees_X10_joins
theorem dX10_trees_0 : decode cX10_trees 0 = .ok (.aload_n 0, 1) := by decide +kernel
theorem dX10_trees_1 : decode cX10_trees 1 = .ok (.iconst 0, 1) := by decide +kernel
theorem dX10_trees_2 : decode cX10_trees 2 = .ok (.putfield 59, 3) := by decide +kernel
theorem dX10_trees_5 : decode cX10_trees 5 = .ok (.aload_n 0, 1) := by decide +kernel
theorem dX10_trees_6 : decode cX10_trees 6 = .ok (.invokevirtual 166, 3) := by decide +kernel
theorem dX10_trees_9 : decode cX10_trees 9 = .ok (.istore_n 1, 1) := by decide +kernel
theorem dX10_trees_10 : decode cX10_trees 10 = .ok (.aload_n 0, 1) := by decide +kernel
theorem dX10_trees_11 : decode cX10_trees 11 = .ok (.getfield 119, 3) := by decide +kernel
theorem dX10_trees_14 : decode cX10_trees 14 = .ok (.ifCond .ne 7, 3) := by decide +kernel
theorem dX10_trees_17 : decode cX10_trees 17 = .ok (.iconst 1, 1) := by decide +kernel
theorem dX10_trees_18 : decode cX10_trees 18 = .ok (.goto 4, 3) := by decide +kernel
theorem dX10_trees_21 : decode cX10_trees 21 = .ok (.iconst 0, 1) := by decide +kernel
theorem dX10_trees_22 : decode cX10_trees 22 = .ok (.istore_n 2, 1) := by decide +kernel
theorem dX10_trees_23 : decode cX10_trees 23 = .ok (.iconst 0, 1) := by decide +kernel
theorem dX10_trees_24 : decode cX10_trees 24 = .ok (.istore_n 3, 1) := by decide +kernel
theorem dX10_trees_25 : decode cX10_trees 25 = .ok (.iload_n 3, 1) := by decide +kernel
theorem dX10_trees_26 : decode cX10_trees 26 = .ok (.iconst 1, 1) := by decide +kernel
theorem dX10_trees_27 : decode cX10_trees 27 = .ok (.aload_n 0, 1) := by decide +kernel
theorem dX10_trees_28 : decode cX10_trees 28 = .ok (.getfield 119, 3) := by decide +kernel
theorem dX10_trees_31 : decode cX10_trees 31 = .ok (.ishl, 1) := by decide +kernel
theorem dX10_trees_32 : decode cX10_trees 32 = .ok (.if_icmp .ge 39, 3) := by decide +kernel
theorem dX10_trees_35 : decode cX10_trees 35 = .ok (.iload_n 1, 1) := by decide +kernel
theorem dX10_trees_36 : decode cX10_trees 36 = .ok (.ifCond .le 35, 3) := by decide +kernel
theorem dX10_trees_39 : decode cX10_trees 39 = .ok (.iload_n 2, 1) := by decide +kernel
theorem dX10_trees_40 : decode cX10_trees 40 = .ok (.iload_n 3, 1) := by decide +kernel
theorem dX10_trees_41 : decode cX10_trees 41 = .ok (.invokestatic 145, 3) := by decide +kernel
theorem dX10_trees_44 : decode cX10_trees 44 = .ok (.iload_n 1, 1) := by decide +kernel
theorem dX10_trees_45 : decode cX10_trees 45 = .ok (.iconst 1, 1) := by decide +kernel
theorem dX10_trees_46 : decode cX10_trees 46 = .ok (.isub, 1) := by decide +kernel
theorem dX10_trees_47 : decode cX10_trees 47 = .ok (.if_icmp .ne 15, 3) := by decide +kernel
theorem dX10_trees_50 : decode cX10_trees 50 = .ok (.aload_n 0, 1) := by decide +kernel
theorem dX10_trees_51 : decode cX10_trees 51 = .ok (.iload_n 3, 1) := by decide +kernel
theorem dX10_trees_52 : decode cX10_trees 52 = .ok (.invokevirtual 132, 3) := by decide +kernel
theorem dX10_trees_55 : decode cX10_trees 55 = .ok (.ifCond .eq 7, 3) := by decide +kernel
theorem dX10_trees_58 : decode cX10_trees 58 = .ok (.iconst 1, 1) := by decide +kernel
theorem dX10_trees_59 : decode cX10_trees 59 = .ok (.goto 4, 3) := by decide +kernel
theorem dX10_trees_62 : decode cX10_trees 62 = .ok (.iconst 0, 1) := by decide +kernel
theorem dX10_trees_63 : decode cX10_trees 63 = .ok (.iadd, 1) := by decide +kernel
theorem dX10_trees_64 : decode cX10_trees 64 = .ok (.istore_n 2, 1) := by decide +kernel
theorem dX10_trees_65 : decode cX10_trees 65 = .ok (.iinc 3 1, 3) := by decide +kernel
theorem dX10_trees_68 : decode cX10_trees 68 = .ok (.goto (-43), 3) := by decide +kernel
theorem dX10_trees_71 : decode cX10_trees 71 = .ok (.iload_n 2, 1) := by decide +kernel
theorem dX10_trees_72 : decode cX10_trees 72 = .ok (.ireturn, 1) := by decide +kernel
theorem dX10_wiresAt_0 : decode cX10_wiresAt 0 = .ok (.iconst 0, 1) := by decide +kernel
theorem dX10_wiresAt_1 : decode cX10_wiresAt 1 = .ok (.istore_n 2, 1) := by decide +kernel
theorem dX10_wiresAt_2 : decode cX10_wiresAt 2 = .ok (.iconst 0, 1) := by decide +kernel
theorem dX10_wiresAt_3 : decode cX10_wiresAt 3 = .ok (.istore_n 3, 1) := by decide +kernel
theorem dX10_wiresAt_4 : decode cX10_wiresAt 4 = .ok (.iload_n 3, 1) := by decide +kernel
theorem dX10_wiresAt_5 : decode cX10_wiresAt 5 = .ok (.aload_n 0, 1) := by decide +kernel
theorem dX10_wiresAt_6 : decode cX10_wiresAt 6 = .ok (.getfield 119, 3) := by decide +kernel
theorem dX10_wiresAt_9 : decode cX10_wiresAt 9 = .ok (.if_icmp .ge 63, 3) := by decide +kernel
theorem dX10_wiresAt_12 : decode cX10_wiresAt 12 = .ok (.iload_n 2, 1) := by decide +kernel
theorem dX10_wiresAt_13 : decode cX10_wiresAt 13 = .ok (.aload_n 0, 1) := by decide +kernel
theorem dX10_wiresAt_14 : decode cX10_wiresAt 14 = .ok (.getfield 46, 3) := by decide +kernel
theorem dX10_wiresAt_17 : decode cX10_wiresAt 17 = .ok (.iload_n 3, 1) := by decide +kernel
theorem dX10_wiresAt_18 : decode cX10_wiresAt 18 = .ok (.baload, 1) := by decide +kernel
theorem dX10_wiresAt_19 : decode cX10_wiresAt 19 = .ok (.ifCond .eq 17, 3) := by decide +kernel
theorem dX10_wiresAt_22 : decode cX10_wiresAt 22 = .ok (.aload_n 0, 1) := by decide +kernel
theorem dX10_wiresAt_23 : decode cX10_wiresAt 23 = .ok (.getfield 40, 3) := by decide +kernel
theorem dX10_wiresAt_26 : decode cX10_wiresAt 26 = .ok (.iload_n 3, 1) := by decide +kernel
theorem dX10_wiresAt_27 : decode cX10_wiresAt 27 = .ok (.iaload, 1) := by decide +kernel
theorem dX10_wiresAt_28 : decode cX10_wiresAt 28 = .ok (.iload_n 1, 1) := by decide +kernel
theorem dX10_wiresAt_29 : decode cX10_wiresAt 29 = .ok (.if_icmp .ne 7, 3) := by decide +kernel
theorem dX10_wiresAt_32 : decode cX10_wiresAt 32 = .ok (.iconst 1, 1) := by decide +kernel
theorem dX10_wiresAt_33 : decode cX10_wiresAt 33 = .ok (.goto 4, 3) := by decide +kernel
theorem dX10_wiresAt_36 : decode cX10_wiresAt 36 = .ok (.iconst 0, 1) := by decide +kernel
theorem dX10_wiresAt_37 : decode cX10_wiresAt 37 = .ok (.iadd, 1) := by decide +kernel
theorem dX10_wiresAt_38 : decode cX10_wiresAt 38 = .ok (.istore_n 2, 1) := by decide +kernel
theorem dX10_wiresAt_39 : decode cX10_wiresAt 39 = .ok (.iload_n 2, 1) := by decide +kernel
theorem dX10_wiresAt_40 : decode cX10_wiresAt 40 = .ok (.aload_n 0, 1) := by decide +kernel
theorem dX10_wiresAt_41 : decode cX10_wiresAt 41 = .ok (.getfield 46, 3) := by decide +kernel
theorem dX10_wiresAt_44 : decode cX10_wiresAt 44 = .ok (.iload_n 3, 1) := by decide +kernel
theorem dX10_wiresAt_45 : decode cX10_wiresAt 45 = .ok (.baload, 1) := by decide +kernel
theorem dX10_wiresAt_46 : decode cX10_wiresAt 46 = .ok (.ifCond .eq 17, 3) := by decide +kernel
theorem dX10_wiresAt_49 : decode cX10_wiresAt 49 = .ok (.aload_n 0, 1) := by decide +kernel
theorem dX10_wiresAt_50 : decode cX10_wiresAt 50 = .ok (.getfield 43, 3) := by decide +kernel
theorem dX10_wiresAt_53 : decode cX10_wiresAt 53 = .ok (.iload_n 3, 1) := by decide +kernel
theorem dX10_wiresAt_54 : decode cX10_wiresAt 54 = .ok (.iaload, 1) := by decide +kernel
theorem dX10_wiresAt_55 : decode cX10_wiresAt 55 = .ok (.iload_n 1, 1) := by decide +kernel
theorem dX10_wiresAt_56 : decode cX10_wiresAt 56 = .ok (.if_icmp .ne 7, 3) := by decide +kernel
theorem dX10_wiresAt_59 : decode cX10_wiresAt 59 = .ok (.iconst 1, 1) := by decide +kernel
theorem dX10_wiresAt_60 : decode cX10_wiresAt 60 = .ok (.goto 4, 3) := by decide +kernel
theorem dX10_wiresAt_63 : decode cX10_wiresAt 63 = .ok (.iconst 0, 1) := by decide +kernel
theorem dX10_wiresAt_64 : decode cX10_wiresAt 64 = .ok (.iadd, 1) := by decide +kernel
theorem dX10_wiresAt_65 : decode cX10_wiresAt 65 = .ok (.istore_n 2, 1) := by decide +kernel
theorem dX10_wiresAt_66 : decode cX10_wiresAt 66 = .ok (.iinc 3 1, 3) := by decide +kernel
theorem dX10_wiresAt_69 : decode cX10_wiresAt 69 = .ok (.goto (-65), 3) := by decide +kernel
theorem dX10_wiresAt_72 : decode cX10_wiresAt 72 = .ok (.iload_n 2, 1) := by decide +kernel
theorem dX10_wiresAt_73 : decode cX10_wiresAt 73 = .ok (.ireturn, 1) := by decide +kernel
theorem dX10_links_0 : decode cX10_links 0 = .ok (.bipush (-9), 2) := by decide +kernel
theorem dX10_links_2 : decode cX10_links 2 = .ok (.istore_n 2, 1) := by decide +kernel
theorem dX10_links_3 : decode cX10_links 3 = .ok (.iconst 0, 1) := by decide +kernel
theorem dX10_links_4 : decode cX10_links 4 = .ok (.istore_n 3, 1) := by decide +kernel
theorem dX10_links_5 : decode cX10_links 5 = .ok (.iload_n 3, 1) := by decide +kernel
theorem dX10_links_6 : decode cX10_links 6 = .ok (.aload_n 0, 1) := by decide +kernel
theorem dX10_links_7 : decode cX10_links 7 = .ok (.getfield 119, 3) := by decide +kernel
theorem dX10_links_10 : decode cX10_links 10 = .ok (.if_icmp .ge 106, 3) := by decide +kernel
theorem dX10_links_13 : decode cX10_links 13 = .ok (.aload_n 0, 1) := by decide +kernel
theorem dX10_links_14 : decode cX10_links 14 = .ok (.getfield 46, 3) := by decide +kernel
theorem dX10_links_17 : decode cX10_links 17 = .ok (.iload_n 3, 1) := by decide +kernel
theorem dX10_links_18 : decode cX10_links 18 = .ok (.baload, 1) := by decide +kernel
theorem dX10_links_19 : decode cX10_links 19 = .ok (.ifCond .eq 91, 3) := by decide +kernel
theorem dX10_links_22 : decode cX10_links 22 = .ok (.aload_n 0, 1) := by decide +kernel
theorem dX10_links_23 : decode cX10_links 23 = .ok (.getfield 40, 3) := by decide +kernel
theorem dX10_links_26 : decode cX10_links 26 = .ok (.iload_n 3, 1) := by decide +kernel
theorem dX10_links_27 : decode cX10_links 27 = .ok (.iaload, 1) := by decide +kernel
theorem dX10_links_28 : decode cX10_links 28 = .ok (.iload_n 1, 1) := by decide +kernel
theorem dX10_links_29 : decode cX10_links 29 = .ok (.if_icmp .eq 13, 3) := by decide +kernel
theorem dX10_links_32 : decode cX10_links 32 = .ok (.aload_n 0, 1) := by decide +kernel
theorem dX10_links_33 : decode cX10_links 33 = .ok (.getfield 43, 3) := by decide +kernel
theorem dX10_links_36 : decode cX10_links 36 = .ok (.iload_n 3, 1) := by decide +kernel
theorem dX10_links_37 : decode cX10_links 37 = .ok (.iaload, 1) := by decide +kernel
theorem dX10_links_38 : decode cX10_links 38 = .ok (.iload_n 1, 1) := by decide +kernel
theorem dX10_links_39 : decode cX10_links 39 = .ok (.if_icmp .ne 71, 3) := by decide +kernel
theorem dX10_links_42 : decode cX10_links 42 = .ok (.aload_n 0, 1) := by decide +kernel
theorem dX10_links_43 : decode cX10_links 43 = .ok (.getfield 40, 3) := by decide +kernel
theorem dX10_links_46 : decode cX10_links 46 = .ok (.iload_n 3, 1) := by decide +kernel
theorem dX10_links_47 : decode cX10_links 47 = .ok (.iaload, 1) := by decide +kernel
theorem dX10_links_48 : decode cX10_links 48 = .ok (.iload_n 1, 1) := by decide +kernel
theorem dX10_links_49 : decode cX10_links 49 = .ok (.if_icmp .ne 12, 3) := by decide +kernel
theorem dX10_links_52 : decode cX10_links 52 = .ok (.aload_n 0, 1) := by decide +kernel
theorem dX10_links_53 : decode cX10_links 53 = .ok (.getfield 43, 3) := by decide +kernel
theorem dX10_links_56 : decode cX10_links 56 = .ok (.iload_n 3, 1) := by decide +kernel
theorem dX10_links_57 : decode cX10_links 57 = .ok (.iaload, 1) := by decide +kernel
theorem dX10_links_58 : decode cX10_links 58 = .ok (.goto 9, 3) := by decide +kernel
theorem dX10_links_61 : decode cX10_links 61 = .ok (.aload_n 0, 1) := by decide +kernel
theorem dX10_links_62 : decode cX10_links 62 = .ok (.getfield 40, 3) := by decide +kernel
theorem dX10_links_65 : decode cX10_links 65 = .ok (.iload_n 3, 1) := by decide +kernel
theorem dX10_links_66 : decode cX10_links 66 = .ok (.iaload, 1) := by decide +kernel
theorem dX10_links_67 : decode cX10_links 67 = .ok (.istore 4, 2) := by decide +kernel
theorem dX10_links_69 : decode cX10_links 69 = .ok (.iload_n 2, 1) := by decide +kernel
theorem dX10_links_70 : decode cX10_links 70 = .ok (.bipush (-9), 2) := by decide +kernel
theorem dX10_links_72 : decode cX10_links 72 = .ok (.if_icmp .ne 23, 3) := by decide +kernel
theorem dX10_links_75 : decode cX10_links 75 = .ok (.iload_n 3, 1) := by decide +kernel
theorem dX10_links_76 : decode cX10_links 76 = .ok (.istore_n 2, 1) := by decide +kernel
theorem dX10_links_77 : decode cX10_links 77 = .ok (.aload_n 0, 1) := by decide +kernel
theorem dX10_links_78 : decode cX10_links 78 = .ok (.getfield 40, 3) := by decide +kernel
theorem dX10_links_81 : decode cX10_links 81 = .ok (.iload_n 3, 1) := by decide +kernel
theorem dX10_links_82 : decode cX10_links 82 = .ok (.iload 4, 2) := by decide +kernel
theorem dX10_links_84 : decode cX10_links 84 = .ok (.iastore, 1) := by decide +kernel
theorem dX10_links_85 : decode cX10_links 85 = .ok (.aload_n 0, 1) := by decide +kernel
theorem dX10_links_86 : decode cX10_links 86 = .ok (.getfield 43, 3) := by decide +kernel
theorem dX10_links_89 : decode cX10_links 89 = .ok (.iload_n 3, 1) := by decide +kernel
theorem dX10_links_90 : decode cX10_links 90 = .ok (.iload_n 1, 1) := by decide +kernel
theorem dX10_links_91 : decode cX10_links 91 = .ok (.iastore, 1) := by decide +kernel
theorem dX10_links_92 : decode cX10_links 92 = .ok (.goto 18, 3) := by decide +kernel
theorem dX10_links_95 : decode cX10_links 95 = .ok (.aload_n 0, 1) := by decide +kernel
theorem dX10_links_96 : decode cX10_links 96 = .ok (.getfield 43, 3) := by decide +kernel
theorem dX10_links_99 : decode cX10_links 99 = .ok (.iload_n 2, 1) := by decide +kernel
theorem dX10_links_100 : decode cX10_links 100 = .ok (.iload 4, 2) := by decide +kernel
theorem dX10_links_102 : decode cX10_links 102 = .ok (.iastore, 1) := by decide +kernel
theorem dX10_links_103 : decode cX10_links 103 = .ok (.aload_n 0, 1) := by decide +kernel
theorem dX10_links_104 : decode cX10_links 104 = .ok (.getfield 46, 3) := by decide +kernel
theorem dX10_links_107 : decode cX10_links 107 = .ok (.iload_n 3, 1) := by decide +kernel
theorem dX10_links_108 : decode cX10_links 108 = .ok (.iconst 0, 1) := by decide +kernel
theorem dX10_links_109 : decode cX10_links 109 = .ok (.bastore, 1) := by decide +kernel
theorem dX10_links_110 : decode cX10_links 110 = .ok (.iinc 3 1, 3) := by decide +kernel
theorem dX10_links_113 : decode cX10_links 113 = .ok (.goto (-108), 3) := by decide +kernel
theorem dX10_links_116 : decode cX10_links 116 = .ok (.return_, 1) := by decide +kernel
set_option maxRecDepth 20000 in
theorem ggX10_lessens_X10_wiresAt : GoodIn wsX10_lessens wsX10_wiresAt := goodIn_r _ [9, 1, 2, 3, 4, 14, 15, 16, 17, 18, 19, 20, 21, 22, 23, 24, 25, 26, 27, 28, 29, 30, 31, 32, 33, 34, 35, 36, 37] (by decide +kernel) (by decide +kernel)
set_option maxRecDepth 20000 in
theorem gX10_lessens_X10_wiresAt : GoodIn wsX10_lessens (wsV RX10 170 RX10 yX10_wiresAt wsX10_wiresAt) := goodIn_app (goodIn_of _ (by decide +kernel)) ggX10_lessens_X10_wiresAt
set_option maxRecDepth 20000 in
theorem ggX10_lessens_X10_links : GoodIn wsX10_lessens wsX10_links := goodIn_r _ [13, 1, 2, 3, 4, 14, 15, 16, 17, 18, 19, 20, 21, 22, 23, 24, 25, 26, 27, 28, 29, 30, 31, 32, 33, 34, 35, 36, 37] (by decide +kernel) (by decide +kernel)
set_option maxRecDepth 20000 in
theorem gX10_lessens_X10_links : GoodIn wsX10_lessens (wsV RX10 173 RX10 yX10_links wsX10_links) := goodIn_app (goodIn_of _ (by decide +kernel)) ggX10_lessens_X10_links
theorem dX10_lessens_0 : decode cX10_lessens 0 = .ok (.iconst 0, 1) := by decide +kernel
theorem dX10_lessens_1 : decode cX10_lessens 1 = .ok (.istore_n 3, 1) := by decide +kernel
theorem dX10_lessens_2 : decode cX10_lessens 2 = .ok (.iload_n 3, 1) := by decide +kernel
theorem dX10_lessens_3 : decode cX10_lessens 3 = .ok (.aload_n 0, 1) := by decide +kernel
theorem dX10_lessens_4 : decode cX10_lessens 4 = .ok (.getfield 119, 3) := by decide +kernel
theorem dX10_lessens_7 : decode cX10_lessens 7 = .ok (.if_icmp .ge 253, 3) := by decide +kernel
theorem dX10_lessens_10 : decode cX10_lessens 10 = .ok (.aload_n 0, 1) := by decide +kernel
theorem dX10_lessens_11 : decode cX10_lessens 11 = .ok (.getfield 46, 3) := by decide +kernel
theorem dX10_lessens_14 : decode cX10_lessens 14 = .ok (.iload_n 3, 1) := by decide +kernel
theorem dX10_lessens_15 : decode cX10_lessens 15 = .ok (.baload, 1) := by decide +kernel
theorem dX10_lessens_16 : decode cX10_lessens 16 = .ok (.ifCond .eq 27, 3) := by decide +kernel
theorem dX10_lessens_19 : decode cX10_lessens 19 = .ok (.aload_n 0, 1) := by decide +kernel
theorem dX10_lessens_20 : decode cX10_lessens 20 = .ok (.getfield 40, 3) := by decide +kernel
theorem dX10_lessens_23 : decode cX10_lessens 23 = .ok (.iload_n 3, 1) := by decide +kernel
theorem dX10_lessens_24 : decode cX10_lessens 24 = .ok (.iaload, 1) := by decide +kernel
theorem dX10_lessens_25 : decode cX10_lessens 25 = .ok (.aload_n 0, 1) := by decide +kernel
theorem dX10_lessens_26 : decode cX10_lessens 26 = .ok (.getfield 43, 3) := by decide +kernel
theorem dX10_lessens_29 : decode cX10_lessens 29 = .ok (.iload_n 3, 1) := by decide +kernel
theorem dX10_lessens_30 : decode cX10_lessens 30 = .ok (.iaload, 1) := by decide +kernel
theorem dX10_lessens_31 : decode cX10_lessens 31 = .ok (.if_icmp .ne 12, 3) := by decide +kernel
theorem dX10_lessens_34 : decode cX10_lessens 34 = .ok (.aload_n 0, 1) := by decide +kernel
theorem dX10_lessens_35 : decode cX10_lessens 35 = .ok (.getfield 46, 3) := by decide +kernel
theorem dX10_lessens_38 : decode cX10_lessens 38 = .ok (.iload_n 3, 1) := by decide +kernel
theorem dX10_lessens_39 : decode cX10_lessens 39 = .ok (.iconst 0, 1) := by decide +kernel
theorem dX10_lessens_40 : decode cX10_lessens 40 = .ok (.bastore, 1) := by decide +kernel
theorem dX10_lessens_41 : decode cX10_lessens 41 = .ok (.iconst 1, 1) := by decide +kernel
theorem dX10_lessens_42 : decode cX10_lessens 42 = .ok (.ireturn, 1) := by decide +kernel
theorem dX10_lessens_43 : decode cX10_lessens 43 = .ok (.iconst 0, 1) := by decide +kernel
theorem dX10_lessens_44 : decode cX10_lessens 44 = .ok (.istore 4, 2) := by decide +kernel
theorem dX10_lessens_46 : decode cX10_lessens 46 = .ok (.iconst 0, 1) := by decide +kernel
theorem dX10_lessens_47 : decode cX10_lessens 47 = .ok (.istore 5, 2) := by decide +kernel
theorem dX10_lessens_49 : decode cX10_lessens 49 = .ok (.iload 5, 2) := by decide +kernel
theorem dX10_lessens_51 : decode cX10_lessens 51 = .ok (.iload_n 3, 1) := by decide +kernel
theorem dX10_lessens_52 : decode cX10_lessens 52 = .ok (.if_icmp .ge 93, 3) := by decide +kernel
theorem dX10_lessens_55 : decode cX10_lessens 55 = .ok (.iload 4, 2) := by decide +kernel
theorem dX10_lessens_57 : decode cX10_lessens 57 = .ok (.aload_n 0, 1) := by decide +kernel
theorem dX10_lessens_58 : decode cX10_lessens 58 = .ok (.getfield 46, 3) := by decide +kernel
theorem dX10_lessens_61 : decode cX10_lessens 61 = .ok (.iload 5, 2) := by decide +kernel
theorem dX10_lessens_63 : decode cX10_lessens 63 = .ok (.baload, 1) := by decide +kernel
theorem dX10_lessens_64 : decode cX10_lessens 64 = .ok (.ifCond .eq 71, 3) := by decide +kernel
theorem dX10_lessens_67 : decode cX10_lessens 67 = .ok (.aload_n 0, 1) := by decide +kernel
theorem dX10_lessens_68 : decode cX10_lessens 68 = .ok (.getfield 40, 3) := by decide +kernel
theorem dX10_lessens_71 : decode cX10_lessens 71 = .ok (.iload 5, 2) := by decide +kernel
theorem dX10_lessens_73 : decode cX10_lessens 73 = .ok (.iaload, 1) := by decide +kernel
theorem dX10_lessens_74 : decode cX10_lessens 74 = .ok (.aload_n 0, 1) := by decide +kernel
theorem dX10_lessens_75 : decode cX10_lessens 75 = .ok (.getfield 40, 3) := by decide +kernel
theorem dX10_lessens_78 : decode cX10_lessens 78 = .ok (.iload_n 3, 1) := by decide +kernel
theorem dX10_lessens_79 : decode cX10_lessens 79 = .ok (.iaload, 1) := by decide +kernel
theorem dX10_lessens_80 : decode cX10_lessens 80 = .ok (.if_icmp .ne 19, 3) := by decide +kernel
theorem dX10_lessens_83 : decode cX10_lessens 83 = .ok (.aload_n 0, 1) := by decide +kernel
theorem dX10_lessens_84 : decode cX10_lessens 84 = .ok (.getfield 43, 3) := by decide +kernel
theorem dX10_lessens_87 : decode cX10_lessens 87 = .ok (.iload 5, 2) := by decide +kernel
theorem dX10_lessens_89 : decode cX10_lessens 89 = .ok (.iaload, 1) := by decide +kernel
theorem dX10_lessens_90 : decode cX10_lessens 90 = .ok (.aload_n 0, 1) := by decide +kernel
theorem dX10_lessens_91 : decode cX10_lessens 91 = .ok (.getfield 43, 3) := by decide +kernel
theorem dX10_lessens_94 : decode cX10_lessens 94 = .ok (.iload_n 3, 1) := by decide +kernel
theorem dX10_lessens_95 : decode cX10_lessens 95 = .ok (.iaload, 1) := by decide +kernel
theorem dX10_lessens_96 : decode cX10_lessens 96 = .ok (.if_icmp .eq 35, 3) := by decide +kernel
theorem dX10_lessens_99 : decode cX10_lessens 99 = .ok (.aload_n 0, 1) := by decide +kernel
theorem dX10_lessens_100 : decode cX10_lessens 100 = .ok (.getfield 40, 3) := by decide +kernel
theorem dX10_lessens_103 : decode cX10_lessens 103 = .ok (.iload 5, 2) := by decide +kernel
theorem dX10_lessens_105 : decode cX10_lessens 105 = .ok (.iaload, 1) := by decide +kernel
theorem dX10_lessens_106 : decode cX10_lessens 106 = .ok (.aload_n 0, 1) := by decide +kernel
theorem dX10_lessens_107 : decode cX10_lessens 107 = .ok (.getfield 43, 3) := by decide +kernel
theorem dX10_lessens_110 : decode cX10_lessens 110 = .ok (.iload_n 3, 1) := by decide +kernel
theorem dX10_lessens_111 : decode cX10_lessens 111 = .ok (.iaload, 1) := by decide +kernel
theorem dX10_lessens_112 : decode cX10_lessens 112 = .ok (.if_icmp .ne 23, 3) := by decide +kernel
theorem dX10_lessens_115 : decode cX10_lessens 115 = .ok (.aload_n 0, 1) := by decide +kernel
theorem dX10_lessens_116 : decode cX10_lessens 116 = .ok (.getfield 43, 3) := by decide +kernel
theorem dX10_lessens_119 : decode cX10_lessens 119 = .ok (.iload 5, 2) := by decide +kernel
theorem dX10_lessens_121 : decode cX10_lessens 121 = .ok (.iaload, 1) := by decide +kernel
theorem dX10_lessens_122 : decode cX10_lessens 122 = .ok (.aload_n 0, 1) := by decide +kernel
theorem dX10_lessens_123 : decode cX10_lessens 123 = .ok (.getfield 40, 3) := by decide +kernel
theorem dX10_lessens_126 : decode cX10_lessens 126 = .ok (.iload_n 3, 1) := by decide +kernel
theorem dX10_lessens_127 : decode cX10_lessens 127 = .ok (.iaload, 1) := by decide +kernel
theorem dX10_lessens_128 : decode cX10_lessens 128 = .ok (.if_icmp .ne 7, 3) := by decide +kernel
theorem dX10_lessens_131 : decode cX10_lessens 131 = .ok (.iconst 1, 1) := by decide +kernel
theorem dX10_lessens_132 : decode cX10_lessens 132 = .ok (.goto 4, 3) := by decide +kernel
theorem dX10_lessens_135 : decode cX10_lessens 135 = .ok (.iconst 0, 1) := by decide +kernel
theorem dX10_lessens_136 : decode cX10_lessens 136 = .ok (.ior, 1) := by decide +kernel
theorem dX10_lessens_137 : decode cX10_lessens 137 = .ok (.istore 4, 2) := by decide +kernel
theorem dX10_lessens_139 : decode cX10_lessens 139 = .ok (.iinc 5 1, 3) := by decide +kernel
theorem dX10_lessens_142 : decode cX10_lessens 142 = .ok (.goto (-93), 3) := by decide +kernel
theorem dX10_lessens_145 : decode cX10_lessens 145 = .ok (.aload_n 0, 1) := by decide +kernel
theorem dX10_lessens_146 : decode cX10_lessens 146 = .ok (.getfield 46, 3) := by decide +kernel
theorem dX10_lessens_149 : decode cX10_lessens 149 = .ok (.iload_n 3, 1) := by decide +kernel
theorem dX10_lessens_150 : decode cX10_lessens 150 = .ok (.baload, 1) := by decide +kernel
theorem dX10_lessens_151 : decode cX10_lessens 151 = .ok (.ifCond .eq 17, 3) := by decide +kernel
theorem dX10_lessens_154 : decode cX10_lessens 154 = .ok (.iload 4, 2) := by decide +kernel
theorem dX10_lessens_156 : decode cX10_lessens 156 = .ok (.ifCond .eq 12, 3) := by decide +kernel
theorem dX10_lessens_159 : decode cX10_lessens 159 = .ok (.aload_n 0, 1) := by decide +kernel
theorem dX10_lessens_160 : decode cX10_lessens 160 = .ok (.getfield 46, 3) := by decide +kernel
theorem dX10_lessens_163 : decode cX10_lessens 163 = .ok (.iload_n 3, 1) := by decide +kernel
theorem dX10_lessens_164 : decode cX10_lessens 164 = .ok (.iconst 0, 1) := by decide +kernel
theorem dX10_lessens_165 : decode cX10_lessens 165 = .ok (.bastore, 1) := by decide +kernel
theorem dX10_lessens_166 : decode cX10_lessens 166 = .ok (.iconst 1, 1) := by decide +kernel
theorem dX10_lessens_167 : decode cX10_lessens 167 = .ok (.ireturn, 1) := by decide +kernel
theorem dX10_lessens_168 : decode cX10_lessens 168 = .ok (.aload_n 0, 1) := by decide +kernel
theorem dX10_lessens_169 : decode cX10_lessens 169 = .ok (.getfield 46, 3) := by decide +kernel
theorem dX10_lessens_172 : decode cX10_lessens 172 = .ok (.iload_n 3, 1) := by decide +kernel
theorem dX10_lessens_173 : decode cX10_lessens 173 = .ok (.baload, 1) := by decide +kernel
theorem dX10_lessens_174 : decode cX10_lessens 174 = .ok (.ifCond .eq 80, 3) := by decide +kernel
theorem dX10_lessens_177 : decode cX10_lessens 177 = .ok (.aload_n 0, 1) := by decide +kernel
theorem dX10_lessens_178 : decode cX10_lessens 178 = .ok (.getfield 40, 3) := by decide +kernel
theorem dX10_lessens_181 : decode cX10_lessens 181 = .ok (.iload_n 3, 1) := by decide +kernel
theorem dX10_lessens_182 : decode cX10_lessens 182 = .ok (.iaload, 1) := by decide +kernel
theorem dX10_lessens_183 : decode cX10_lessens 183 = .ok (.iload_n 1, 1) := by decide +kernel
theorem dX10_lessens_184 : decode cX10_lessens 184 = .ok (.if_icmp .eq 27, 3) := by decide +kernel
theorem dX10_lessens_187 : decode cX10_lessens 187 = .ok (.aload_n 0, 1) := by decide +kernel
theorem dX10_lessens_188 : decode cX10_lessens 188 = .ok (.getfield 40, 3) := by decide +kernel
theorem dX10_lessens_191 : decode cX10_lessens 191 = .ok (.iload_n 3, 1) := by decide +kernel
theorem dX10_lessens_192 : decode cX10_lessens 192 = .ok (.iaload, 1) := by decide +kernel
theorem dX10_lessens_193 : decode cX10_lessens 193 = .ok (.iload_n 2, 1) := by decide +kernel
theorem dX10_lessens_194 : decode cX10_lessens 194 = .ok (.if_icmp .eq 17, 3) := by decide +kernel
theorem dX10_lessens_197 : decode cX10_lessens 197 = .ok (.aload_n 0, 1) := by decide +kernel
theorem dX10_lessens_198 : decode cX10_lessens 198 = .ok (.aload_n 0, 1) := by decide +kernel
theorem dX10_lessens_199 : decode cX10_lessens 199 = .ok (.getfield 40, 3) := by decide +kernel
theorem dX10_lessens_202 : decode cX10_lessens 202 = .ok (.iload_n 3, 1) := by decide +kernel
theorem dX10_lessens_203 : decode cX10_lessens 203 = .ok (.iaload, 1) := by decide +kernel
theorem dX10_lessens_204 : decode cX10_lessens 204 = .ok (.invokevirtual 170, 3) := by decide +kernel
theorem dX10_lessens_207 : decode cX10_lessens 207 = .ok (.iconst 1, 1) := by decide +kernel
theorem dX10_lessens_208 : decode cX10_lessens 208 = .ok (.if_icmp .eq 37, 3) := by decide +kernel
theorem dX10_lessens_211 : decode cX10_lessens 211 = .ok (.aload_n 0, 1) := by decide +kernel
theorem dX10_lessens_212 : decode cX10_lessens 212 = .ok (.getfield 43, 3) := by decide +kernel
theorem dX10_lessens_215 : decode cX10_lessens 215 = .ok (.iload_n 3, 1) := by decide +kernel
theorem dX10_lessens_216 : decode cX10_lessens 216 = .ok (.iaload, 1) := by decide +kernel
theorem dX10_lessens_217 : decode cX10_lessens 217 = .ok (.iload_n 1, 1) := by decide +kernel
theorem dX10_lessens_218 : decode cX10_lessens 218 = .ok (.if_icmp .eq 36, 3) := by decide +kernel
theorem dX10_lessens_221 : decode cX10_lessens 221 = .ok (.aload_n 0, 1) := by decide +kernel
theorem dX10_lessens_222 : decode cX10_lessens 222 = .ok (.getfield 43, 3) := by decide +kernel
theorem dX10_lessens_225 : decode cX10_lessens 225 = .ok (.iload_n 3, 1) := by decide +kernel
theorem dX10_lessens_226 : decode cX10_lessens 226 = .ok (.iaload, 1) := by decide +kernel
theorem dX10_lessens_227 : decode cX10_lessens 227 = .ok (.iload_n 2, 1) := by decide +kernel
theorem dX10_lessens_228 : decode cX10_lessens 228 = .ok (.if_icmp .eq 26, 3) := by decide +kernel
theorem dX10_lessens_231 : decode cX10_lessens 231 = .ok (.aload_n 0, 1) := by decide +kernel
theorem dX10_lessens_232 : decode cX10_lessens 232 = .ok (.aload_n 0, 1) := by decide +kernel
theorem dX10_lessens_233 : decode cX10_lessens 233 = .ok (.getfield 43, 3) := by decide +kernel
theorem dX10_lessens_236 : decode cX10_lessens 236 = .ok (.iload_n 3, 1) := by decide +kernel
theorem dX10_lessens_237 : decode cX10_lessens 237 = .ok (.iaload, 1) := by decide +kernel
theorem dX10_lessens_238 : decode cX10_lessens 238 = .ok (.invokevirtual 170, 3) := by decide +kernel
theorem dX10_lessens_241 : decode cX10_lessens 241 = .ok (.iconst 1, 1) := by decide +kernel
theorem dX10_lessens_242 : decode cX10_lessens 242 = .ok (.if_icmp .ne 12, 3) := by decide +kernel
theorem dX10_lessens_245 : decode cX10_lessens 245 = .ok (.aload_n 0, 1) := by decide +kernel
theorem dX10_lessens_246 : decode cX10_lessens 246 = .ok (.getfield 46, 3) := by decide +kernel
theorem dX10_lessens_249 : decode cX10_lessens 249 = .ok (.iload_n 3, 1) := by decide +kernel
theorem dX10_lessens_250 : decode cX10_lessens 250 = .ok (.iconst 0, 1) := by decide +kernel
theorem dX10_lessens_251 : decode cX10_lessens 251 = .ok (.bastore, 1) := by decide +kernel
theorem dX10_lessens_252 : decode cX10_lessens 252 = .ok (.iconst 1, 1) := by decide +kernel
theorem dX10_lessens_253 : decode cX10_lessens 253 = .ok (.ireturn, 1) := by decide +kernel
theorem dX10_lessens_254 : decode cX10_lessens 254 = .ok (.iinc 3 1, 3) := by decide +kernel
theorem dX10_lessens_257 : decode cX10_lessens 257 = .ok (.goto (-255), 3) := by decide +kernel
theorem dX10_lessens_260 : decode cX10_lessens 260 = .ok (.iconst 0, 1) := by decide +kernel
theorem dX10_lessens_261 : decode cX10_lessens 261 = .ok (.istore_n 3, 1) := by decide +kernel
theorem dX10_lessens_262 : decode cX10_lessens 262 = .ok (.iload_n 3, 1) := by decide +kernel
theorem dX10_lessens_263 : decode cX10_lessens 263 = .ok (.bipush 6, 2) := by decide +kernel
theorem dX10_lessens_265 : decode cX10_lessens 265 = .ok (.if_icmp .ge 35, 3) := by decide +kernel
theorem dX10_lessens_268 : decode cX10_lessens 268 = .ok (.iload_n 3, 1) := by decide +kernel
theorem dX10_lessens_269 : decode cX10_lessens 269 = .ok (.iload_n 1, 1) := by decide +kernel
theorem dX10_lessens_270 : decode cX10_lessens 270 = .ok (.if_icmp .eq 24, 3) := by decide +kernel
theorem dX10_lessens_273 : decode cX10_lessens 273 = .ok (.iload_n 3, 1) := by decide +kernel
theorem dX10_lessens_274 : decode cX10_lessens 274 = .ok (.iload_n 2, 1) := by decide +kernel
theorem dX10_lessens_275 : decode cX10_lessens 275 = .ok (.if_icmp .eq 19, 3) := by decide +kernel
theorem dX10_lessens_278 : decode cX10_lessens 278 = .ok (.aload_n 0, 1) := by decide +kernel
theorem dX10_lessens_279 : decode cX10_lessens 279 = .ok (.iload_n 3, 1) := by decide +kernel
theorem dX10_lessens_280 : decode cX10_lessens 280 = .ok (.invokevirtual 170, 3) := by decide +kernel
theorem dX10_lessens_283 : decode cX10_lessens 283 = .ok (.iconst 2, 1) := by decide +kernel
theorem dX10_lessens_284 : decode cX10_lessens 284 = .ok (.if_icmp .ne 10, 3) := by decide +kernel
theorem dX10_lessens_287 : decode cX10_lessens 287 = .ok (.aload_n 0, 1) := by decide +kernel
theorem dX10_lessens_288 : decode cX10_lessens 288 = .ok (.iload_n 3, 1) := by decide +kernel
theorem dX10_lessens_289 : decode cX10_lessens 289 = .ok (.invokevirtual 173, 3) := by decide +kernel
theorem dX10_lessens_292 : decode cX10_lessens 292 = .ok (.iconst 1, 1) := by decide +kernel
theorem dX10_lessens_293 : decode cX10_lessens 293 = .ok (.ireturn, 1) := by decide +kernel
theorem dX10_lessens_294 : decode cX10_lessens 294 = .ok (.iinc 3 1, 3) := by decide +kernel
theorem dX10_lessens_297 : decode cX10_lessens 297 = .ok (.goto (-35), 3) := by decide +kernel
theorem dX10_lessens_300 : decode cX10_lessens 300 = .ok (.iconst 0, 1) := by decide +kernel
theorem dX10_lessens_301 : decode cX10_lessens 301 = .ok (.ireturn, 1) := by decide +kernel
set_option maxRecDepth 20000 in
theorem ggX10_falls_X10_isKnot : GoodIn wsX10_falls wsX10_isKnot := goodIn_r _ [12, 13, 14, 11, 15] (by decide +kernel) (by decide +kernel)
set_option maxRecDepth 20000 in
theorem gX10_falls_X10_isKnot : GoodIn wsX10_falls (va_wsS RX10 116 yX10_isKnot wsX10_isKnot) := goodIn_app (goodIn_of _ (by decide +kernel)) ggX10_falls_X10_isKnot
set_option maxRecDepth 20000 in
theorem ggX10_falls_X10_hang : GoodIn wsX10_falls wsX10_hang := goodIn_r _ [19, 2, 8, 20, 21, 22, 23, 11, 24, 4, 6, 37, 38, 39, 40, 41, 42, 43, 44, 45, 46, 47, 48, 49, 50, 51, 52, 53, 54, 55, 56, 57, 58, 59, 60] (by decide +kernel) (by decide +kernel)
set_option maxRecDepth 20000 in
theorem gX10_falls_X10_hang : GoodIn wsX10_falls (wsV RX10 137 RX10 yX10_hang wsX10_hang) := goodIn_app (goodIn_of _ (by decide +kernel)) ggX10_falls_X10_hang
set_option maxRecDepth 20000 in
theorem ggX10_falls_X10_lessens : GoodIn wsX10_falls wsX10_lessens := goodIn_r _ [28, 2, 7, 3, 5, 29, 30, 31, 11, 32, 33, 34, 35, 36, 37, 38, 39, 40, 41, 42, 43, 44, 45, 46, 47, 48, 49, 50, 51, 52, 53, 54, 55, 56, 57, 58, 59, 60] (by decide +kernel) (by decide +kernel)
set_option maxRecDepth 20000 in
theorem gX10_falls_X10_lessens : GoodIn wsX10_falls (wsV RX10 177 RX10 yX10_lessens wsX10_lessens) := goodIn_app (goodIn_of _ (by decide +kernel)) ggX10_falls_X10_lessens
theorem dX10_falls_0 : decode cX10_falls 0 = .ok (.aload_n 0, 1) := by decide +kernel
theorem dX10_falls_1 : decode cX10_falls 1 = .ok (.iconst 0, 1) := by decide +kernel
theorem dX10_falls_2 : decode cX10_falls 2 = .ok (.putfield 59, 3) := by decide +kernel
theorem dX10_falls_5 : decode cX10_falls 5 = .ok (.iload_n 1, 1) := by decide +kernel
theorem dX10_falls_6 : decode cX10_falls 6 = .ok (.invokestatic 116, 3) := by decide +kernel
theorem dX10_falls_9 : decode cX10_falls 9 = .ok (.ifCond .eq 15, 3) := by decide +kernel
theorem dX10_falls_12 : decode cX10_falls 12 = .ok (.iload_n 2, 1) := by decide +kernel
theorem dX10_falls_13 : decode cX10_falls 13 = .ok (.invokestatic 116, 3) := by decide +kernel
theorem dX10_falls_16 : decode cX10_falls 16 = .ok (.ifCond .eq 8, 3) := by decide +kernel
theorem dX10_falls_19 : decode cX10_falls 19 = .ok (.iload_n 1, 1) := by decide +kernel
theorem dX10_falls_20 : decode cX10_falls 20 = .ok (.iload_n 2, 1) := by decide +kernel
theorem dX10_falls_21 : decode cX10_falls 21 = .ok (.if_icmp .ne 5, 3) := by decide +kernel
theorem dX10_falls_24 : decode cX10_falls 24 = .ok (.iconst (-1), 1) := by decide +kernel
theorem dX10_falls_25 : decode cX10_falls 25 = .ok (.ireturn, 1) := by decide +kernel
theorem dX10_falls_26 : decode cX10_falls 26 = .ok (.aload_n 0, 1) := by decide +kernel
theorem dX10_falls_27 : decode cX10_falls 27 = .ok (.iload_n 1, 1) := by decide +kernel
theorem dX10_falls_28 : decode cX10_falls 28 = .ok (.iload_n 2, 1) := by decide +kernel
theorem dX10_falls_29 : decode cX10_falls 29 = .ok (.invokevirtual 137, 3) := by decide +kernel
theorem dX10_falls_32 : decode cX10_falls 32 = .ok (.ifCond .ne 6, 3) := by decide +kernel
theorem dX10_falls_35 : decode cX10_falls 35 = .ok (.bipush (-2), 2) := by decide +kernel
theorem dX10_falls_37 : decode cX10_falls 37 = .ok (.ireturn, 1) := by decide +kernel
theorem dX10_falls_38 : decode cX10_falls 38 = .ok (.iconst 0, 1) := by decide +kernel
theorem dX10_falls_39 : decode cX10_falls 39 = .ok (.istore_n 3, 1) := by decide +kernel
theorem dX10_falls_40 : decode cX10_falls 40 = .ok (.iload_n 3, 1) := by decide +kernel
theorem dX10_falls_41 : decode cX10_falls 41 = .ok (.aload_n 0, 1) := by decide +kernel
theorem dX10_falls_42 : decode cX10_falls 42 = .ok (.getfield 119, 3) := by decide +kernel
theorem dX10_falls_45 : decode cX10_falls 45 = .ok (.if_icmp .ge 64, 3) := by decide +kernel
theorem dX10_falls_48 : decode cX10_falls 48 = .ok (.aload_n 0, 1) := by decide +kernel
theorem dX10_falls_49 : decode cX10_falls 49 = .ok (.getfield 40, 3) := by decide +kernel
theorem dX10_falls_52 : decode cX10_falls 52 = .ok (.iload_n 3, 1) := by decide +kernel
theorem dX10_falls_53 : decode cX10_falls 53 = .ok (.aload_n 0, 1) := by decide +kernel
theorem dX10_falls_54 : decode cX10_falls 54 = .ok (.getfield 22, 3) := by decide +kernel
theorem dX10_falls_57 : decode cX10_falls 57 = .ok (.iload_n 3, 1) := by decide +kernel
theorem dX10_falls_58 : decode cX10_falls 58 = .ok (.iaload, 1) := by decide +kernel
theorem dX10_falls_59 : decode cX10_falls 59 = .ok (.iastore, 1) := by decide +kernel
theorem dX10_falls_60 : decode cX10_falls 60 = .ok (.aload_n 0, 1) := by decide +kernel
theorem dX10_falls_61 : decode cX10_falls 61 = .ok (.getfield 43, 3) := by decide +kernel
theorem dX10_falls_64 : decode cX10_falls 64 = .ok (.iload_n 3, 1) := by decide +kernel
theorem dX10_falls_65 : decode cX10_falls 65 = .ok (.aload_n 0, 1) := by decide +kernel
theorem dX10_falls_66 : decode cX10_falls 66 = .ok (.getfield 25, 3) := by decide +kernel
theorem dX10_falls_69 : decode cX10_falls 69 = .ok (.iload_n 3, 1) := by decide +kernel
theorem dX10_falls_70 : decode cX10_falls 70 = .ok (.iaload, 1) := by decide +kernel
theorem dX10_falls_71 : decode cX10_falls 71 = .ok (.iastore, 1) := by decide +kernel
theorem dX10_falls_72 : decode cX10_falls 72 = .ok (.aload_n 0, 1) := by decide +kernel
theorem dX10_falls_73 : decode cX10_falls 73 = .ok (.getfield 46, 3) := by decide +kernel
theorem dX10_falls_76 : decode cX10_falls 76 = .ok (.iload_n 3, 1) := by decide +kernel
theorem dX10_falls_77 : decode cX10_falls 77 = .ok (.aload_n 0, 1) := by decide +kernel
theorem dX10_falls_78 : decode cX10_falls 78 = .ok (.getfield 37, 3) := by decide +kernel
theorem dX10_falls_81 : decode cX10_falls 81 = .ok (.aload_n 0, 1) := by decide +kernel
theorem dX10_falls_82 : decode cX10_falls 82 = .ok (.getfield 22, 3) := by decide +kernel
theorem dX10_falls_85 : decode cX10_falls 85 = .ok (.iload_n 3, 1) := by decide +kernel
theorem dX10_falls_86 : decode cX10_falls 86 = .ok (.iaload, 1) := by decide +kernel
theorem dX10_falls_87 : decode cX10_falls 87 = .ok (.iaload, 1) := by decide +kernel
theorem dX10_falls_88 : decode cX10_falls 88 = .ok (.aload_n 0, 1) := by decide +kernel
theorem dX10_falls_89 : decode cX10_falls 89 = .ok (.getfield 37, 3) := by decide +kernel
theorem dX10_falls_92 : decode cX10_falls 92 = .ok (.iload_n 1, 1) := by decide +kernel
theorem dX10_falls_93 : decode cX10_falls 93 = .ok (.iaload, 1) := by decide +kernel
theorem dX10_falls_94 : decode cX10_falls 94 = .ok (.if_icmp .ne 7, 3) := by decide +kernel
theorem dX10_falls_97 : decode cX10_falls 97 = .ok (.iconst 1, 1) := by decide +kernel
theorem dX10_falls_98 : decode cX10_falls 98 = .ok (.goto 4, 3) := by decide +kernel
theorem dX10_falls_101 : decode cX10_falls 101 = .ok (.iconst 0, 1) := by decide +kernel
theorem dX10_falls_102 : decode cX10_falls 102 = .ok (.bastore, 1) := by decide +kernel
theorem dX10_falls_103 : decode cX10_falls 103 = .ok (.iinc 3 1, 3) := by decide +kernel
theorem dX10_falls_106 : decode cX10_falls 106 = .ok (.goto (-66), 3) := by decide +kernel
theorem dX10_falls_109 : decode cX10_falls 109 = .ok (.iconst 1, 1) := by decide +kernel
theorem dX10_falls_110 : decode cX10_falls 110 = .ok (.istore_n 3, 1) := by decide +kernel
theorem dX10_falls_111 : decode cX10_falls 111 = .ok (.iload_n 3, 1) := by decide +kernel
theorem dX10_falls_112 : decode cX10_falls 112 = .ok (.ifCond .eq 13, 3) := by decide +kernel
theorem dX10_falls_115 : decode cX10_falls 115 = .ok (.aload_n 0, 1) := by decide +kernel
theorem dX10_falls_116 : decode cX10_falls 116 = .ok (.iload_n 1, 1) := by decide +kernel
theorem dX10_falls_117 : decode cX10_falls 117 = .ok (.iload_n 2, 1) := by decide +kernel
theorem dX10_falls_118 : decode cX10_falls 118 = .ok (.invokevirtual 177, 3) := by decide +kernel
theorem dX10_falls_121 : decode cX10_falls 121 = .ok (.istore_n 3, 1) := by decide +kernel
theorem dX10_falls_122 : decode cX10_falls 122 = .ok (.goto (-11), 3) := by decide +kernel
theorem dX10_falls_125 : decode cX10_falls 125 = .ok (.iconst 0, 1) := by decide +kernel
theorem dX10_falls_126 : decode cX10_falls 126 = .ok (.istore 4, 2) := by decide +kernel
theorem dX10_falls_128 : decode cX10_falls 128 = .ok (.iconst 0, 1) := by decide +kernel
theorem dX10_falls_129 : decode cX10_falls 129 = .ok (.istore 5, 2) := by decide +kernel
theorem dX10_falls_131 : decode cX10_falls 131 = .ok (.iconst 0, 1) := by decide +kernel
theorem dX10_falls_132 : decode cX10_falls 132 = .ok (.istore 6, 2) := by decide +kernel
theorem dX10_falls_134 : decode cX10_falls 134 = .ok (.iload 6, 2) := by decide +kernel
theorem dX10_falls_136 : decode cX10_falls 136 = .ok (.aload_n 0, 1) := by decide +kernel
theorem dX10_falls_137 : decode cX10_falls 137 = .ok (.getfield 119, 3) := by decide +kernel
theorem dX10_falls_140 : decode cX10_falls 140 = .ok (.if_icmp .ge 93, 3) := by decide +kernel
theorem dX10_falls_143 : decode cX10_falls 143 = .ok (.iload 4, 2) := by decide +kernel
theorem dX10_falls_145 : decode cX10_falls 145 = .ok (.aload_n 0, 1) := by decide +kernel
theorem dX10_falls_146 : decode cX10_falls 146 = .ok (.getfield 46, 3) := by decide +kernel
theorem dX10_falls_149 : decode cX10_falls 149 = .ok (.iload 6, 2) := by decide +kernel
theorem dX10_falls_151 : decode cX10_falls 151 = .ok (.baload, 1) := by decide +kernel
theorem dX10_falls_152 : decode cX10_falls 152 = .ok (.ifCond .eq 7, 3) := by decide +kernel
theorem dX10_falls_155 : decode cX10_falls 155 = .ok (.iconst 1, 1) := by decide +kernel
theorem dX10_falls_156 : decode cX10_falls 156 = .ok (.goto 4, 3) := by decide +kernel
theorem dX10_falls_159 : decode cX10_falls 159 = .ok (.iconst 0, 1) := by decide +kernel
theorem dX10_falls_160 : decode cX10_falls 160 = .ok (.iadd, 1) := by decide +kernel
theorem dX10_falls_161 : decode cX10_falls 161 = .ok (.istore 4, 2) := by decide +kernel
theorem dX10_falls_163 : decode cX10_falls 163 = .ok (.iload 5, 2) := by decide +kernel
theorem dX10_falls_165 : decode cX10_falls 165 = .ok (.aload_n 0, 1) := by decide +kernel
theorem dX10_falls_166 : decode cX10_falls 166 = .ok (.getfield 46, 3) := by decide +kernel
theorem dX10_falls_169 : decode cX10_falls 169 = .ok (.iload 6, 2) := by decide +kernel
theorem dX10_falls_171 : decode cX10_falls 171 = .ok (.baload, 1) := by decide +kernel
theorem dX10_falls_172 : decode cX10_falls 172 = .ok (.ifCond .eq 51, 3) := by decide +kernel
theorem dX10_falls_175 : decode cX10_falls 175 = .ok (.aload_n 0, 1) := by decide +kernel
theorem dX10_falls_176 : decode cX10_falls 176 = .ok (.getfield 40, 3) := by decide +kernel
theorem dX10_falls_179 : decode cX10_falls 179 = .ok (.iload 6, 2) := by decide +kernel
theorem dX10_falls_181 : decode cX10_falls 181 = .ok (.iaload, 1) := by decide +kernel
theorem dX10_falls_182 : decode cX10_falls 182 = .ok (.iload_n 1, 1) := by decide +kernel
theorem dX10_falls_183 : decode cX10_falls 183 = .ok (.if_icmp .ne 14, 3) := by decide +kernel
theorem dX10_falls_186 : decode cX10_falls 186 = .ok (.aload_n 0, 1) := by decide +kernel
theorem dX10_falls_187 : decode cX10_falls 187 = .ok (.getfield 43, 3) := by decide +kernel
theorem dX10_falls_190 : decode cX10_falls 190 = .ok (.iload 6, 2) := by decide +kernel
theorem dX10_falls_192 : decode cX10_falls 192 = .ok (.iaload, 1) := by decide +kernel
theorem dX10_falls_193 : decode cX10_falls 193 = .ok (.iload_n 2, 1) := by decide +kernel
theorem dX10_falls_194 : decode cX10_falls 194 = .ok (.if_icmp .eq 25, 3) := by decide +kernel
theorem dX10_falls_197 : decode cX10_falls 197 = .ok (.aload_n 0, 1) := by decide +kernel
theorem dX10_falls_198 : decode cX10_falls 198 = .ok (.getfield 40, 3) := by decide +kernel
theorem dX10_falls_201 : decode cX10_falls 201 = .ok (.iload 6, 2) := by decide +kernel
theorem dX10_falls_203 : decode cX10_falls 203 = .ok (.iaload, 1) := by decide +kernel
theorem dX10_falls_204 : decode cX10_falls 204 = .ok (.iload_n 2, 1) := by decide +kernel
theorem dX10_falls_205 : decode cX10_falls 205 = .ok (.if_icmp .ne 18, 3) := by decide +kernel
theorem dX10_falls_208 : decode cX10_falls 208 = .ok (.aload_n 0, 1) := by decide +kernel
theorem dX10_falls_209 : decode cX10_falls 209 = .ok (.getfield 43, 3) := by decide +kernel
theorem dX10_falls_212 : decode cX10_falls 212 = .ok (.iload 6, 2) := by decide +kernel
theorem dX10_falls_214 : decode cX10_falls 214 = .ok (.iaload, 1) := by decide +kernel
theorem dX10_falls_215 : decode cX10_falls 215 = .ok (.iload_n 1, 1) := by decide +kernel
theorem dX10_falls_216 : decode cX10_falls 216 = .ok (.if_icmp .ne 7, 3) := by decide +kernel
theorem dX10_falls_219 : decode cX10_falls 219 = .ok (.iconst 1, 1) := by decide +kernel
theorem dX10_falls_220 : decode cX10_falls 220 = .ok (.goto 4, 3) := by decide +kernel
theorem dX10_falls_223 : decode cX10_falls 223 = .ok (.iconst 0, 1) := by decide +kernel
theorem dX10_falls_224 : decode cX10_falls 224 = .ok (.ior, 1) := by decide +kernel
theorem dX10_falls_225 : decode cX10_falls 225 = .ok (.istore 5, 2) := by decide +kernel
theorem dX10_falls_227 : decode cX10_falls 227 = .ok (.iinc 6 1, 3) := by decide +kernel
theorem dX10_falls_230 : decode cX10_falls 230 = .ok (.goto (-96), 3) := by decide +kernel
theorem dX10_falls_233 : decode cX10_falls 233 = .ok (.iload 4, 2) := by decide +kernel
theorem dX10_falls_235 : decode cX10_falls 235 = .ok (.iconst 1, 1) := by decide +kernel
theorem dX10_falls_236 : decode cX10_falls 236 = .ok (.if_icmp .ne 12, 3) := by decide +kernel
theorem dX10_falls_239 : decode cX10_falls 239 = .ok (.iload 5, 2) := by decide +kernel
theorem dX10_falls_241 : decode cX10_falls 241 = .ok (.ifCond .eq 7, 3) := by decide +kernel
theorem dX10_falls_244 : decode cX10_falls 244 = .ok (.iconst 1, 1) := by decide +kernel
theorem dX10_falls_245 : decode cX10_falls 245 = .ok (.goto 4, 3) := by decide +kernel
theorem dX10_falls_248 : decode cX10_falls 248 = .ok (.iconst 0, 1) := by decide +kernel
theorem dX10_falls_249 : decode cX10_falls 249 = .ok (.ireturn, 1) := by decide +kernel
set_option maxRecDepth 20000 in
theorem ggX10_sort_X10_in : GoodIn wsX10_sort wsX10_in := goodIn_r _ [8] (by decide +kernel) (by decide +kernel)
set_option maxRecDepth 20000 in
theorem gX10_sort_X10_in : GoodIn wsX10_sort (va_wsS RX10 89 yX10_in wsX10_in) := goodIn_app (goodIn_of _ (by decide +kernel)) ggX10_sort_X10_in
theorem dX10_sort_0 : decode cX10_sort 0 = .ok (.aload_n 0, 1) := by decide +kernel
theorem dX10_sort_1 : decode cX10_sort 1 = .ok (.iconst 0, 1) := by decide +kernel
theorem dX10_sort_2 : decode cX10_sort 2 = .ok (.putfield 59, 3) := by decide +kernel
theorem dX10_sort_5 : decode cX10_sort 5 = .ok (.iload_n 1, 1) := by decide +kernel
theorem dX10_sort_6 : decode cX10_sort 6 = .ok (.iconst 1, 1) := by decide +kernel
theorem dX10_sort_7 : decode cX10_sort 7 = .ok (.bipush 100, 2) := by decide +kernel
theorem dX10_sort_9 : decode cX10_sort 9 = .ok (.invokestatic 89, 3) := by decide +kernel
theorem dX10_sort_12 : decode cX10_sort 12 = .ok (.ifCond .eq 13, 3) := by decide +kernel
theorem dX10_sort_15 : decode cX10_sort 15 = .ok (.iload_n 2, 1) := by decide +kernel
theorem dX10_sort_16 : decode cX10_sort 16 = .ok (.iconst 1, 1) := by decide +kernel
theorem dX10_sort_17 : decode cX10_sort 17 = .ok (.bipush 50, 2) := by decide +kernel
theorem dX10_sort_19 : decode cX10_sort 19 = .ok (.invokestatic 89, 3) := by decide +kernel
theorem dX10_sort_22 : decode cX10_sort 22 = .ok (.ifCond .ne 5, 3) := by decide +kernel
theorem dX10_sort_25 : decode cX10_sort 25 = .ok (.iconst (-1), 1) := by decide +kernel
theorem dX10_sort_26 : decode cX10_sort 26 = .ok (.ireturn, 1) := by decide +kernel
theorem dX10_sort_27 : decode cX10_sort 27 = .ok (.aload_n 0, 1) := by decide +kernel
theorem dX10_sort_28 : decode cX10_sort 28 = .ok (.getfield 180, 3) := by decide +kernel
theorem dX10_sort_31 : decode cX10_sort 31 = .ok (.bipush 6, 2) := by decide +kernel
theorem dX10_sort_33 : decode cX10_sort 33 = .ok (.if_icmp .ne 6, 3) := by decide +kernel
theorem dX10_sort_36 : decode cX10_sort 36 = .ok (.bipush (-3), 2) := by decide +kernel
theorem dX10_sort_38 : decode cX10_sort 38 = .ok (.ireturn, 1) := by decide +kernel
theorem dX10_sort_39 : decode cX10_sort 39 = .ok (.aload_n 0, 1) := by decide +kernel
theorem dX10_sort_40 : decode cX10_sort 40 = .ok (.getfield 53, 3) := by decide +kernel
theorem dX10_sort_43 : decode cX10_sort 43 = .ok (.aload_n 0, 1) := by decide +kernel
theorem dX10_sort_44 : decode cX10_sort 44 = .ok (.getfield 180, 3) := by decide +kernel
theorem dX10_sort_47 : decode cX10_sort 47 = .ok (.iload_n 1, 1) := by decide +kernel
theorem dX10_sort_48 : decode cX10_sort 48 = .ok (.iastore, 1) := by decide +kernel
theorem dX10_sort_49 : decode cX10_sort 49 = .ok (.aload_n 0, 1) := by decide +kernel
theorem dX10_sort_50 : decode cX10_sort 50 = .ok (.getfield 56, 3) := by decide +kernel
theorem dX10_sort_53 : decode cX10_sort 53 = .ok (.aload_n 0, 1) := by decide +kernel
theorem dX10_sort_54 : decode cX10_sort 54 = .ok (.getfield 180, 3) := by decide +kernel
theorem dX10_sort_57 : decode cX10_sort 57 = .ok (.iload_n 2, 1) := by decide +kernel
theorem dX10_sort_58 : decode cX10_sort 58 = .ok (.iastore, 1) := by decide +kernel
theorem dX10_sort_59 : decode cX10_sort 59 = .ok (.aload_n 0, 1) := by decide +kernel
theorem dX10_sort_60 : decode cX10_sort 60 = .ok (.dup, 1) := by decide +kernel
theorem dX10_sort_61 : decode cX10_sort 61 = .ok (.getfield 180, 3) := by decide +kernel
theorem dX10_sort_64 : decode cX10_sort 64 = .ok (.iconst 1, 1) := by decide +kernel
theorem dX10_sort_65 : decode cX10_sort 65 = .ok (.iadd, 1) := by decide +kernel
theorem dX10_sort_66 : decode cX10_sort 66 = .ok (.putfield 180, 3) := by decide +kernel
theorem dX10_sort_69 : decode cX10_sort 69 = .ok (.aload_n 0, 1) := by decide +kernel
theorem dX10_sort_70 : decode cX10_sort 70 = .ok (.getfield 180, 3) := by decide +kernel
theorem dX10_sort_73 : decode cX10_sort 73 = .ok (.iconst 1, 1) := by decide +kernel
theorem dX10_sort_74 : decode cX10_sort 74 = .ok (.isub, 1) := by decide +kernel
theorem dX10_sort_75 : decode cX10_sort 75 = .ok (.ireturn, 1) := by decide +kernel
set_option maxRecDepth 20000 in
theorem ggX10_isChoice_X10_in : GoodIn wsX10_isChoice wsX10_in := goodIn_r _ [5] (by decide +kernel) (by decide +kernel)
set_option maxRecDepth 20000 in
theorem gX10_isChoice_X10_in : GoodIn wsX10_isChoice (va_wsS RX10 89 yX10_in wsX10_in) := goodIn_app (goodIn_of _ (by decide +kernel)) ggX10_isChoice_X10_in
theorem dX10_isChoice_0 : decode cX10_isChoice 0 = .ok (.iload_n 1, 1) := by decide +kernel
theorem dX10_isChoice_1 : decode cX10_isChoice 1 = .ok (.bipush 100, 2) := by decide +kernel
theorem dX10_isChoice_3 : decode cX10_isChoice 3 = .ok (.if_icmp .ge 15, 3) := by decide +kernel
theorem dX10_isChoice_6 : decode cX10_isChoice 6 = .ok (.iload_n 1, 1) := by decide +kernel
theorem dX10_isChoice_7 : decode cX10_isChoice 7 = .ok (.iconst 0, 1) := by decide +kernel
theorem dX10_isChoice_8 : decode cX10_isChoice 8 = .ok (.aload_n 0, 1) := by decide +kernel
theorem dX10_isChoice_9 : decode cX10_isChoice 9 = .ok (.getfield 180, 3) := by decide +kernel
theorem dX10_isChoice_12 : decode cX10_isChoice 12 = .ok (.iconst 1, 1) := by decide +kernel
theorem dX10_isChoice_13 : decode cX10_isChoice 13 = .ok (.isub, 1) := by decide +kernel
theorem dX10_isChoice_14 : decode cX10_isChoice 14 = .ok (.invokestatic 89, 3) := by decide +kernel
theorem dX10_isChoice_17 : decode cX10_isChoice 17 = .ok (.ireturn, 1) := by decide +kernel
theorem dX10_isChoice_18 : decode cX10_isChoice 18 = .ok (.iload_n 1, 1) := by decide +kernel
theorem dX10_isChoice_19 : decode cX10_isChoice 19 = .ok (.bipush 100, 2) := by decide +kernel
theorem dX10_isChoice_21 : decode cX10_isChoice 21 = .ok (.irem, 1) := by decide +kernel
theorem dX10_isChoice_22 : decode cX10_isChoice 22 = .ok (.bipush 10, 2) := by decide +kernel
theorem dX10_isChoice_24 : decode cX10_isChoice 24 = .ok (.idiv, 1) := by decide +kernel
theorem dX10_isChoice_25 : decode cX10_isChoice 25 = .ok (.istore_n 2, 1) := by decide +kernel
theorem dX10_isChoice_26 : decode cX10_isChoice 26 = .ok (.iload_n 1, 1) := by decide +kernel
theorem dX10_isChoice_27 : decode cX10_isChoice 27 = .ok (.sipush 300, 3) := by decide +kernel
theorem dX10_isChoice_30 : decode cX10_isChoice 30 = .ok (.if_icmp .ge 26, 3) := by decide +kernel
theorem dX10_isChoice_33 : decode cX10_isChoice 33 = .ok (.iload_n 2, 1) := by decide +kernel
theorem dX10_isChoice_34 : decode cX10_isChoice 34 = .ok (.iload_n 1, 1) := by decide +kernel
theorem dX10_isChoice_35 : decode cX10_isChoice 35 = .ok (.bipush 10, 2) := by decide +kernel
theorem dX10_isChoice_37 : decode cX10_isChoice 37 = .ok (.irem, 1) := by decide +kernel
theorem dX10_isChoice_38 : decode cX10_isChoice 38 = .ok (.if_icmp .gt 18, 3) := by decide +kernel
theorem dX10_isChoice_41 : decode cX10_isChoice 41 = .ok (.iload_n 1, 1) := by decide +kernel
theorem dX10_isChoice_42 : decode cX10_isChoice 42 = .ok (.bipush 10, 2) := by decide +kernel
theorem dX10_isChoice_44 : decode cX10_isChoice 44 = .ok (.irem, 1) := by decide +kernel
theorem dX10_isChoice_45 : decode cX10_isChoice 45 = .ok (.aload_n 0, 1) := by decide +kernel
theorem dX10_isChoice_46 : decode cX10_isChoice 46 = .ok (.getfield 180, 3) := by decide +kernel
theorem dX10_isChoice_49 : decode cX10_isChoice 49 = .ok (.if_icmp .ge 7, 3) := by decide +kernel
theorem dX10_isChoice_52 : decode cX10_isChoice 52 = .ok (.iconst 1, 1) := by decide +kernel
theorem dX10_isChoice_53 : decode cX10_isChoice 53 = .ok (.goto 4, 3) := by decide +kernel
theorem dX10_isChoice_56 : decode cX10_isChoice 56 = .ok (.iconst 0, 1) := by decide +kernel
theorem dX10_isChoice_57 : decode cX10_isChoice 57 = .ok (.ireturn, 1) := by decide +kernel
set_option maxRecDepth 20000 in
theorem ggX10_looks_X10_least : GoodIn wsX10_looks wsX10_least := goodIn_r _ [7, 8, 9, 10, 11, 6, 12, 13, 14, 15, 16, 17, 18, 19, 20, 21, 22, 23, 24, 25, 26, 27, 28, 29, 30, 31, 32, 33, 34, 35, 36] (by decide +kernel) (by decide +kernel)
set_option maxRecDepth 20000 in
theorem gX10_looks_X10_least : GoodIn wsX10_looks (wsV RX10 74 RX10 yX10_least wsX10_least) := goodIn_app (goodIn_of _ (by decide +kernel)) ggX10_looks_X10_least
theorem dX10_looks_0 : decode cX10_looks 0 = .ok (.iload_n 1, 1) := by decide +kernel
theorem dX10_looks_1 : decode cX10_looks 1 = .ok (.bipush 100, 2) := by decide +kernel
theorem dX10_looks_3 : decode cX10_looks 3 = .ok (.if_icmp .ge 7, 3) := by decide +kernel
theorem dX10_looks_6 : decode cX10_looks 6 = .ok (.iload_n 1, 1) := by decide +kernel
theorem dX10_looks_7 : decode cX10_looks 7 = .ok (.goto 10, 3) := by decide +kernel
theorem dX10_looks_10 : decode cX10_looks 10 = .ok (.iload_n 1, 1) := by decide +kernel
theorem dX10_looks_11 : decode cX10_looks 11 = .ok (.bipush 100, 2) := by decide +kernel
theorem dX10_looks_13 : decode cX10_looks 13 = .ok (.irem, 1) := by decide +kernel
theorem dX10_looks_14 : decode cX10_looks 14 = .ok (.bipush 10, 2) := by decide +kernel
theorem dX10_looks_16 : decode cX10_looks 16 = .ok (.idiv, 1) := by decide +kernel
theorem dX10_looks_17 : decode cX10_looks 17 = .ok (.istore_n 2, 1) := by decide +kernel
theorem dX10_looks_18 : decode cX10_looks 18 = .ok (.iload_n 1, 1) := by decide +kernel
theorem dX10_looks_19 : decode cX10_looks 19 = .ok (.bipush 10, 2) := by decide +kernel
theorem dX10_looks_21 : decode cX10_looks 21 = .ok (.irem, 1) := by decide +kernel
theorem dX10_looks_22 : decode cX10_looks 22 = .ok (.istore_n 3, 1) := by decide +kernel
theorem dX10_looks_23 : decode cX10_looks 23 = .ok (.iload_n 1, 1) := by decide +kernel
theorem dX10_looks_24 : decode cX10_looks 24 = .ok (.bipush 100, 2) := by decide +kernel
theorem dX10_looks_26 : decode cX10_looks 26 = .ok (.if_icmp .ge 22, 3) := by decide +kernel
theorem dX10_looks_29 : decode cX10_looks 29 = .ok (.aload_n 0, 1) := by decide +kernel
theorem dX10_looks_30 : decode cX10_looks 30 = .ok (.aload_n 0, 1) := by decide +kernel
theorem dX10_looks_31 : decode cX10_looks 31 = .ok (.getfield 53, 3) := by decide +kernel
theorem dX10_looks_34 : decode cX10_looks 34 = .ok (.iload_n 2, 1) := by decide +kernel
theorem dX10_looks_35 : decode cX10_looks 35 = .ok (.iaload, 1) := by decide +kernel
theorem dX10_looks_36 : decode cX10_looks 36 = .ok (.i2l, 1) := by decide +kernel
theorem dX10_looks_37 : decode cX10_looks 37 = .ok (.lconst 1, 1) := by decide +kernel
theorem dX10_looks_38 : decode cX10_looks 38 = .ok (.invokevirtual 74, 3) := by decide +kernel
theorem dX10_looks_41 : decode cX10_looks 41 = .ok (.aload_n 0, 1) := by decide +kernel
theorem dX10_looks_42 : decode cX10_looks 42 = .ok (.getfield 56, 3) := by decide +kernel
theorem dX10_looks_45 : decode cX10_looks 45 = .ok (.iload_n 2, 1) := by decide +kernel
theorem dX10_looks_46 : decode cX10_looks 46 = .ok (.iaload, 1) := by decide +kernel
theorem dX10_looks_47 : decode cX10_looks 47 = .ok (.ireturn, 1) := by decide +kernel
theorem dX10_looks_48 : decode cX10_looks 48 = .ok (.aload_n 0, 1) := by decide +kernel
theorem dX10_looks_49 : decode cX10_looks 49 = .ok (.getfield 53, 3) := by decide +kernel
theorem dX10_looks_52 : decode cX10_looks 52 = .ok (.iload_n 2, 1) := by decide +kernel
theorem dX10_looks_53 : decode cX10_looks 53 = .ok (.iaload, 1) := by decide +kernel
theorem dX10_looks_54 : decode cX10_looks 54 = .ok (.aload_n 0, 1) := by decide +kernel
theorem dX10_looks_55 : decode cX10_looks 55 = .ok (.getfield 53, 3) := by decide +kernel
theorem dX10_looks_58 : decode cX10_looks 58 = .ok (.iload_n 3, 1) := by decide +kernel
theorem dX10_looks_59 : decode cX10_looks 59 = .ok (.iaload, 1) := by decide +kernel
theorem dX10_looks_60 : decode cX10_looks 60 = .ok (.iadd, 1) := by decide +kernel
theorem dX10_looks_61 : decode cX10_looks 61 = .ok (.istore 4, 2) := by decide +kernel
theorem dX10_looks_63 : decode cX10_looks 63 = .ok (.iload_n 1, 1) := by decide +kernel
theorem dX10_looks_64 : decode cX10_looks 64 = .ok (.sipush 200, 3) := by decide +kernel
theorem dX10_looks_67 : decode cX10_looks 67 = .ok (.if_icmp .ge 14, 3) := by decide +kernel
theorem dX10_looks_70 : decode cX10_looks 70 = .ok (.aload_n 0, 1) := by decide +kernel
theorem dX10_looks_71 : decode cX10_looks 71 = .ok (.iload 4, 2) := by decide +kernel
theorem dX10_looks_73 : decode cX10_looks 73 = .ok (.i2l, 1) := by decide +kernel
theorem dX10_looks_74 : decode cX10_looks 74 = .ok (.lconst 1, 1) := by decide +kernel
theorem dX10_looks_75 : decode cX10_looks 75 = .ok (.invokevirtual 74, 3) := by decide +kernel
theorem dX10_looks_78 : decode cX10_looks 78 = .ok (.goto 25, 3) := by decide +kernel
theorem dX10_looks_81 : decode cX10_looks 81 = .ok (.aload_n 0, 1) := by decide +kernel
theorem dX10_looks_82 : decode cX10_looks 82 = .ok (.aload_n 0, 1) := by decide +kernel
theorem dX10_looks_83 : decode cX10_looks 83 = .ok (.getfield 53, 3) := by decide +kernel
theorem dX10_looks_86 : decode cX10_looks 86 = .ok (.iload_n 2, 1) := by decide +kernel
theorem dX10_looks_87 : decode cX10_looks 87 = .ok (.iaload, 1) := by decide +kernel
theorem dX10_looks_88 : decode cX10_looks 88 = .ok (.i2l, 1) := by decide +kernel
theorem dX10_looks_89 : decode cX10_looks 89 = .ok (.aload_n 0, 1) := by decide +kernel
theorem dX10_looks_90 : decode cX10_looks 90 = .ok (.getfield 53, 3) := by decide +kernel
theorem dX10_looks_93 : decode cX10_looks 93 = .ok (.iload_n 3, 1) := by decide +kernel
theorem dX10_looks_94 : decode cX10_looks 94 = .ok (.iaload, 1) := by decide +kernel
theorem dX10_looks_95 : decode cX10_looks 95 = .ok (.i2l, 1) := by decide +kernel
theorem dX10_looks_96 : decode cX10_looks 96 = .ok (.lmul, 1) := by decide +kernel
theorem dX10_looks_97 : decode cX10_looks 97 = .ok (.iload 4, 2) := by decide +kernel
theorem dX10_looks_99 : decode cX10_looks 99 = .ok (.i2l, 1) := by decide +kernel
theorem dX10_looks_100 : decode cX10_looks 100 = .ok (.invokevirtual 74, 3) := by decide +kernel
theorem dX10_looks_103 : decode cX10_looks 103 = .ok (.aload_n 0, 1) := by decide +kernel
theorem dX10_looks_104 : decode cX10_looks 104 = .ok (.getfield 56, 3) := by decide +kernel
theorem dX10_looks_107 : decode cX10_looks 107 = .ok (.iload_n 2, 1) := by decide +kernel
theorem dX10_looks_108 : decode cX10_looks 108 = .ok (.iaload, 1) := by decide +kernel
theorem dX10_looks_109 : decode cX10_looks 109 = .ok (.aload_n 0, 1) := by decide +kernel
theorem dX10_looks_110 : decode cX10_looks 110 = .ok (.getfield 56, 3) := by decide +kernel
theorem dX10_looks_113 : decode cX10_looks 113 = .ok (.iload_n 3, 1) := by decide +kernel
theorem dX10_looks_114 : decode cX10_looks 114 = .ok (.iaload, 1) := by decide +kernel
theorem dX10_looks_115 : decode cX10_looks 115 = .ok (.iadd, 1) := by decide +kernel
theorem dX10_looks_116 : decode cX10_looks 116 = .ok (.ireturn, 1) := by decide +kernel
set_option maxRecDepth 20000 in
theorem ggX10_nearest_X10_in : GoodIn wsX10_nearest wsX10_in := goodIn_r _ [8] (by decide +kernel) (by decide +kernel)
set_option maxRecDepth 20000 in
theorem gX10_nearest_X10_in : GoodIn wsX10_nearest (va_wsS RX10 89 yX10_in wsX10_in) := goodIn_app (goodIn_of _ (by decide +kernel)) ggX10_nearest_X10_in
set_option maxRecDepth 20000 in
theorem ggX10_nearest_X10_isChoice : GoodIn wsX10_nearest wsX10_isChoice := goodIn_r _ [12, 2, 5, 6, 7, 8, 26, 27, 28, 29, 30, 31, 32, 33, 34, 35, 36, 37, 38, 39, 40, 41, 42, 43, 44, 45, 46, 47, 48, 49] (by decide +kernel) (by decide +kernel)
set_option maxRecDepth 20000 in
theorem gX10_nearest_X10_isChoice : GoodIn wsX10_nearest (wsV RX10 183 RX10 yX10_isChoice wsX10_isChoice) := goodIn_app (goodIn_of _ (by decide +kernel)) ggX10_nearest_X10_isChoice
set_option maxRecDepth 20000 in
theorem ggX10_nearest_X10_looks : GoodIn wsX10_nearest wsX10_looks := goodIn_r _ [16, 17, 18, 19, 20, 21, 7, 22, 3, 4, 23, 24, 25, 26, 27, 28, 29, 30, 31, 32, 33, 34, 35, 36, 37, 38, 39, 40, 41, 42, 43, 44, 45, 46, 47, 48, 49] (by decide +kernel) (by decide +kernel)
set_option maxRecDepth 20000 in
theorem gX10_nearest_X10_looks : GoodIn wsX10_nearest (wsV RX10 186 RX10 yX10_looks wsX10_looks) := goodIn_app (goodIn_of _ (by decide +kernel)) ggX10_nearest_X10_looks
theorem dX10_nearest_0 : decode cX10_nearest 0 = .ok (.aload_n 0, 1) := by decide +kernel
theorem dX10_nearest_1 : decode cX10_nearest 1 = .ok (.iconst 0, 1) := by decide +kernel
theorem dX10_nearest_2 : decode cX10_nearest 2 = .ok (.putfield 59, 3) := by decide +kernel
theorem dX10_nearest_5 : decode cX10_nearest 5 = .ok (.iload_n 1, 1) := by decide +kernel
theorem dX10_nearest_6 : decode cX10_nearest 6 = .ok (.iconst 1, 1) := by decide +kernel
theorem dX10_nearest_7 : decode cX10_nearest 7 = .ok (.sipush 1000, 3) := by decide +kernel
theorem dX10_nearest_10 : decode cX10_nearest 10 = .ok (.invokestatic 89, 3) := by decide +kernel
theorem dX10_nearest_13 : decode cX10_nearest 13 = .ok (.ifCond .eq 14, 3) := by decide +kernel
theorem dX10_nearest_16 : decode cX10_nearest 16 = .ok (.iload_n 2, 1) := by decide +kernel
theorem dX10_nearest_17 : decode cX10_nearest 17 = .ok (.iconst 1, 1) := by decide +kernel
theorem dX10_nearest_18 : decode cX10_nearest 18 = .ok (.sipush 1000, 3) := by decide +kernel
theorem dX10_nearest_21 : decode cX10_nearest 21 = .ok (.invokestatic 89, 3) := by decide +kernel
theorem dX10_nearest_24 : decode cX10_nearest 24 = .ok (.ifCond .ne 5, 3) := by decide +kernel
theorem dX10_nearest_27 : decode cX10_nearest 27 = .ok (.iconst (-1), 1) := by decide +kernel
theorem dX10_nearest_28 : decode cX10_nearest 28 = .ok (.ireturn, 1) := by decide +kernel
theorem dX10_nearest_29 : decode cX10_nearest 29 = .ok (.aload_n 0, 1) := by decide +kernel
theorem dX10_nearest_30 : decode cX10_nearest 30 = .ok (.getfield 180, 3) := by decide +kernel
theorem dX10_nearest_33 : decode cX10_nearest 33 = .ok (.ifCond .ne 6, 3) := by decide +kernel
theorem dX10_nearest_36 : decode cX10_nearest 36 = .ok (.bipush (-2), 2) := by decide +kernel
theorem dX10_nearest_38 : decode cX10_nearest 38 = .ok (.ireturn, 1) := by decide +kernel
theorem dX10_nearest_39 : decode cX10_nearest 39 = .ok (.bipush (-9), 2) := by decide +kernel
theorem dX10_nearest_41 : decode cX10_nearest 41 = .ok (.istore_n 3, 1) := by decide +kernel
theorem dX10_nearest_42 : decode cX10_nearest 42 = .ok (.lconst 0, 1) := by decide +kernel
theorem dX10_nearest_43 : decode cX10_nearest 43 = .ok (.lstore 4, 2) := by decide +kernel
theorem dX10_nearest_45 : decode cX10_nearest 45 = .ok (.lconst 1, 1) := by decide +kernel
theorem dX10_nearest_46 : decode cX10_nearest 46 = .ok (.lstore 6, 2) := by decide +kernel
theorem dX10_nearest_48 : decode cX10_nearest 48 = .ok (.iconst 0, 1) := by decide +kernel
theorem dX10_nearest_49 : decode cX10_nearest 49 = .ok (.istore 8, 2) := by decide +kernel
theorem dX10_nearest_51 : decode cX10_nearest 51 = .ok (.iconst 0, 1) := by decide +kernel
theorem dX10_nearest_52 : decode cX10_nearest 52 = .ok (.istore 9, 2) := by decide +kernel
theorem dX10_nearest_54 : decode cX10_nearest 54 = .ok (.iload 9, 2) := by decide +kernel
theorem dX10_nearest_56 : decode cX10_nearest 56 = .ok (.sipush 300, 3) := by decide +kernel
theorem dX10_nearest_59 : decode cX10_nearest 59 = .ok (.if_icmp .ge 124, 3) := by decide +kernel
theorem dX10_nearest_62 : decode cX10_nearest 62 = .ok (.aload_n 0, 1) := by decide +kernel
theorem dX10_nearest_63 : decode cX10_nearest 63 = .ok (.iload 9, 2) := by decide +kernel
theorem dX10_nearest_65 : decode cX10_nearest 65 = .ok (.invokevirtual 183, 3) := by decide +kernel
theorem dX10_nearest_68 : decode cX10_nearest 68 = .ok (.ifCond .eq 109, 3) := by decide +kernel
theorem dX10_nearest_71 : decode cX10_nearest 71 = .ok (.aload_n 0, 1) := by decide +kernel
theorem dX10_nearest_72 : decode cX10_nearest 72 = .ok (.iload 9, 2) := by decide +kernel
theorem dX10_nearest_74 : decode cX10_nearest 74 = .ok (.invokevirtual 186, 3) := by decide +kernel
theorem dX10_nearest_77 : decode cX10_nearest 77 = .ok (.istore 10, 2) := by decide +kernel
theorem dX10_nearest_79 : decode cX10_nearest 79 = .ok (.aload_n 0, 1) := by decide +kernel
theorem dX10_nearest_80 : decode cX10_nearest 80 = .ok (.getfield 67, 3) := by decide +kernel
theorem dX10_nearest_83 : decode cX10_nearest 83 = .ok (.iload_n 2, 1) := by decide +kernel
theorem dX10_nearest_84 : decode cX10_nearest 84 = .ok (.i2l, 1) := by decide +kernel
theorem dX10_nearest_85 : decode cX10_nearest 85 = .ok (.lmul, 1) := by decide +kernel
theorem dX10_nearest_86 : decode cX10_nearest 86 = .ok (.iload_n 1, 1) := by decide +kernel
theorem dX10_nearest_87 : decode cX10_nearest 87 = .ok (.i2l, 1) := by decide +kernel
theorem dX10_nearest_88 : decode cX10_nearest 88 = .ok (.aload_n 0, 1) := by decide +kernel
theorem dX10_nearest_89 : decode cX10_nearest 89 = .ok (.getfield 71, 3) := by decide +kernel
theorem dX10_nearest_92 : decode cX10_nearest 92 = .ok (.lmul, 1) := by decide +kernel
theorem dX10_nearest_93 : decode cX10_nearest 93 = .ok (.lsub, 1) := by decide +kernel
theorem dX10_nearest_94 : decode cX10_nearest 94 = .ok (.lstore 11, 2) := by decide +kernel
theorem dX10_nearest_96 : decode cX10_nearest 96 = .ok (.lload 11, 2) := by decide +kernel
theorem dX10_nearest_98 : decode cX10_nearest 98 = .ok (.lconst 0, 1) := by decide +kernel
theorem dX10_nearest_99 : decode cX10_nearest 99 = .ok (.lcmp, 1) := by decide +kernel
theorem dX10_nearest_100 : decode cX10_nearest 100 = .ok (.ifCond .ge 9, 3) := by decide +kernel
theorem dX10_nearest_103 : decode cX10_nearest 103 = .ok (.lload 11, 2) := by decide +kernel
theorem dX10_nearest_105 : decode cX10_nearest 105 = .ok (.lneg, 1) := by decide +kernel
theorem dX10_nearest_106 : decode cX10_nearest 106 = .ok (.goto 5, 3) := by decide +kernel
theorem dX10_nearest_109 : decode cX10_nearest 109 = .ok (.lload 11, 2) := by decide +kernel
theorem dX10_nearest_111 : decode cX10_nearest 111 = .ok (.lstore 11, 2) := by decide +kernel
theorem dX10_nearest_113 : decode cX10_nearest 113 = .ok (.aload_n 0, 1) := by decide +kernel
theorem dX10_nearest_114 : decode cX10_nearest 114 = .ok (.getfield 71, 3) := by decide +kernel
theorem dX10_nearest_117 : decode cX10_nearest 117 = .ok (.iload_n 2, 1) := by decide +kernel
theorem dX10_nearest_118 : decode cX10_nearest 118 = .ok (.i2l, 1) := by decide +kernel
theorem dX10_nearest_119 : decode cX10_nearest 119 = .ok (.lmul, 1) := by decide +kernel
theorem dX10_nearest_120 : decode cX10_nearest 120 = .ok (.lstore 13, 2) := by decide +kernel
theorem dX10_nearest_122 : decode cX10_nearest 122 = .ok (.lload 11, 2) := by decide +kernel
theorem dX10_nearest_124 : decode cX10_nearest 124 = .ok (.lload 6, 2) := by decide +kernel
theorem dX10_nearest_126 : decode cX10_nearest 126 = .ok (.lmul, 1) := by decide +kernel
theorem dX10_nearest_127 : decode cX10_nearest 127 = .ok (.lload 4, 2) := by decide +kernel
theorem dX10_nearest_129 : decode cX10_nearest 129 = .ok (.lload 13, 2) := by decide +kernel
theorem dX10_nearest_131 : decode cX10_nearest 131 = .ok (.lmul, 1) := by decide +kernel
theorem dX10_nearest_132 : decode cX10_nearest 132 = .ok (.lsub, 1) := by decide +kernel
theorem dX10_nearest_133 : decode cX10_nearest 133 = .ok (.lstore 15, 2) := by decide +kernel
theorem dX10_nearest_135 : decode cX10_nearest 135 = .ok (.iload_n 3, 1) := by decide +kernel
theorem dX10_nearest_136 : decode cX10_nearest 136 = .ok (.bipush (-9), 2) := by decide +kernel
theorem dX10_nearest_138 : decode cX10_nearest 138 = .ok (.if_icmp .eq 24, 3) := by decide +kernel
theorem dX10_nearest_141 : decode cX10_nearest 141 = .ok (.lload 15, 2) := by decide +kernel
theorem dX10_nearest_143 : decode cX10_nearest 143 = .ok (.lconst 0, 1) := by decide +kernel
theorem dX10_nearest_144 : decode cX10_nearest 144 = .ok (.lcmp, 1) := by decide +kernel
theorem dX10_nearest_145 : decode cX10_nearest 145 = .ok (.ifCond .lt 17, 3) := by decide +kernel
theorem dX10_nearest_148 : decode cX10_nearest 148 = .ok (.lload 15, 2) := by decide +kernel
theorem dX10_nearest_150 : decode cX10_nearest 150 = .ok (.lconst 0, 1) := by decide +kernel
theorem dX10_nearest_151 : decode cX10_nearest 151 = .ok (.lcmp, 1) := by decide +kernel
theorem dX10_nearest_152 : decode cX10_nearest 152 = .ok (.ifCond .ne 25, 3) := by decide +kernel
theorem dX10_nearest_155 : decode cX10_nearest 155 = .ok (.iload 10, 2) := by decide +kernel
theorem dX10_nearest_157 : decode cX10_nearest 157 = .ok (.iload 8, 2) := by decide +kernel
theorem dX10_nearest_159 : decode cX10_nearest 159 = .ok (.if_icmp .ge 18, 3) := by decide +kernel
theorem dX10_nearest_162 : decode cX10_nearest 162 = .ok (.iload 9, 2) := by decide +kernel
theorem dX10_nearest_164 : decode cX10_nearest 164 = .ok (.istore_n 3, 1) := by decide +kernel
theorem dX10_nearest_165 : decode cX10_nearest 165 = .ok (.lload 11, 2) := by decide +kernel
theorem dX10_nearest_167 : decode cX10_nearest 167 = .ok (.lstore 4, 2) := by decide +kernel
theorem dX10_nearest_169 : decode cX10_nearest 169 = .ok (.lload 13, 2) := by decide +kernel
theorem dX10_nearest_171 : decode cX10_nearest 171 = .ok (.lstore 6, 2) := by decide +kernel
theorem dX10_nearest_173 : decode cX10_nearest 173 = .ok (.iload 10, 2) := by decide +kernel
theorem dX10_nearest_175 : decode cX10_nearest 175 = .ok (.istore 8, 2) := by decide +kernel
theorem dX10_nearest_177 : decode cX10_nearest 177 = .ok (.iinc 9 1, 3) := by decide +kernel
theorem dX10_nearest_180 : decode cX10_nearest 180 = .ok (.goto (-126), 3) := by decide +kernel
theorem dX10_nearest_183 : decode cX10_nearest 183 = .ok (.iload_n 3, 1) := by decide +kernel
theorem dX10_nearest_184 : decode cX10_nearest 184 = .ok (.ireturn, 1) := by decide +kernel
set_option maxRecDepth 20000 in
theorem ggX10_choice_X10_isChoice : GoodIn wsX10_choice wsX10_isChoice := goodIn_r _ [8, 9, 10, 11, 7, 12, 26, 27, 28, 29, 30, 31, 32, 33, 34, 35, 36, 37, 38, 39, 40, 41, 42, 43, 44, 45, 46, 47, 48, 49] (by decide +kernel) (by decide +kernel)
set_option maxRecDepth 20000 in
theorem gX10_choice_X10_isChoice : GoodIn wsX10_choice (wsV RX10 183 RX10 yX10_isChoice wsX10_isChoice) := goodIn_app (goodIn_of _ (by decide +kernel)) ggX10_choice_X10_isChoice
set_option maxRecDepth 20000 in
theorem ggX10_choice_X10_in : GoodIn wsX10_choice wsX10_in := goodIn_r _ [12] (by decide +kernel) (by decide +kernel)
set_option maxRecDepth 20000 in
theorem gX10_choice_X10_in : GoodIn wsX10_choice (va_wsS RX10 89 yX10_in wsX10_in) := goodIn_app (goodIn_of _ (by decide +kernel)) ggX10_choice_X10_in
set_option maxRecDepth 20000 in
theorem ggX10_choice_X10_looks : GoodIn wsX10_choice wsX10_looks := goodIn_r _ [16, 17, 18, 19, 20, 21, 7, 22, 2, 3, 23, 24, 25, 26, 27, 28, 29, 30, 31, 32, 33, 34, 35, 36, 37, 38, 39, 40, 41, 42, 43, 44, 45, 46, 47, 48, 49] (by decide +kernel) (by decide +kernel)
set_option maxRecDepth 20000 in
theorem gX10_choice_X10_looks : GoodIn wsX10_choice (wsV RX10 186 RX10 yX10_looks wsX10_looks) := goodIn_app (goodIn_of _ (by decide +kernel)) ggX10_choice_X10_looks
theorem dX10_choice_0 : decode cX10_choice 0 = .ok (.aload_n 0, 1) := by decide +kernel
theorem dX10_choice_1 : decode cX10_choice 1 = .ok (.iconst 0, 1) := by decide +kernel
theorem dX10_choice_2 : decode cX10_choice 2 = .ok (.putfield 59, 3) := by decide +kernel
theorem dX10_choice_5 : decode cX10_choice 5 = .ok (.iload_n 1, 1) := by decide +kernel
theorem dX10_choice_6 : decode cX10_choice 6 = .ok (.ifCond .lt 20, 3) := by decide +kernel
theorem dX10_choice_9 : decode cX10_choice 9 = .ok (.aload_n 0, 1) := by decide +kernel
theorem dX10_choice_10 : decode cX10_choice 10 = .ok (.iload_n 1, 1) := by decide +kernel
theorem dX10_choice_11 : decode cX10_choice 11 = .ok (.invokevirtual 183, 3) := by decide +kernel
theorem dX10_choice_14 : decode cX10_choice 14 = .ok (.ifCond .eq 12, 3) := by decide +kernel
theorem dX10_choice_17 : decode cX10_choice 17 = .ok (.iload_n 2, 1) := by decide +kernel
theorem dX10_choice_18 : decode cX10_choice 18 = .ok (.iconst 0, 1) := by decide +kernel
theorem dX10_choice_19 : decode cX10_choice 19 = .ok (.iconst 2, 1) := by decide +kernel
theorem dX10_choice_20 : decode cX10_choice 20 = .ok (.invokestatic 89, 3) := by decide +kernel
theorem dX10_choice_23 : decode cX10_choice 23 = .ok (.ifCond .ne 5, 3) := by decide +kernel
theorem dX10_choice_26 : decode cX10_choice 26 = .ok (.iconst (-1), 1) := by decide +kernel
theorem dX10_choice_27 : decode cX10_choice 27 = .ok (.ireturn, 1) := by decide +kernel
theorem dX10_choice_28 : decode cX10_choice 28 = .ok (.aload_n 0, 1) := by decide +kernel
theorem dX10_choice_29 : decode cX10_choice 29 = .ok (.iload_n 1, 1) := by decide +kernel
theorem dX10_choice_30 : decode cX10_choice 30 = .ok (.invokevirtual 186, 3) := by decide +kernel
theorem dX10_choice_33 : decode cX10_choice 33 = .ok (.istore_n 3, 1) := by decide +kernel
theorem dX10_choice_34 : decode cX10_choice 34 = .ok (.iload_n 2, 1) := by decide +kernel
theorem dX10_choice_35 : decode cX10_choice 35 = .ok (.iconst 2, 1) := by decide +kernel
theorem dX10_choice_36 : decode cX10_choice 36 = .ok (.if_icmp .ne 7, 3) := by decide +kernel
theorem dX10_choice_39 : decode cX10_choice 39 = .ok (.iload_n 3, 1) := by decide +kernel
theorem dX10_choice_40 : decode cX10_choice 40 = .ok (.goto 19, 3) := by decide +kernel
theorem dX10_choice_43 : decode cX10_choice 43 = .ok (.iload_n 2, 1) := by decide +kernel
theorem dX10_choice_44 : decode cX10_choice 44 = .ok (.ifCond .ne 10, 3) := by decide +kernel
theorem dX10_choice_47 : decode cX10_choice 47 = .ok (.aload_n 0, 1) := by decide +kernel
theorem dX10_choice_48 : decode cX10_choice 48 = .ok (.getfield 67, 3) := by decide +kernel
theorem dX10_choice_51 : decode cX10_choice 51 = .ok (.goto 7, 3) := by decide +kernel
theorem dX10_choice_54 : decode cX10_choice 54 = .ok (.aload_n 0, 1) := by decide +kernel
theorem dX10_choice_55 : decode cX10_choice 55 = .ok (.getfield 71, 3) := by decide +kernel
theorem dX10_choice_58 : decode cX10_choice 58 = .ok (.l2i, 1) := by decide +kernel
theorem dX10_choice_59 : decode cX10_choice 59 = .ok (.ireturn, 1) := by decide +kernel
set_option maxRecDepth 20000 in
theorem ggX10_count_X10_knots : GoodIn wsX10_count wsX10_knots := goodIn_r _ [8, 9, 10, 11, 7, 12, 2, 13, 14, 15, 16, 17, 18, 19, 20, 21, 22, 23, 24, 25, 26, 27, 28, 29, 30, 31, 32, 33, 34, 35, 36, 37, 38] (by decide +kernel) (by decide +kernel)
set_option maxRecDepth 20000 in
theorem gX10_count_X10_knots : GoodIn wsX10_count (wsV RX10 166 RX10 yX10_knots wsX10_knots) := goodIn_app (goodIn_of _ (by decide +kernel)) ggX10_count_X10_knots
theorem dX10_count_0 : decode cX10_count 0 = .ok (.aload_n 0, 1) := by decide +kernel
theorem dX10_count_1 : decode cX10_count 1 = .ok (.iconst 0, 1) := by decide +kernel
theorem dX10_count_2 : decode cX10_count 2 = .ok (.putfield 59, 3) := by decide +kernel
theorem dX10_count_5 : decode cX10_count 5 = .ok (.iload_n 1, 1) := by decide +kernel
theorem dX10_count_6 : decode cX10_count 6 = .ok (.ifCond .ne 10, 3) := by decide +kernel
theorem dX10_count_9 : decode cX10_count 9 = .ok (.aload_n 0, 1) := by decide +kernel
theorem dX10_count_10 : decode cX10_count 10 = .ok (.getfield 119, 3) := by decide +kernel
theorem dX10_count_13 : decode cX10_count 13 = .ok (.goto 28, 3) := by decide +kernel
theorem dX10_count_16 : decode cX10_count 16 = .ok (.iload_n 1, 1) := by decide +kernel
theorem dX10_count_17 : decode cX10_count 17 = .ok (.iconst 1, 1) := by decide +kernel
theorem dX10_count_18 : decode cX10_count 18 = .ok (.if_icmp .ne 10, 3) := by decide +kernel
theorem dX10_count_21 : decode cX10_count 21 = .ok (.aload_n 0, 1) := by decide +kernel
theorem dX10_count_22 : decode cX10_count 22 = .ok (.getfield 180, 3) := by decide +kernel
theorem dX10_count_25 : decode cX10_count 25 = .ok (.goto 16, 3) := by decide +kernel
theorem dX10_count_28 : decode cX10_count 28 = .ok (.iload_n 1, 1) := by decide +kernel
theorem dX10_count_29 : decode cX10_count 29 = .ok (.iconst 2, 1) := by decide +kernel
theorem dX10_count_30 : decode cX10_count 30 = .ok (.if_icmp .ne 10, 3) := by decide +kernel
theorem dX10_count_33 : decode cX10_count 33 = .ok (.aload_n 0, 1) := by decide +kernel
theorem dX10_count_34 : decode cX10_count 34 = .ok (.invokevirtual 166, 3) := by decide +kernel
theorem dX10_count_37 : decode cX10_count 37 = .ok (.goto 4, 3) := by decide +kernel
theorem dX10_count_40 : decode cX10_count 40 = .ok (.iconst (-1), 1) := by decide +kernel
theorem dX10_count_41 : decode cX10_count 41 = .ok (.ireturn, 1) := by decide +kernel
theorem dX10_trace_0 : decode cX10_trace 0 = .ok (.aload_n 0, 1) := by decide +kernel
theorem dX10_trace_1 : decode cX10_trace 1 = .ok (.iconst 0, 1) := by decide +kernel
theorem dX10_trace_2 : decode cX10_trace 2 = .ok (.putfield 59, 3) := by decide +kernel
theorem dX10_trace_5 : decode cX10_trace 5 = .ok (.aload_n 0, 1) := by decide +kernel
theorem dX10_trace_6 : decode cX10_trace 6 = .ok (.getfield 125, 3) := by decide +kernel
theorem dX10_trace_9 : decode cX10_trace 9 = .ok (.lreturn, 1) := by decide +kernel
theorem dJ6_numberOfTrailingZeros_0f7a4_0 : decode cJ6_numberOfTrailingZeros_0f7a4 0 = .ok (.iload_n 0, 1) := by decide +kernel
theorem dJ6_numberOfTrailingZeros_0f7a4_1 : decode cJ6_numberOfTrailingZeros_0f7a4 1 = .ok (.iconst (-1), 1) := by decide +kernel
theorem dJ6_numberOfTrailingZeros_0f7a4_2 : decode cJ6_numberOfTrailingZeros_0f7a4 2 = .ok (.ixor, 1) := by decide +kernel
theorem dJ6_numberOfTrailingZeros_0f7a4_3 : decode cJ6_numberOfTrailingZeros_0f7a4 3 = .ok (.iload_n 0, 1) := by decide +kernel
theorem dJ6_numberOfTrailingZeros_0f7a4_4 : decode cJ6_numberOfTrailingZeros_0f7a4 4 = .ok (.iconst 1, 1) := by decide +kernel
theorem dJ6_numberOfTrailingZeros_0f7a4_5 : decode cJ6_numberOfTrailingZeros_0f7a4 5 = .ok (.isub, 1) := by decide +kernel
theorem dJ6_numberOfTrailingZeros_0f7a4_6 : decode cJ6_numberOfTrailingZeros_0f7a4 6 = .ok (.iand, 1) := by decide +kernel
theorem dJ6_numberOfTrailingZeros_0f7a4_7 : decode cJ6_numberOfTrailingZeros_0f7a4 7 = .ok (.istore_n 0, 1) := by decide +kernel
theorem dJ6_numberOfTrailingZeros_0f7a4_8 : decode cJ6_numberOfTrailingZeros_0f7a4 8 = .ok (.iload_n 0, 1) := by decide +kernel
theorem dJ6_numberOfTrailingZeros_0f7a4_9 : decode cJ6_numberOfTrailingZeros_0f7a4 9 = .ok (.ifCond .gt 8, 3) := by decide +kernel
theorem dJ6_numberOfTrailingZeros_0f7a4_12 : decode cJ6_numberOfTrailingZeros_0f7a4 12 = .ok (.iload_n 0, 1) := by decide +kernel
theorem dJ6_numberOfTrailingZeros_0f7a4_13 : decode cJ6_numberOfTrailingZeros_0f7a4 13 = .ok (.bipush 32, 2) := by decide +kernel
theorem dJ6_numberOfTrailingZeros_0f7a4_15 : decode cJ6_numberOfTrailingZeros_0f7a4 15 = .ok (.iand, 1) := by decide +kernel
theorem dJ6_numberOfTrailingZeros_0f7a4_16 : decode cJ6_numberOfTrailingZeros_0f7a4 16 = .ok (.ireturn, 1) := by decide +kernel
theorem dJ6_numberOfTrailingZeros_0f7a4_17 : decode cJ6_numberOfTrailingZeros_0f7a4 17 = .ok (.iconst 1, 1) := by decide +kernel
theorem dJ6_numberOfTrailingZeros_0f7a4_18 : decode cJ6_numberOfTrailingZeros_0f7a4 18 = .ok (.istore_n 1, 1) := by decide +kernel
theorem dJ6_numberOfTrailingZeros_0f7a4_19 : decode cJ6_numberOfTrailingZeros_0f7a4 19 = .ok (.iload_n 0, 1) := by decide +kernel
theorem dJ6_numberOfTrailingZeros_0f7a4_20 : decode cJ6_numberOfTrailingZeros_0f7a4 20 = .ok (.ldc_w 264, 3) := by decide +kernel
theorem dJ6_numberOfTrailingZeros_0f7a4_23 : decode cJ6_numberOfTrailingZeros_0f7a4 23 = .ok (.if_icmp .le 11, 3) := by decide +kernel
theorem dJ6_numberOfTrailingZeros_0f7a4_26 : decode cJ6_numberOfTrailingZeros_0f7a4 26 = .ok (.iinc 1 16, 3) := by decide +kernel
theorem dJ6_numberOfTrailingZeros_0f7a4_29 : decode cJ6_numberOfTrailingZeros_0f7a4 29 = .ok (.iload_n 0, 1) := by decide +kernel
theorem dJ6_numberOfTrailingZeros_0f7a4_30 : decode cJ6_numberOfTrailingZeros_0f7a4 30 = .ok (.bipush 16, 2) := by decide +kernel
theorem dJ6_numberOfTrailingZeros_0f7a4_32 : decode cJ6_numberOfTrailingZeros_0f7a4 32 = .ok (.iushr, 1) := by decide +kernel
theorem dJ6_numberOfTrailingZeros_0f7a4_33 : decode cJ6_numberOfTrailingZeros_0f7a4 33 = .ok (.istore_n 0, 1) := by decide +kernel
theorem dJ6_numberOfTrailingZeros_0f7a4_34 : decode cJ6_numberOfTrailingZeros_0f7a4 34 = .ok (.iload_n 0, 1) := by decide +kernel
theorem dJ6_numberOfTrailingZeros_0f7a4_35 : decode cJ6_numberOfTrailingZeros_0f7a4 35 = .ok (.sipush 256, 3) := by decide +kernel
theorem dJ6_numberOfTrailingZeros_0f7a4_38 : decode cJ6_numberOfTrailingZeros_0f7a4 38 = .ok (.if_icmp .le 11, 3) := by decide +kernel
theorem dJ6_numberOfTrailingZeros_0f7a4_41 : decode cJ6_numberOfTrailingZeros_0f7a4 41 = .ok (.iinc 1 8, 3) := by decide +kernel
theorem dJ6_numberOfTrailingZeros_0f7a4_44 : decode cJ6_numberOfTrailingZeros_0f7a4 44 = .ok (.iload_n 0, 1) := by decide +kernel
theorem dJ6_numberOfTrailingZeros_0f7a4_45 : decode cJ6_numberOfTrailingZeros_0f7a4 45 = .ok (.bipush 8, 2) := by decide +kernel
theorem dJ6_numberOfTrailingZeros_0f7a4_47 : decode cJ6_numberOfTrailingZeros_0f7a4 47 = .ok (.iushr, 1) := by decide +kernel
theorem dJ6_numberOfTrailingZeros_0f7a4_48 : decode cJ6_numberOfTrailingZeros_0f7a4 48 = .ok (.istore_n 0, 1) := by decide +kernel
theorem dJ6_numberOfTrailingZeros_0f7a4_49 : decode cJ6_numberOfTrailingZeros_0f7a4 49 = .ok (.iload_n 0, 1) := by decide +kernel
theorem dJ6_numberOfTrailingZeros_0f7a4_50 : decode cJ6_numberOfTrailingZeros_0f7a4 50 = .ok (.bipush 16, 2) := by decide +kernel
theorem dJ6_numberOfTrailingZeros_0f7a4_52 : decode cJ6_numberOfTrailingZeros_0f7a4 52 = .ok (.if_icmp .le 10, 3) := by decide +kernel
theorem dJ6_numberOfTrailingZeros_0f7a4_55 : decode cJ6_numberOfTrailingZeros_0f7a4 55 = .ok (.iinc 1 4, 3) := by decide +kernel
theorem dJ6_numberOfTrailingZeros_0f7a4_58 : decode cJ6_numberOfTrailingZeros_0f7a4 58 = .ok (.iload_n 0, 1) := by decide +kernel
theorem dJ6_numberOfTrailingZeros_0f7a4_59 : decode cJ6_numberOfTrailingZeros_0f7a4 59 = .ok (.iconst 4, 1) := by decide +kernel
theorem dJ6_numberOfTrailingZeros_0f7a4_60 : decode cJ6_numberOfTrailingZeros_0f7a4 60 = .ok (.iushr, 1) := by decide +kernel
theorem dJ6_numberOfTrailingZeros_0f7a4_61 : decode cJ6_numberOfTrailingZeros_0f7a4 61 = .ok (.istore_n 0, 1) := by decide +kernel
theorem dJ6_numberOfTrailingZeros_0f7a4_62 : decode cJ6_numberOfTrailingZeros_0f7a4 62 = .ok (.iload_n 0, 1) := by decide +kernel
theorem dJ6_numberOfTrailingZeros_0f7a4_63 : decode cJ6_numberOfTrailingZeros_0f7a4 63 = .ok (.iconst 4, 1) := by decide +kernel
theorem dJ6_numberOfTrailingZeros_0f7a4_64 : decode cJ6_numberOfTrailingZeros_0f7a4 64 = .ok (.if_icmp .le 10, 3) := by decide +kernel
theorem dJ6_numberOfTrailingZeros_0f7a4_67 : decode cJ6_numberOfTrailingZeros_0f7a4 67 = .ok (.iinc 1 2, 3) := by decide +kernel
theorem dJ6_numberOfTrailingZeros_0f7a4_70 : decode cJ6_numberOfTrailingZeros_0f7a4 70 = .ok (.iload_n 0, 1) := by decide +kernel
theorem dJ6_numberOfTrailingZeros_0f7a4_71 : decode cJ6_numberOfTrailingZeros_0f7a4 71 = .ok (.iconst 2, 1) := by decide +kernel
theorem dJ6_numberOfTrailingZeros_0f7a4_72 : decode cJ6_numberOfTrailingZeros_0f7a4 72 = .ok (.iushr, 1) := by decide +kernel
theorem dJ6_numberOfTrailingZeros_0f7a4_73 : decode cJ6_numberOfTrailingZeros_0f7a4 73 = .ok (.istore_n 0, 1) := by decide +kernel
theorem dJ6_numberOfTrailingZeros_0f7a4_74 : decode cJ6_numberOfTrailingZeros_0f7a4 74 = .ok (.iload_n 1, 1) := by decide +kernel
theorem dJ6_numberOfTrailingZeros_0f7a4_75 : decode cJ6_numberOfTrailingZeros_0f7a4 75 = .ok (.iload_n 0, 1) := by decide +kernel
theorem dJ6_numberOfTrailingZeros_0f7a4_76 : decode cJ6_numberOfTrailingZeros_0f7a4 76 = .ok (.iconst 1, 1) := by decide +kernel
theorem dJ6_numberOfTrailingZeros_0f7a4_77 : decode cJ6_numberOfTrailingZeros_0f7a4 77 = .ok (.iushr, 1) := by decide +kernel
theorem dJ6_numberOfTrailingZeros_0f7a4_78 : decode cJ6_numberOfTrailingZeros_0f7a4 78 = .ok (.iadd, 1) := by decide +kernel
theorem dJ6_numberOfTrailingZeros_0f7a4_79 : decode cJ6_numberOfTrailingZeros_0f7a4 79 = .ok (.ireturn, 1) := by decide +kernel
theorem dJ6_bitCount_0f7a4_0 : decode cJ6_bitCount_0f7a4 0 = .ok (.iload_n 0, 1) := by decide +kernel
theorem dJ6_bitCount_0f7a4_1 : decode cJ6_bitCount_0f7a4 1 = .ok (.iload_n 0, 1) := by decide +kernel
theorem dJ6_bitCount_0f7a4_2 : decode cJ6_bitCount_0f7a4 2 = .ok (.iconst 1, 1) := by decide +kernel
theorem dJ6_bitCount_0f7a4_3 : decode cJ6_bitCount_0f7a4 3 = .ok (.iushr, 1) := by decide +kernel
theorem dJ6_bitCount_0f7a4_4 : decode cJ6_bitCount_0f7a4 4 = .ok (.ldc_w 265, 3) := by decide +kernel
theorem dJ6_bitCount_0f7a4_7 : decode cJ6_bitCount_0f7a4 7 = .ok (.iand, 1) := by decide +kernel
theorem dJ6_bitCount_0f7a4_8 : decode cJ6_bitCount_0f7a4 8 = .ok (.isub, 1) := by decide +kernel
theorem dJ6_bitCount_0f7a4_9 : decode cJ6_bitCount_0f7a4 9 = .ok (.istore_n 0, 1) := by decide +kernel
theorem dJ6_bitCount_0f7a4_10 : decode cJ6_bitCount_0f7a4 10 = .ok (.iload_n 0, 1) := by decide +kernel
theorem dJ6_bitCount_0f7a4_11 : decode cJ6_bitCount_0f7a4 11 = .ok (.ldc_w 266, 3) := by decide +kernel
theorem dJ6_bitCount_0f7a4_14 : decode cJ6_bitCount_0f7a4 14 = .ok (.iand, 1) := by decide +kernel
theorem dJ6_bitCount_0f7a4_15 : decode cJ6_bitCount_0f7a4 15 = .ok (.iload_n 0, 1) := by decide +kernel
theorem dJ6_bitCount_0f7a4_16 : decode cJ6_bitCount_0f7a4 16 = .ok (.iconst 2, 1) := by decide +kernel
theorem dJ6_bitCount_0f7a4_17 : decode cJ6_bitCount_0f7a4 17 = .ok (.iushr, 1) := by decide +kernel
theorem dJ6_bitCount_0f7a4_18 : decode cJ6_bitCount_0f7a4 18 = .ok (.ldc_w 266, 3) := by decide +kernel
theorem dJ6_bitCount_0f7a4_21 : decode cJ6_bitCount_0f7a4 21 = .ok (.iand, 1) := by decide +kernel
theorem dJ6_bitCount_0f7a4_22 : decode cJ6_bitCount_0f7a4 22 = .ok (.iadd, 1) := by decide +kernel
theorem dJ6_bitCount_0f7a4_23 : decode cJ6_bitCount_0f7a4 23 = .ok (.istore_n 0, 1) := by decide +kernel
theorem dJ6_bitCount_0f7a4_24 : decode cJ6_bitCount_0f7a4 24 = .ok (.iload_n 0, 1) := by decide +kernel
theorem dJ6_bitCount_0f7a4_25 : decode cJ6_bitCount_0f7a4 25 = .ok (.iload_n 0, 1) := by decide +kernel
theorem dJ6_bitCount_0f7a4_26 : decode cJ6_bitCount_0f7a4 26 = .ok (.iconst 4, 1) := by decide +kernel
theorem dJ6_bitCount_0f7a4_27 : decode cJ6_bitCount_0f7a4 27 = .ok (.iushr, 1) := by decide +kernel
theorem dJ6_bitCount_0f7a4_28 : decode cJ6_bitCount_0f7a4 28 = .ok (.iadd, 1) := by decide +kernel
theorem dJ6_bitCount_0f7a4_29 : decode cJ6_bitCount_0f7a4 29 = .ok (.ldc_w 267, 3) := by decide +kernel
theorem dJ6_bitCount_0f7a4_32 : decode cJ6_bitCount_0f7a4 32 = .ok (.iand, 1) := by decide +kernel
theorem dJ6_bitCount_0f7a4_33 : decode cJ6_bitCount_0f7a4 33 = .ok (.istore_n 0, 1) := by decide +kernel
theorem dJ6_bitCount_0f7a4_34 : decode cJ6_bitCount_0f7a4 34 = .ok (.iload_n 0, 1) := by decide +kernel
theorem dJ6_bitCount_0f7a4_35 : decode cJ6_bitCount_0f7a4 35 = .ok (.iload_n 0, 1) := by decide +kernel
theorem dJ6_bitCount_0f7a4_36 : decode cJ6_bitCount_0f7a4 36 = .ok (.bipush 8, 2) := by decide +kernel
theorem dJ6_bitCount_0f7a4_38 : decode cJ6_bitCount_0f7a4 38 = .ok (.iushr, 1) := by decide +kernel
theorem dJ6_bitCount_0f7a4_39 : decode cJ6_bitCount_0f7a4 39 = .ok (.iadd, 1) := by decide +kernel
theorem dJ6_bitCount_0f7a4_40 : decode cJ6_bitCount_0f7a4 40 = .ok (.istore_n 0, 1) := by decide +kernel
theorem dJ6_bitCount_0f7a4_41 : decode cJ6_bitCount_0f7a4 41 = .ok (.iload_n 0, 1) := by decide +kernel
theorem dJ6_bitCount_0f7a4_42 : decode cJ6_bitCount_0f7a4 42 = .ok (.iload_n 0, 1) := by decide +kernel
theorem dJ6_bitCount_0f7a4_43 : decode cJ6_bitCount_0f7a4 43 = .ok (.bipush 16, 2) := by decide +kernel
theorem dJ6_bitCount_0f7a4_45 : decode cJ6_bitCount_0f7a4 45 = .ok (.iushr, 1) := by decide +kernel
theorem dJ6_bitCount_0f7a4_46 : decode cJ6_bitCount_0f7a4 46 = .ok (.iadd, 1) := by decide +kernel
theorem dJ6_bitCount_0f7a4_47 : decode cJ6_bitCount_0f7a4 47 = .ok (.istore_n 0, 1) := by decide +kernel
theorem dJ6_bitCount_0f7a4_48 : decode cJ6_bitCount_0f7a4 48 = .ok (.iload_n 0, 1) := by decide +kernel
theorem dJ6_bitCount_0f7a4_49 : decode cJ6_bitCount_0f7a4 49 = .ok (.bipush 63, 2) := by decide +kernel
theorem dJ6_bitCount_0f7a4_51 : decode cJ6_bitCount_0f7a4 51 = .ok (.iand, 1) := by decide +kernel
