theorem dX3_fallsTogether_98 : decode cX3_fallsTogether 98 = .ok (.ishl, 1) := by decide +kernel
theorem dX3_fallsTogether_99 : decode cX3_fallsTogether 99 = .ok (.if_icmp .ne 7, 3) := by decide +kernel
theorem dX3_fallsTogether_102 : decode cX3_fallsTogether 102 = .ok (.iconst 1, 1) := by decide +kernel
theorem dX3_fallsTogether_103 : decode cX3_fallsTogether 103 = .ok (.goto 4, 3) := by decide +kernel
theorem dX3_fallsTogether_106 : decode cX3_fallsTogether 106 = .ok (.iconst 0, 1) := by decide +kernel
theorem dX3_fallsTogether_107 : decode cX3_fallsTogether 107 = .ok (.ireturn, 1) := by decide +kernel
set_option maxRecDepth 20000 in
theorem ggX3_layNeighbours_X4_touches : GoodIn wsX3_layNeighbours wsX4_touches := goodIn_r _ [11, 12, 13, 30, 31, 32, 33, 34, 35, 36, 37, 38, 39, 40, 41] (by decide +kernel) (by decide +kernel)
set_option maxRecDepth 20000 in
theorem gX3_layNeighbours_X4_touches_u74X2 : GoodIn wsX3_layNeighbours (va_wsU RX3 74 RX2 "OhmNets$OneWire" ⟨"OhmNets$OneWire", "touches", "(I)Z"⟩ yX4_touches wsX4_touches) := goodIn_app (goodIn_of _ (by decide +kernel)) ggX3_layNeighbours_X4_touches
set_option maxRecDepth 20000 in
theorem gX3_layNeighbours_X4_touches : GoodIn wsX3_layNeighbours (wsV RX3 74 RX4 yX4_touches wsX4_touches) := goodIn_app (goodIn_of _ (by decide +kernel)) ggX3_layNeighbours_X4_touches
set_option maxRecDepth 20000 in
theorem gX3_layNeighbours_X4_touches_u74X8 : GoodIn wsX3_layNeighbours (va_wsU RX3 74 RX8 "OhmNets$OneWire" ⟨"OhmNets$OneWire", "touches", "(I)Z"⟩ yX4_touches wsX4_touches) := goodIn_app (goodIn_of _ (by decide +kernel)) ggX3_layNeighbours_X4_touches
set_option maxRecDepth 20000 in
theorem ggX3_layNeighbours_X3_link : GoodIn wsX3_layNeighbours wsX3_link := goodIn_r _ [21, 1, 22, 23, 24, 25, 26, 27, 28, 29] (by decide +kernel) (by decide +kernel)
set_option maxRecDepth 20000 in
theorem gX3_layNeighbours_X3_link : GoodIn wsX3_layNeighbours (wsV RX3 130 RX3 yX3_link wsX3_link) := goodIn_app (goodIn_of _ (by decide +kernel)) ggX3_layNeighbours_X3_link
theorem dX3_layNeighbours_0 : decode cX3_layNeighbours 0 = .ok (.iconst 0, 1) := by decide +kernel
theorem dX3_layNeighbours_1 : decode cX3_layNeighbours 1 = .ok (.istore_n 2, 1) := by decide +kernel
theorem dX3_layNeighbours_2 : decode cX3_layNeighbours 2 = .ok (.iload_n 2, 1) := by decide +kernel
theorem dX3_layNeighbours_3 : decode cX3_layNeighbours 3 = .ok (.bipush 6, 2) := by decide +kernel
theorem dX3_layNeighbours_5 : decode cX3_layNeighbours 5 = .ok (.if_icmp .ge 16, 3) := by decide +kernel
theorem dX3_layNeighbours_8 : decode cX3_layNeighbours 8 = .ok (.aload_n 0, 1) := by decide +kernel
theorem dX3_layNeighbours_9 : decode cX3_layNeighbours 9 = .ok (.getfield 32, 3) := by decide +kernel
theorem dX3_layNeighbours_12 : decode cX3_layNeighbours 12 = .ok (.iload_n 2, 1) := by decide +kernel
theorem dX3_layNeighbours_13 : decode cX3_layNeighbours 13 = .ok (.iconst 0, 1) := by decide +kernel
theorem dX3_layNeighbours_14 : decode cX3_layNeighbours 14 = .ok (.iastore, 1) := by decide +kernel
theorem dX3_layNeighbours_15 : decode cX3_layNeighbours 15 = .ok (.iinc 2 1, 3) := by decide +kernel
theorem dX3_layNeighbours_18 : decode cX3_layNeighbours 18 = .ok (.goto (-16), 3) := by decide +kernel
theorem dX3_layNeighbours_21 : decode cX3_layNeighbours 21 = .ok (.iconst 0, 1) := by decide +kernel
theorem dX3_layNeighbours_22 : decode cX3_layNeighbours 22 = .ok (.istore_n 2, 1) := by decide +kernel
theorem dX3_layNeighbours_23 : decode cX3_layNeighbours 23 = .ok (.iload_n 2, 1) := by decide +kernel
theorem dX3_layNeighbours_24 : decode cX3_layNeighbours 24 = .ok (.aload_n 0, 1) := by decide +kernel
theorem dX3_layNeighbours_25 : decode cX3_layNeighbours 25 = .ok (.getfield 21, 3) := by decide +kernel
theorem dX3_layNeighbours_28 : decode cX3_layNeighbours 28 = .ok (.if_icmp .ge 44, 3) := by decide +kernel
theorem dX3_layNeighbours_31 : decode cX3_layNeighbours 31 = .ok (.aload_n 0, 1) := by decide +kernel
theorem dX3_layNeighbours_32 : decode cX3_layNeighbours 32 = .ok (.getfield 11, 3) := by decide +kernel
theorem dX3_layNeighbours_35 : decode cX3_layNeighbours 35 = .ok (.iload_n 2, 1) := by decide +kernel
theorem dX3_layNeighbours_36 : decode cX3_layNeighbours 36 = .ok (.aaload, 1) := by decide +kernel
theorem dX3_layNeighbours_37 : decode cX3_layNeighbours 37 = .ok (.iload_n 1, 1) := by decide +kernel
theorem dX3_layNeighbours_38 : decode cX3_layNeighbours 38 = .ok (.invokevirtual 74, 3) := by decide +kernel
theorem dX3_layNeighbours_41 : decode cX3_layNeighbours 41 = .ok (.ifCond .eq 25, 3) := by decide +kernel
theorem dX3_layNeighbours_44 : decode cX3_layNeighbours 44 = .ok (.aload_n 0, 1) := by decide +kernel
theorem dX3_layNeighbours_45 : decode cX3_layNeighbours 45 = .ok (.aload_n 0, 1) := by decide +kernel
theorem dX3_layNeighbours_46 : decode cX3_layNeighbours 46 = .ok (.getfield 11, 3) := by decide +kernel
theorem dX3_layNeighbours_49 : decode cX3_layNeighbours 49 = .ok (.iload_n 2, 1) := by decide +kernel
theorem dX3_layNeighbours_50 : decode cX3_layNeighbours 50 = .ok (.aaload, 1) := by decide +kernel
theorem dX3_layNeighbours_51 : decode cX3_layNeighbours 51 = .ok (.getfield 64, 3) := by decide +kernel
theorem dX3_layNeighbours_54 : decode cX3_layNeighbours 54 = .ok (.aload_n 0, 1) := by decide +kernel
theorem dX3_layNeighbours_55 : decode cX3_layNeighbours 55 = .ok (.getfield 11, 3) := by decide +kernel
theorem dX3_layNeighbours_58 : decode cX3_layNeighbours 58 = .ok (.iload_n 2, 1) := by decide +kernel
theorem dX3_layNeighbours_59 : decode cX3_layNeighbours 59 = .ok (.aaload, 1) := by decide +kernel
theorem dX3_layNeighbours_60 : decode cX3_layNeighbours 60 = .ok (.getfield 67, 3) := by decide +kernel
theorem dX3_layNeighbours_63 : decode cX3_layNeighbours 63 = .ok (.invokevirtual 130, 3) := by decide +kernel
theorem dX3_layNeighbours_66 : decode cX3_layNeighbours 66 = .ok (.iinc 2 1, 3) := by decide +kernel
theorem dX3_layNeighbours_69 : decode cX3_layNeighbours 69 = .ok (.goto (-46), 3) := by decide +kernel
theorem dX3_layNeighbours_72 : decode cX3_layNeighbours 72 = .ok (.return_, 1) := by decide +kernel
theorem dX3_link_0 : decode cX3_link 0 = .ok (.aload_n 0, 1) := by decide +kernel
theorem dX3_link_1 : decode cX3_link 1 = .ok (.getfield 32, 3) := by decide +kernel
theorem dX3_link_4 : decode cX3_link 4 = .ok (.iload_n 1, 1) := by decide +kernel
theorem dX3_link_5 : decode cX3_link 5 = .ok (.dup2, 1) := by decide +kernel
theorem dX3_link_6 : decode cX3_link 6 = .ok (.iaload, 1) := by decide +kernel
theorem dX3_link_7 : decode cX3_link 7 = .ok (.iconst 1, 1) := by decide +kernel
theorem dX3_link_8 : decode cX3_link 8 = .ok (.iload_n 2, 1) := by decide +kernel
theorem dX3_link_9 : decode cX3_link 9 = .ok (.ishl, 1) := by decide +kernel
theorem dX3_link_10 : decode cX3_link 10 = .ok (.ior, 1) := by decide +kernel
theorem dX3_link_11 : decode cX3_link 11 = .ok (.iastore, 1) := by decide +kernel
theorem dX3_link_12 : decode cX3_link 12 = .ok (.aload_n 0, 1) := by decide +kernel
theorem dX3_link_13 : decode cX3_link 13 = .ok (.getfield 32, 3) := by decide +kernel
theorem dX3_link_16 : decode cX3_link 16 = .ok (.iload_n 2, 1) := by decide +kernel
theorem dX3_link_17 : decode cX3_link 17 = .ok (.dup2, 1) := by decide +kernel
theorem dX3_link_18 : decode cX3_link 18 = .ok (.iaload, 1) := by decide +kernel
theorem dX3_link_19 : decode cX3_link 19 = .ok (.iconst 1, 1) := by decide +kernel
theorem dX3_link_20 : decode cX3_link 20 = .ok (.iload_n 1, 1) := by decide +kernel
theorem dX3_link_21 : decode cX3_link 21 = .ok (.ishl, 1) := by decide +kernel
theorem dX3_link_22 : decode cX3_link 22 = .ok (.ior, 1) := by decide +kernel
theorem dX3_link_23 : decode cX3_link 23 = .ok (.iastore, 1) := by decide +kernel
theorem dX3_link_24 : decode cX3_link 24 = .ok (.return_, 1) := by decide +kernel
set_option maxRecDepth 20000 in
theorem ggX3_takeAway_J6_bitCount_0f7a4 : GoodIn wsX3_takeAway wsJ6_bitCount_0f7a4 := goodIn_r _ [5, 6, 7, 8] (by decide +kernel) (by decide +kernel)
set_option maxRecDepth 20000 in
theorem gX3_takeAway_J6_bitCount_0f7a4 : GoodIn wsX3_takeAway (va_wsS RX3 124 yJ6_bitCount_0f7a4 wsJ6_bitCount_0f7a4) := goodIn_app (goodIn_of _ (by decide +kernel)) ggX3_takeAway_J6_bitCount_0f7a4
set_option maxRecDepth 20000 in
theorem ggX3_takeAway_J6_numberOfTrailingZeros_0f7a4 : GoodIn wsX3_takeAway wsJ6_numberOfTrailingZeros_0f7a4 := goodIn_r _ [11, 12] (by decide +kernel) (by decide +kernel)
set_option maxRecDepth 20000 in
theorem gX3_takeAway_J6_numberOfTrailingZeros_0f7a4 : GoodIn wsX3_takeAway (va_wsS RX3 105 yJ6_numberOfTrailingZeros_0f7a4 wsJ6_numberOfTrailingZeros_0f7a4) := goodIn_app (goodIn_of _ (by decide +kernel)) ggX3_takeAway_J6_numberOfTrailingZeros_0f7a4
set_option maxRecDepth 20000 in
theorem ggX3_takeAway_X3_link : GoodIn wsX3_takeAway wsX3_link := goodIn_r _ [17, 1, 18, 19, 20, 21, 22, 23, 24, 25] (by decide +kernel) (by decide +kernel)
set_option maxRecDepth 20000 in
theorem gX3_takeAway_X3_link : GoodIn wsX3_takeAway (wsV RX3 130 RX3 yX3_link wsX3_link) := goodIn_app (goodIn_of _ (by decide +kernel)) ggX3_takeAway_X3_link
theorem dX3_takeAway_0 : decode cX3_takeAway 0 = .ok (.aload_n 0, 1) := by decide +kernel
theorem dX3_takeAway_1 : decode cX3_takeAway 1 = .ok (.getfield 32, 3) := by decide +kernel
theorem dX3_takeAway_4 : decode cX3_takeAway 4 = .ok (.iload_n 1, 1) := by decide +kernel
theorem dX3_takeAway_5 : decode cX3_takeAway 5 = .ok (.iaload, 1) := by decide +kernel
theorem dX3_takeAway_6 : decode cX3_takeAway 6 = .ok (.istore_n 2, 1) := by decide +kernel
theorem dX3_takeAway_7 : decode cX3_takeAway 7 = .ok (.aload_n 0, 1) := by decide +kernel
theorem dX3_takeAway_8 : decode cX3_takeAway 8 = .ok (.getfield 32, 3) := by decide +kernel
theorem dX3_takeAway_11 : decode cX3_takeAway 11 = .ok (.iload_n 1, 1) := by decide +kernel
theorem dX3_takeAway_12 : decode cX3_takeAway 12 = .ok (.iconst 0, 1) := by decide +kernel
theorem dX3_takeAway_13 : decode cX3_takeAway 13 = .ok (.iastore, 1) := by decide +kernel
theorem dX3_takeAway_14 : decode cX3_takeAway 14 = .ok (.iconst 0, 1) := by decide +kernel
theorem dX3_takeAway_15 : decode cX3_takeAway 15 = .ok (.istore_n 3, 1) := by decide +kernel
theorem dX3_takeAway_16 : decode cX3_takeAway 16 = .ok (.iload_n 3, 1) := by decide +kernel
theorem dX3_takeAway_17 : decode cX3_takeAway 17 = .ok (.bipush 6, 2) := by decide +kernel
theorem dX3_takeAway_19 : decode cX3_takeAway 19 = .ok (.if_icmp .ge 23, 3) := by decide +kernel
theorem dX3_takeAway_22 : decode cX3_takeAway 22 = .ok (.aload_n 0, 1) := by decide +kernel
theorem dX3_takeAway_23 : decode cX3_takeAway 23 = .ok (.getfield 32, 3) := by decide +kernel
theorem dX3_takeAway_26 : decode cX3_takeAway 26 = .ok (.iload_n 3, 1) := by decide +kernel
theorem dX3_takeAway_27 : decode cX3_takeAway 27 = .ok (.dup2, 1) := by decide +kernel
theorem dX3_takeAway_28 : decode cX3_takeAway 28 = .ok (.iaload, 1) := by decide +kernel
theorem dX3_takeAway_29 : decode cX3_takeAway 29 = .ok (.iconst 1, 1) := by decide +kernel
theorem dX3_takeAway_30 : decode cX3_takeAway 30 = .ok (.iload_n 1, 1) := by decide +kernel
theorem dX3_takeAway_31 : decode cX3_takeAway 31 = .ok (.ishl, 1) := by decide +kernel
theorem dX3_takeAway_32 : decode cX3_takeAway 32 = .ok (.iconst (-1), 1) := by decide +kernel
theorem dX3_takeAway_33 : decode cX3_takeAway 33 = .ok (.ixor, 1) := by decide +kernel
theorem dX3_takeAway_34 : decode cX3_takeAway 34 = .ok (.iand, 1) := by decide +kernel
theorem dX3_takeAway_35 : decode cX3_takeAway 35 = .ok (.iastore, 1) := by decide +kernel
theorem dX3_takeAway_36 : decode cX3_takeAway 36 = .ok (.iinc 3 1, 3) := by decide +kernel
theorem dX3_takeAway_39 : decode cX3_takeAway 39 = .ok (.goto (-23), 3) := by decide +kernel
theorem dX3_takeAway_42 : decode cX3_takeAway 42 = .ok (.iload_n 2, 1) := by decide +kernel
theorem dX3_takeAway_43 : decode cX3_takeAway 43 = .ok (.invokestatic 124, 3) := by decide +kernel
theorem dX3_takeAway_46 : decode cX3_takeAway 46 = .ok (.iconst 2, 1) := by decide +kernel
theorem dX3_takeAway_47 : decode cX3_takeAway 47 = .ok (.if_icmp .ne 27, 3) := by decide +kernel
theorem dX3_takeAway_50 : decode cX3_takeAway 50 = .ok (.iload_n 2, 1) := by decide +kernel
theorem dX3_takeAway_51 : decode cX3_takeAway 51 = .ok (.invokestatic 105, 3) := by decide +kernel
theorem dX3_takeAway_54 : decode cX3_takeAway 54 = .ok (.istore_n 3, 1) := by decide +kernel
theorem dX3_takeAway_55 : decode cX3_takeAway 55 = .ok (.iload_n 2, 1) := by decide +kernel
theorem dX3_takeAway_56 : decode cX3_takeAway 56 = .ok (.iconst 1, 1) := by decide +kernel
theorem dX3_takeAway_57 : decode cX3_takeAway 57 = .ok (.iload_n 3, 1) := by decide +kernel
theorem dX3_takeAway_58 : decode cX3_takeAway 58 = .ok (.ishl, 1) := by decide +kernel
theorem dX3_takeAway_59 : decode cX3_takeAway 59 = .ok (.iconst (-1), 1) := by decide +kernel
theorem dX3_takeAway_60 : decode cX3_takeAway 60 = .ok (.ixor, 1) := by decide +kernel
theorem dX3_takeAway_61 : decode cX3_takeAway 61 = .ok (.iand, 1) := by decide +kernel
theorem dX3_takeAway_62 : decode cX3_takeAway 62 = .ok (.invokestatic 105, 3) := by decide +kernel
theorem dX3_takeAway_65 : decode cX3_takeAway 65 = .ok (.istore 4, 2) := by decide +kernel
theorem dX3_takeAway_67 : decode cX3_takeAway 67 = .ok (.aload_n 0, 1) := by decide +kernel
theorem dX3_takeAway_68 : decode cX3_takeAway 68 = .ok (.iload_n 3, 1) := by decide +kernel
theorem dX3_takeAway_69 : decode cX3_takeAway 69 = .ok (.iload 4, 2) := by decide +kernel
theorem dX3_takeAway_71 : decode cX3_takeAway 71 = .ok (.invokevirtual 130, 3) := by decide +kernel
theorem dX3_takeAway_74 : decode cX3_takeAway 74 = .ok (.return_, 1) := by decide +kernel
theorem dX4_init_0 : decode cX4_init 0 = .ok (.aload_n 0, 1) := by decide +kernel
theorem dX4_init_1 : decode cX4_init 1 = .ok (.invokespecial 1, 3) := by decide +kernel
theorem dX4_init_4 : decode cX4_init 4 = .ok (.aload_n 0, 1) := by decide +kernel
theorem dX4_init_5 : decode cX4_init 5 = .ok (.iload_n 1, 1) := by decide +kernel
theorem dX4_init_6 : decode cX4_init 6 = .ok (.putfield 7, 3) := by decide +kernel
theorem dX4_init_9 : decode cX4_init 9 = .ok (.aload_n 0, 1) := by decide +kernel
theorem dX4_init_10 : decode cX4_init 10 = .ok (.iload_n 2, 1) := by decide +kernel
theorem dX4_init_11 : decode cX4_init 11 = .ok (.putfield 13, 3) := by decide +kernel
theorem dX4_init_14 : decode cX4_init 14 = .ok (.aload_n 0, 1) := by decide +kernel
theorem dX4_init_15 : decode cX4_init 15 = .ok (.iload_n 3, 1) := by decide +kernel
theorem dX4_init_16 : decode cX4_init 16 = .ok (.putfield 16, 3) := by decide +kernel
theorem dX4_init_19 : decode cX4_init 19 = .ok (.return_, 1) := by decide +kernel
set_option maxRecDepth 20000 in
theorem ggX4_measure_X0_set : GoodIn wsX4_measure wsX0_set := goodIn_r _ [5, 6, 7, 8, 9] (by decide +kernel) (by decide +kernel)
set_option maxRecDepth 20000 in
theorem gX4_measure_X0_set : GoodIn wsX4_measure (wsV RX4 19 RX0 yX0_set wsX0_set) := goodIn_app (goodIn_of _ (by decide +kernel)) ggX4_measure_X0_set
theorem dX4_measure_0 : decode cX4_measure 0 = .ok (.aload_n 1, 1) := by decide +kernel
theorem dX4_measure_1 : decode cX4_measure 1 = .ok (.lconst 1, 1) := by decide +kernel
theorem dX4_measure_2 : decode cX4_measure 2 = .ok (.lconst 1, 1) := by decide +kernel
theorem dX4_measure_3 : decode cX4_measure 3 = .ok (.invokevirtual 19, 3) := by decide +kernel
theorem dX4_measure_6 : decode cX4_measure 6 = .ok (.iconst 1, 1) := by decide +kernel
theorem dX4_measure_7 : decode cX4_measure 7 = .ok (.ireturn, 1) := by decide +kernel
theorem dX4_touches_0 : decode cX4_touches 0 = .ok (.iconst 1, 1) := by decide +kernel
theorem dX4_touches_1 : decode cX4_touches 1 = .ok (.aload_n 0, 1) := by decide +kernel
theorem dX4_touches_2 : decode cX4_touches 2 = .ok (.getfield 13, 3) := by decide +kernel
theorem dX4_touches_5 : decode cX4_touches 5 = .ok (.ishl, 1) := by decide +kernel
theorem dX4_touches_6 : decode cX4_touches 6 = .ok (.iconst 1, 1) := by decide +kernel
theorem dX4_touches_7 : decode cX4_touches 7 = .ok (.aload_n 0, 1) := by decide +kernel
theorem dX4_touches_8 : decode cX4_touches 8 = .ok (.getfield 16, 3) := by decide +kernel
theorem dX4_touches_11 : decode cX4_touches 11 = .ok (.ishl, 1) := by decide +kernel
theorem dX4_touches_12 : decode cX4_touches 12 = .ok (.ior, 1) := by decide +kernel
theorem dX4_touches_13 : decode cX4_touches 13 = .ok (.iload_n 1, 1) := by decide +kernel
theorem dX4_touches_14 : decode cX4_touches 14 = .ok (.iand, 1) := by decide +kernel
theorem dX4_touches_15 : decode cX4_touches 15 = .ok (.ifCond .eq 7, 3) := by decide +kernel
theorem dX4_touches_18 : decode cX4_touches 18 = .ok (.iconst 1, 1) := by decide +kernel
theorem dX4_touches_19 : decode cX4_touches 19 = .ok (.goto 4, 3) := by decide +kernel
theorem dX4_touches_22 : decode cX4_touches 22 = .ok (.iconst 0, 1) := by decide +kernel
theorem dX4_touches_23 : decode cX4_touches 23 = .ok (.ireturn, 1) := by decide +kernel
theorem dX5_init_0 : decode cX5_init 0 = .ok (.aload_n 0, 1) := by decide +kernel
theorem dX5_init_1 : decode cX5_init 1 = .ok (.invokespecial 1, 3) := by decide +kernel
theorem dX5_init_4 : decode cX5_init 4 = .ok (.aload_n 0, 1) := by decide +kernel
theorem dX5_init_5 : decode cX5_init 5 = .ok (.iload_n 1, 1) := by decide +kernel
theorem dX5_init_6 : decode cX5_init 6 = .ok (.putfield 7, 3) := by decide +kernel
theorem dX5_init_9 : decode cX5_init 9 = .ok (.aload_n 0, 1) := by decide +kernel
theorem dX5_init_10 : decode cX5_init 10 = .ok (.iload_n 2, 1) := by decide +kernel
theorem dX5_init_11 : decode cX5_init 11 = .ok (.putfield 13, 3) := by decide +kernel
theorem dX5_init_14 : decode cX5_init 14 = .ok (.aload_n 0, 1) := by decide +kernel
theorem dX5_init_15 : decode cX5_init 15 = .ok (.iload_n 3, 1) := by decide +kernel
theorem dX5_init_16 : decode cX5_init 16 = .ok (.putfield 16, 3) := by decide +kernel
theorem dX5_init_19 : decode cX5_init 19 = .ok (.aload_n 0, 1) := by decide +kernel
theorem dX5_init_20 : decode cX5_init 20 = .ok (.iload 4, 2) := by decide +kernel
theorem dX5_init_22 : decode cX5_init 22 = .ok (.putfield 19, 3) := by decide +kernel
theorem dX5_init_25 : decode cX5_init 25 = .ok (.aload_n 0, 1) := by decide +kernel
theorem dX5_init_26 : decode cX5_init 26 = .ok (.iload 5, 2) := by decide +kernel
theorem dX5_init_28 : decode cX5_init 28 = .ok (.putfield 22, 3) := by decide +kernel
theorem dX5_init_31 : decode cX5_init 31 = .ok (.aload_n 0, 1) := by decide +kernel
theorem dX5_init_32 : decode cX5_init 32 = .ok (.iload 6, 2) := by decide +kernel
theorem dX5_init_34 : decode cX5_init 34 = .ok (.putfield 25, 3) := by decide +kernel
theorem dX5_init_37 : decode cX5_init 37 = .ok (.return_, 1) := by decide +kernel
set_option maxRecDepth 20000 in
theorem ggX6_init_Jx4a65c_init_da8c8 : GoodIn wsX6_init wsJx4a65c_init_da8c8 := goodIn_r _ [10, 11, 12, 13, 14, 15, 16, 17, 18, 19, 20, 21, 22, 2, 3, 23, 24, 25] (by decide +kernel) (by decide +kernel)
set_option maxRecDepth 20000 in
theorem gX6_init_Jx4a65c_init_da8c8 : GoodIn wsX6_init (wsJx4a65c_init_da8c8) := ggX6_init_Jx4a65c_init_da8c8
theorem dX6_init_0 : decode cX6_init 0 = .ok (.aload_n 0, 1) := by decide +kernel
theorem dX6_init_1 : decode cX6_init 1 = .ok (.invokespecial 3, 3) := by decide +kernel
theorem dX6_init_4 : decode cX6_init 4 = .ok (.aload_n 0, 1) := by decide +kernel
theorem dX6_init_5 : decode cX6_init 5 = .ok (.new 9, 3) := by decide +kernel
theorem dX6_init_8 : decode cX6_init 8 = .ok (.dup, 1) := by decide +kernel
theorem dX6_init_9 : decode cX6_init 9 = .ok (.invokespecial 11, 3) := by decide +kernel
theorem dX6_init_12 : decode cX6_init 12 = .ok (.putfield 12, 3) := by decide +kernel
theorem dX6_init_15 : decode cX6_init 15 = .ok (.return_, 1) := by decide +kernel
set_option maxRecDepth 20000 in
theorem ggX6_size_Jx4a65c_size_8abf5 : GoodIn wsX6_size wsJx4a65c_size_8abf5 := goodIn_r _ [6, 7, 9, 10, 11] (by decide +kernel) (by decide +kernel)
set_option maxRecDepth 20000 in
theorem gX6_size_Jx4a65c_size_8abf5 : GoodIn wsX6_size (wsV RX6 18 RJx4a65c yJx4a65c_size_8abf5 wsJx4a65c_size_8abf5) := goodIn_app (goodIn_of _ (by decide +kernel)) ggX6_size_Jx4a65c_size_8abf5
theorem dX6_size_0 : decode cX6_size 0 = .ok (.aload_n 0, 1) := by decide +kernel
theorem dX6_size_1 : decode cX6_size 1 = .ok (.getfield 12, 3) := by decide +kernel
theorem dX6_size_4 : decode cX6_size 4 = .ok (.invokevirtual 18, 3) := by decide +kernel
theorem dX6_size_7 : decode cX6_size 7 = .ok (.ireturn, 1) := by decide +kernel
set_option maxRecDepth 20000 in
theorem ggX6_at_Jx4a65c_size_8abf5 : GoodIn wsX6_at wsJx4a65c_size_8abf5 := goodIn_r _ [7, 8, 27, 28, 29] (by decide +kernel) (by decide +kernel)
set_option maxRecDepth 20000 in
theorem gX6_at_Jx4a65c_size_8abf5 : GoodIn wsX6_at (wsV RX6 18 RJx4a65c yJx4a65c_size_8abf5 wsJx4a65c_size_8abf5) := goodIn_app (goodIn_of _ (by decide +kernel)) ggX6_at_Jx4a65c_size_8abf5
set_option maxRecDepth 20000 in
theorem ggX6_at_Jx4a65c_get_915e3 : GoodIn wsX6_at wsJx4a65c_get_915e3 := goodIn_r _ [12, 8, 13, 14, 15, 16, 17, 18, 19, 20, 21, 22, 23, 6, 24, 25, 27, 28, 29] (by decide +kernel) (by decide +kernel)
set_option maxRecDepth 20000 in
theorem gX6_at_Jx4a65c_get_915e3 : GoodIn wsX6_at (wsV RX6 22 RJx4a65c yJx4a65c_get_915e3 wsJx4a65c_get_915e3) := goodIn_app (goodIn_of _ (by decide +kernel)) ggX6_at_Jx4a65c_get_915e3
theorem dX6_at_0 : decode cX6_at 0 = .ok (.iload_n 1, 1) := by decide +kernel
theorem dX6_at_1 : decode cX6_at 1 = .ok (.ifCond .lt 14, 3) := by decide +kernel
theorem dX6_at_4 : decode cX6_at 4 = .ok (.iload_n 1, 1) := by decide +kernel
theorem dX6_at_5 : decode cX6_at 5 = .ok (.aload_n 0, 1) := by decide +kernel
theorem dX6_at_6 : decode cX6_at 6 = .ok (.getfield 12, 3) := by decide +kernel
theorem dX6_at_9 : decode cX6_at 9 = .ok (.invokevirtual 18, 3) := by decide +kernel
theorem dX6_at_12 : decode cX6_at 12 = .ok (.if_icmp .lt 5, 3) := by decide +kernel
theorem dX6_at_15 : decode cX6_at 15 = .ok (.aconst_null, 1) := by decide +kernel
theorem dX6_at_16 : decode cX6_at 16 = .ok (.areturn, 1) := by decide +kernel
theorem dX6_at_17 : decode cX6_at 17 = .ok (.aload_n 0, 1) := by decide +kernel
theorem dX6_at_18 : decode cX6_at 18 = .ok (.getfield 12, 3) := by decide +kernel
theorem dX6_at_21 : decode cX6_at 21 = .ok (.iload_n 1, 1) := by decide +kernel
theorem dX6_at_22 : decode cX6_at 22 = .ok (.invokevirtual 22, 3) := by decide +kernel
theorem dX6_at_25 : decode cX6_at 25 = .ok (.checkcast 26, 3) := by decide +kernel
theorem dX6_at_28 : decode cX6_at 28 = .ok (.areturn, 1) := by decide +kernel
set_option maxRecDepth 20000 in
theorem ggX6_find_X6_placeOf : GoodIn wsX6_find wsX6_placeOf := goodIn_r _ [5, 6, 7, 8, 9, 10, 11, 12, 13, 14, 15, 16, 17, 18, 19, 20, 21, 22, 23, 24, 25, 26, 27, 28, 29, 30, 31, 32, 4, 33, 34, 35, 40, 41, 42, 43, 44, 45, 46, 47, 48, 49] (by decide +kernel) (by decide +kernel)
set_option maxRecDepth 20000 in
theorem gX6_find_X6_placeOf : GoodIn wsX6_find (wsV RX6 28 RX6 yX6_placeOf wsX6_placeOf) := goodIn_app (goodIn_of _ (by decide +kernel)) ggX6_find_X6_placeOf
set_option maxRecDepth 20000 in
theorem ggX6_find_X6_isAt : GoodIn wsX6_find wsX6_isAt := goodIn_r _ [39, 6, 7, 8, 9, 10, 11, 12, 13, 14, 15, 16, 17, 18, 19, 20, 21, 22, 23, 24, 25, 26, 27, 28, 29, 30, 31, 32, 4, 33, 34, 35, 40, 41, 42, 43, 44, 45, 46, 47, 48, 49] (by decide +kernel) (by decide +kernel)
set_option maxRecDepth 20000 in
theorem gX6_find_X6_isAt : GoodIn wsX6_find (wsV RX6 32 RX6 yX6_isAt wsX6_isAt) := goodIn_app (goodIn_of _ (by decide +kernel)) ggX6_find_X6_isAt
theorem dX6_find_0 : decode cX6_find 0 = .ok (.aload_n 0, 1) := by decide +kernel
theorem dX6_find_1 : decode cX6_find 1 = .ok (.iload_n 1, 1) := by decide +kernel
theorem dX6_find_2 : decode cX6_find 2 = .ok (.iload_n 2, 1) := by decide +kernel
theorem dX6_find_3 : decode cX6_find 3 = .ok (.invokevirtual 28, 3) := by decide +kernel
theorem dX6_find_6 : decode cX6_find 6 = .ok (.istore_n 3, 1) := by decide +kernel
theorem dX6_find_7 : decode cX6_find 7 = .ok (.aload_n 0, 1) := by decide +kernel
theorem dX6_find_8 : decode cX6_find 8 = .ok (.iload_n 3, 1) := by decide +kernel
theorem dX6_find_9 : decode cX6_find 9 = .ok (.iload_n 1, 1) := by decide +kernel
theorem dX6_find_10 : decode cX6_find 10 = .ok (.iload_n 2, 1) := by decide +kernel
theorem dX6_find_11 : decode cX6_find 11 = .ok (.invokevirtual 32, 3) := by decide +kernel
theorem dX6_find_14 : decode cX6_find 14 = .ok (.ifCond .eq 7, 3) := by decide +kernel
theorem dX6_find_17 : decode cX6_find 17 = .ok (.iload_n 3, 1) := by decide +kernel
theorem dX6_find_18 : decode cX6_find 18 = .ok (.goto 5, 3) := by decide +kernel
theorem dX6_find_21 : decode cX6_find 21 = .ok (.bipush (-9), 2) := by decide +kernel
theorem dX6_find_23 : decode cX6_find 23 = .ok (.ireturn, 1) := by decide +kernel
set_option maxRecDepth 20000 in
theorem ggX6_offer_X6_placeOf : GoodIn wsX6_offer wsX6_placeOf := goodIn_r _ [11, 3, 12, 13, 14, 15, 16, 17, 18, 19, 20, 21, 22, 23, 24, 25, 26, 27, 28, 29, 30, 31, 32, 33, 34, 35, 36, 37, 10, 38, 39, 40, 126, 133, 134, 135, 127, 128, 129, 130, 131, 132] (by decide +kernel) (by decide +kernel)
set_option maxRecDepth 20000 in
theorem gX6_offer_X6_placeOf : GoodIn wsX6_offer (wsV RX6 28 RX6 yX6_placeOf wsX6_placeOf) := goodIn_app (goodIn_of _ (by decide +kernel)) ggX6_offer_X6_placeOf
set_option maxRecDepth 20000 in
theorem ggX6_offer_X6_isAt : GoodIn wsX6_offer wsX6_isAt := goodIn_r _ [44, 3, 12, 13, 14, 15, 16, 17, 18, 19, 20, 21, 22, 23, 24, 25, 26, 27, 28, 29, 30, 31, 32, 33, 34, 35, 36, 37, 10, 38, 39, 40, 126, 133, 134, 135, 127, 128, 129, 130, 131, 132] (by decide +kernel) (by decide +kernel)
set_option maxRecDepth 20000 in
theorem gX6_offer_X6_isAt : GoodIn wsX6_offer (wsV RX6 32 RX6 yX6_isAt wsX6_isAt) := goodIn_app (goodIn_of _ (by decide +kernel)) ggX6_offer_X6_isAt
set_option maxRecDepth 20000 in
theorem ggX6_offer_X0_reduce : GoodIn wsX6_offer wsX0_reduce := goodIn_r _ [49, 50, 51, 52, 53, 54, 55, 56, 57, 48, 58, 124, 125] (by decide +kernel) (by decide +kernel)
set_option maxRecDepth 20000 in
theorem gX6_offer_X0_reduce : GoodIn wsX6_offer (wsV RX6 45 RX0 yX0_reduce wsX0_reduce) := goodIn_app (goodIn_of _ (by decide +kernel)) ggX6_offer_X0_reduce
set_option maxRecDepth 20000 in
theorem ggX6_offer_X5_init : GoodIn wsX6_offer wsX5_init := goodIn_r _ [61, 62, 63, 64, 65, 66, 67, 68, 69, 70, 127, 128, 129, 130, 131, 132] (by decide +kernel) (by decide +kernel)
set_option maxRecDepth 20000 in
theorem gX6_offer_X5_init : GoodIn wsX6_offer (wsX5_init) := ggX6_offer_X5_init
set_option maxRecDepth 20000 in
theorem ggX6_offer_Jx4a65c_add_7a177 : GoodIn wsX6_offer wsJx4a65c_add_7a177 := goodIn_r _ [74, 75, 76, 18, 35, 77, 78, 79, 80, 81, 82, 83, 16, 84, 85, 86, 87, 88, 89, 90, 91, 92, 93, 94, 95, 53, 96, 97, 98, 99, 100, 101, 102, 103, 104, 105, 106, 107, 108, 109, 110, 111, 112, 113, 114, 115, 116, 117, 118, 119, 120, 121, 122, 123, 133, 134, 135] (by decide +kernel) (by decide +kernel)
set_option maxRecDepth 20000 in
theorem gX6_offer_Jx4a65c_add_7a177 : GoodIn wsX6_offer (wsV RX6 51 RJx4a65c yJx4a65c_add_7a177 wsJx4a65c_add_7a177) := goodIn_app (goodIn_of _ (by decide +kernel)) ggX6_offer_Jx4a65c_add_7a177
theorem dX6_offer_0 : decode cX6_offer 0 = .ok (.aload_n 1, 1) := by decide +kernel
theorem dX6_offer_1 : decode cX6_offer 1 = .ok (.getfield 36, 3) := by decide +kernel
theorem dX6_offer_4 : decode cX6_offer 4 = .ok (.l2i, 1) := by decide +kernel
theorem dX6_offer_5 : decode cX6_offer 5 = .ok (.istore 6, 2) := by decide +kernel
theorem dX6_offer_7 : decode cX6_offer 7 = .ok (.aload_n 1, 1) := by decide +kernel
theorem dX6_offer_8 : decode cX6_offer 8 = .ok (.getfield 42, 3) := by decide +kernel
theorem dX6_offer_11 : decode cX6_offer 11 = .ok (.l2i, 1) := by decide +kernel
theorem dX6_offer_12 : decode cX6_offer 12 = .ok (.istore 7, 2) := by decide +kernel
theorem dX6_offer_14 : decode cX6_offer 14 = .ok (.aload_n 0, 1) := by decide +kernel
theorem dX6_offer_15 : decode cX6_offer 15 = .ok (.iload 6, 2) := by decide +kernel
theorem dX6_offer_17 : decode cX6_offer 17 = .ok (.iload 7, 2) := by decide +kernel
theorem dX6_offer_19 : decode cX6_offer 19 = .ok (.invokevirtual 28, 3) := by decide +kernel
theorem dX6_offer_22 : decode cX6_offer 22 = .ok (.istore 8, 2) := by decide +kernel
theorem dX6_offer_24 : decode cX6_offer 24 = .ok (.aload_n 0, 1) := by decide +kernel
theorem dX6_offer_25 : decode cX6_offer 25 = .ok (.iload 8, 2) := by decide +kernel
theorem dX6_offer_27 : decode cX6_offer 27 = .ok (.iload 6, 2) := by decide +kernel
theorem dX6_offer_29 : decode cX6_offer 29 = .ok (.iload 7, 2) := by decide +kernel
theorem dX6_offer_31 : decode cX6_offer 31 = .ok (.invokevirtual 32, 3) := by decide +kernel
theorem dX6_offer_34 : decode cX6_offer 34 = .ok (.ifCond .eq 4, 3) := by decide +kernel
theorem dX6_offer_37 : decode cX6_offer 37 = .ok (.return_, 1) := by decide +kernel
theorem dX6_offer_38 : decode cX6_offer 38 = .ok (.aload_n 1, 1) := by decide +kernel
theorem dX6_offer_39 : decode cX6_offer 39 = .ok (.invokevirtual 45, 3) := by decide +kernel
theorem dX6_offer_42 : decode cX6_offer 42 = .ok (.aload_n 1, 1) := by decide +kernel
theorem dX6_offer_43 : decode cX6_offer 43 = .ok (.getfield 36, 3) := by decide +kernel
theorem dX6_offer_46 : decode cX6_offer 46 = .ok (.l2i, 1) := by decide +kernel
theorem dX6_offer_47 : decode cX6_offer 47 = .ok (.istore 6, 2) := by decide +kernel
theorem dX6_offer_49 : decode cX6_offer 49 = .ok (.aload_n 1, 1) := by decide +kernel
theorem dX6_offer_50 : decode cX6_offer 50 = .ok (.getfield 42, 3) := by decide +kernel
theorem dX6_offer_53 : decode cX6_offer 53 = .ok (.l2i, 1) := by decide +kernel
theorem dX6_offer_54 : decode cX6_offer 54 = .ok (.istore 7, 2) := by decide +kernel
theorem dX6_offer_56 : decode cX6_offer 56 = .ok (.aload_n 0, 1) := by decide +kernel
theorem dX6_offer_57 : decode cX6_offer 57 = .ok (.getfield 12, 3) := by decide +kernel
theorem dX6_offer_60 : decode cX6_offer 60 = .ok (.iload 8, 2) := by decide +kernel
theorem dX6_offer_62 : decode cX6_offer 62 = .ok (.new 26, 3) := by decide +kernel
theorem dX6_offer_65 : decode cX6_offer 65 = .ok (.dup, 1) := by decide +kernel
theorem dX6_offer_66 : decode cX6_offer 66 = .ok (.iload 6, 2) := by decide +kernel
theorem dX6_offer_68 : decode cX6_offer 68 = .ok (.iload 7, 2) := by decide +kernel
theorem dX6_offer_70 : decode cX6_offer 70 = .ok (.iload_n 2, 1) := by decide +kernel
theorem dX6_offer_71 : decode cX6_offer 71 = .ok (.iload_n 3, 1) := by decide +kernel
theorem dX6_offer_72 : decode cX6_offer 72 = .ok (.iload 4, 2) := by decide +kernel
theorem dX6_offer_74 : decode cX6_offer 74 = .ok (.iload 5, 2) := by decide +kernel
theorem dX6_offer_76 : decode cX6_offer 76 = .ok (.invokespecial 48, 3) := by decide +kernel
theorem dX6_offer_79 : decode cX6_offer 79 = .ok (.invokevirtual 51, 3) := by decide +kernel
theorem dX6_offer_82 : decode cX6_offer 82 = .ok (.return_, 1) := by decide +kernel
set_option maxRecDepth 20000 in
theorem ggX6_placeOf_Jx4a65c_size_8abf5 : GoodIn wsX6_placeOf wsJx4a65c_size_8abf5 := goodIn_r _ [7, 8, 33, 34, 35] (by decide +kernel) (by decide +kernel)
set_option maxRecDepth 20000 in
theorem gX6_placeOf_Jx4a65c_size_8abf5 : GoodIn wsX6_placeOf (wsV RX6 18 RJx4a65c yJx4a65c_size_8abf5 wsJx4a65c_size_8abf5) := goodIn_app (goodIn_of _ (by decide +kernel)) ggX6_placeOf_Jx4a65c_size_8abf5
set_option maxRecDepth 20000 in
theorem ggX6_placeOf_Jx4a65c_get_915e3 : GoodIn wsX6_placeOf wsJx4a65c_get_915e3 := goodIn_r _ [12, 8, 13, 14, 15, 16, 17, 18, 19, 20, 21, 22, 23, 6, 24, 25, 33, 34, 35] (by decide +kernel) (by decide +kernel)
set_option maxRecDepth 20000 in
theorem gX6_placeOf_Jx4a65c_get_915e3 : GoodIn wsX6_placeOf (wsV RX6 22 RJx4a65c yJx4a65c_get_915e3 wsJx4a65c_get_915e3) := goodIn_app (goodIn_of _ (by decide +kernel)) ggX6_placeOf_Jx4a65c_get_915e3
set_option maxRecDepth 20000 in
theorem ggX6_placeOf_X6_difference : GoodIn wsX6_placeOf wsX6_difference := goodIn_r _ [29, 30, 31, 36, 37, 38, 39, 40, 41] (by decide +kernel) (by decide +kernel)
set_option maxRecDepth 20000 in
theorem gX6_placeOf_X6_difference : GoodIn wsX6_placeOf (va_wsS RX6 55 yX6_difference wsX6_difference) := goodIn_app (goodIn_of _ (by decide +kernel)) ggX6_placeOf_X6_difference
theorem dX6_placeOf_0 : decode cX6_placeOf 0 = .ok (.iconst 0, 1) := by decide +kernel
theorem dX6_placeOf_1 : decode cX6_placeOf 1 = .ok (.istore_n 3, 1) := by decide +kernel
theorem dX6_placeOf_2 : decode cX6_placeOf 2 = .ok (.aload_n 0, 1) := by decide +kernel
theorem dX6_placeOf_3 : decode cX6_placeOf 3 = .ok (.getfield 12, 3) := by decide +kernel
theorem dX6_placeOf_6 : decode cX6_placeOf 6 = .ok (.invokevirtual 18, 3) := by decide +kernel
theorem dX6_placeOf_9 : decode cX6_placeOf 9 = .ok (.istore 4, 2) := by decide +kernel
theorem dX6_placeOf_11 : decode cX6_placeOf 11 = .ok (.iconst 0, 1) := by decide +kernel
theorem dX6_placeOf_12 : decode cX6_placeOf 12 = .ok (.istore 5, 2) := by decide +kernel
theorem dX6_placeOf_14 : decode cX6_placeOf 14 = .ok (.iload 5, 2) := by decide +kernel
theorem dX6_placeOf_16 : decode cX6_placeOf 16 = .ok (.bipush 32, 2) := by decide +kernel
theorem dX6_placeOf_18 : decode cX6_placeOf 18 = .ok (.if_icmp .ge 57, 3) := by decide +kernel
theorem dX6_placeOf_21 : decode cX6_placeOf 21 = .ok (.iload_n 3, 1) := by decide +kernel
theorem dX6_placeOf_22 : decode cX6_placeOf 22 = .ok (.iload 4, 2) := by decide +kernel
theorem dX6_placeOf_24 : decode cX6_placeOf 24 = .ok (.if_icmp .ge 51, 3) := by decide +kernel
theorem dX6_placeOf_27 : decode cX6_placeOf 27 = .ok (.iload_n 3, 1) := by decide +kernel
theorem dX6_placeOf_28 : decode cX6_placeOf 28 = .ok (.iload 4, 2) := by decide +kernel
theorem dX6_placeOf_30 : decode cX6_placeOf 30 = .ok (.iadd, 1) := by decide +kernel
theorem dX6_placeOf_31 : decode cX6_placeOf 31 = .ok (.iconst 2, 1) := by decide +kernel
theorem dX6_placeOf_32 : decode cX6_placeOf 32 = .ok (.idiv, 1) := by decide +kernel
theorem dX6_placeOf_33 : decode cX6_placeOf 33 = .ok (.istore 6, 2) := by decide +kernel
theorem dX6_placeOf_35 : decode cX6_placeOf 35 = .ok (.aload_n 0, 1) := by decide +kernel
theorem dX6_placeOf_36 : decode cX6_placeOf 36 = .ok (.getfield 12, 3) := by decide +kernel
theorem dX6_placeOf_39 : decode cX6_placeOf 39 = .ok (.iload 6, 2) := by decide +kernel
theorem dX6_placeOf_41 : decode cX6_placeOf 41 = .ok (.invokevirtual 22, 3) := by decide +kernel
theorem dX6_placeOf_44 : decode cX6_placeOf 44 = .ok (.checkcast 26, 3) := by decide +kernel
theorem dX6_placeOf_47 : decode cX6_placeOf 47 = .ok (.iload_n 1, 1) := by decide +kernel
theorem dX6_placeOf_48 : decode cX6_placeOf 48 = .ok (.iload_n 2, 1) := by decide +kernel
theorem dX6_placeOf_49 : decode cX6_placeOf 49 = .ok (.invokestatic 55, 3) := by decide +kernel
theorem dX6_placeOf_52 : decode cX6_placeOf 52 = .ok (.lconst 0, 1) := by decide +kernel
theorem dX6_placeOf_53 : decode cX6_placeOf 53 = .ok (.lcmp, 1) := by decide +kernel
theorem dX6_placeOf_54 : decode cX6_placeOf 54 = .ok (.ifCond .ge 11, 3) := by decide +kernel
theorem dX6_placeOf_57 : decode cX6_placeOf 57 = .ok (.iload 6, 2) := by decide +kernel
theorem dX6_placeOf_59 : decode cX6_placeOf 59 = .ok (.iconst 1, 1) := by decide +kernel
theorem dX6_placeOf_60 : decode cX6_placeOf 60 = .ok (.iadd, 1) := by decide +kernel
theorem dX6_placeOf_61 : decode cX6_placeOf 61 = .ok (.istore_n 3, 1) := by decide +kernel
theorem dX6_placeOf_62 : decode cX6_placeOf 62 = .ok (.goto 7, 3) := by decide +kernel
theorem dX6_placeOf_65 : decode cX6_placeOf 65 = .ok (.iload 6, 2) := by decide +kernel
theorem dX6_placeOf_67 : decode cX6_placeOf 67 = .ok (.istore 4, 2) := by decide +kernel
theorem dX6_placeOf_69 : decode cX6_placeOf 69 = .ok (.iinc 5 1, 3) := by decide +kernel
theorem dX6_placeOf_72 : decode cX6_placeOf 72 = .ok (.goto (-58), 3) := by decide +kernel
theorem dX6_placeOf_75 : decode cX6_placeOf 75 = .ok (.iload_n 3, 1) := by decide +kernel
theorem dX6_placeOf_76 : decode cX6_placeOf 76 = .ok (.ireturn, 1) := by decide +kernel
set_option maxRecDepth 20000 in
theorem ggX6_isAt_Jx4a65c_size_8abf5 : GoodIn wsX6_isAt wsJx4a65c_size_8abf5 := goodIn_r _ [7, 8, 33, 34, 35] (by decide +kernel) (by decide +kernel)
set_option maxRecDepth 20000 in
theorem gX6_isAt_Jx4a65c_size_8abf5 : GoodIn wsX6_isAt (wsV RX6 18 RJx4a65c yJx4a65c_size_8abf5 wsJx4a65c_size_8abf5) := goodIn_app (goodIn_of _ (by decide +kernel)) ggX6_isAt_Jx4a65c_size_8abf5
set_option maxRecDepth 20000 in
theorem ggX6_isAt_Jx4a65c_get_915e3 : GoodIn wsX6_isAt wsJx4a65c_get_915e3 := goodIn_r _ [12, 8, 13, 14, 15, 16, 17, 18, 19, 20, 21, 22, 23, 6, 24, 25, 33, 34, 35] (by decide +kernel) (by decide +kernel)
set_option maxRecDepth 20000 in
theorem gX6_isAt_Jx4a65c_get_915e3 : GoodIn wsX6_isAt (wsV RX6 22 RJx4a65c yJx4a65c_get_915e3 wsJx4a65c_get_915e3) := goodIn_app (goodIn_of _ (by decide +kernel)) ggX6_isAt_Jx4a65c_get_915e3
set_option maxRecDepth 20000 in
theorem ggX6_isAt_X6_difference : GoodIn wsX6_isAt wsX6_difference := goodIn_r _ [29, 30, 31, 36, 37, 38, 39, 40, 41] (by decide +kernel) (by decide +kernel)
set_option maxRecDepth 20000 in
theorem gX6_isAt_X6_difference : GoodIn wsX6_isAt (va_wsS RX6 55 yX6_difference wsX6_difference) := goodIn_app (goodIn_of _ (by decide +kernel)) ggX6_isAt_X6_difference
theorem dX6_isAt_0 : decode cX6_isAt 0 = .ok (.iload_n 1, 1) := by decide +kernel
theorem dX6_isAt_1 : decode cX6_isAt 1 = .ok (.aload_n 0, 1) := by decide +kernel
theorem dX6_isAt_2 : decode cX6_isAt 2 = .ok (.getfield 12, 3) := by decide +kernel
theorem dX6_isAt_5 : decode cX6_isAt 5 = .ok (.invokevirtual 18, 3) := by decide +kernel
theorem dX6_isAt_8 : decode cX6_isAt 8 = .ok (.if_icmp .ge 28, 3) := by decide +kernel
theorem dX6_isAt_11 : decode cX6_isAt 11 = .ok (.aload_n 0, 1) := by decide +kernel
theorem dX6_isAt_12 : decode cX6_isAt 12 = .ok (.getfield 12, 3) := by decide +kernel
theorem dX6_isAt_15 : decode cX6_isAt 15 = .ok (.iload_n 1, 1) := by decide +kernel
theorem dX6_isAt_16 : decode cX6_isAt 16 = .ok (.invokevirtual 22, 3) := by decide +kernel
theorem dX6_isAt_19 : decode cX6_isAt 19 = .ok (.checkcast 26, 3) := by decide +kernel
theorem dX6_isAt_22 : decode cX6_isAt 22 = .ok (.iload_n 2, 1) := by decide +kernel
theorem dX6_isAt_23 : decode cX6_isAt 23 = .ok (.iload_n 3, 1) := by decide +kernel
theorem dX6_isAt_24 : decode cX6_isAt 24 = .ok (.invokestatic 55, 3) := by decide +kernel
theorem dX6_isAt_27 : decode cX6_isAt 27 = .ok (.lconst 0, 1) := by decide +kernel
theorem dX6_isAt_28 : decode cX6_isAt 28 = .ok (.lcmp, 1) := by decide +kernel
theorem dX6_isAt_29 : decode cX6_isAt 29 = .ok (.ifCond .ne 7, 3) := by decide +kernel
theorem dX6_isAt_32 : decode cX6_isAt 32 = .ok (.iconst 1, 1) := by decide +kernel
theorem dX6_isAt_33 : decode cX6_isAt 33 = .ok (.goto 4, 3) := by decide +kernel
theorem dX6_isAt_36 : decode cX6_isAt 36 = .ok (.iconst 0, 1) := by decide +kernel
theorem dX6_isAt_37 : decode cX6_isAt 37 = .ok (.ireturn, 1) := by decide +kernel
theorem dX6_difference_0 : decode cX6_difference 0 = .ok (.aload_n 0, 1) := by decide +kernel
theorem dX6_difference_1 : decode cX6_difference 1 = .ok (.getfield 59, 3) := by decide +kernel
theorem dX6_difference_4 : decode cX6_difference 4 = .ok (.i2l, 1) := by decide +kernel
theorem dX6_difference_5 : decode cX6_difference 5 = .ok (.iload_n 2, 1) := by decide +kernel
theorem dX6_difference_6 : decode cX6_difference 6 = .ok (.i2l, 1) := by decide +kernel
theorem dX6_difference_7 : decode cX6_difference 7 = .ok (.lmul, 1) := by decide +kernel
theorem dX6_difference_8 : decode cX6_difference 8 = .ok (.iload_n 1, 1) := by decide +kernel
theorem dX6_difference_9 : decode cX6_difference 9 = .ok (.i2l, 1) := by decide +kernel
theorem dX6_difference_10 : decode cX6_difference 10 = .ok (.aload_n 0, 1) := by decide +kernel
theorem dX6_difference_11 : decode cX6_difference 11 = .ok (.getfield 62, 3) := by decide +kernel
theorem dX6_difference_14 : decode cX6_difference 14 = .ok (.i2l, 1) := by decide +kernel
theorem dX6_difference_15 : decode cX6_difference 15 = .ok (.lmul, 1) := by decide +kernel
theorem dX6_difference_16 : decode cX6_difference 16 = .ok (.lsub, 1) := by decide +kernel
theorem dX6_difference_17 : decode cX6_difference 17 = .ok (.lreturn, 1) := by decide +kernel
set_option maxRecDepth 20000 in
theorem ggX7_init_X0_init : GoodIn wsX7_init wsX0_init := goodIn_r _ [14, 15, 2, 3, 16, 17, 23, 24] (by decide +kernel) (by decide +kernel)
set_option maxRecDepth 20000 in
theorem gX7_init_X0_init_n24 : GoodIn wsX7_init (wsX0_init) := ggX7_init_X0_init
theorem dX7_init_0 : decode cX7_init 0 = .ok (.aload_n 0, 1) := by decide +kernel
theorem dX7_init_1 : decode cX7_init 1 = .ok (.invokespecial 3, 3) := by decide +kernel
theorem dX7_init_4 : decode cX7_init 4 = .ok (.aload_n 0, 1) := by decide +kernel
theorem dX7_init_5 : decode cX7_init 5 = .ok (.bipush 6, 2) := by decide +kernel
theorem dX7_init_7 : decode cX7_init 7 = .ok (.newarray .int, 2) := by decide +kernel
theorem dX7_init_9 : decode cX7_init 9 = .ok (.putfield 9, 3) := by decide +kernel
theorem dX7_init_12 : decode cX7_init 12 = .ok (.aload_n 0, 1) := by decide +kernel
theorem dX7_init_13 : decode cX7_init 13 = .ok (.bipush 6, 2) := by decide +kernel
theorem dX7_init_15 : decode cX7_init 15 = .ok (.newarray .int, 2) := by decide +kernel
theorem dX7_init_17 : decode cX7_init 17 = .ok (.putfield 15, 3) := by decide +kernel
theorem dX7_init_20 : decode cX7_init 20 = .ok (.aload_n 0, 1) := by decide +kernel
theorem dX7_init_21 : decode cX7_init 21 = .ok (.iconst 0, 1) := by decide +kernel
theorem dX7_init_22 : decode cX7_init 22 = .ok (.putfield 18, 3) := by decide +kernel
theorem dX7_init_25 : decode cX7_init 25 = .ok (.aload_n 0, 1) := by decide +kernel
theorem dX7_init_26 : decode cX7_init 26 = .ok (.new 22, 3) := by decide +kernel
theorem dX7_init_29 : decode cX7_init 29 = .ok (.dup, 1) := by decide +kernel
theorem dX7_init_30 : decode cX7_init 30 = .ok (.invokespecial 24, 3) := by decide +kernel
theorem dX7_init_33 : decode cX7_init 33 = .ok (.putfield 25, 3) := by decide +kernel
theorem dX7_init_36 : decode cX7_init 36 = .ok (.aload_n 0, 1) := by decide +kernel
theorem dX7_init_37 : decode cX7_init 37 = .ok (.new 22, 3) := by decide +kernel
theorem dX7_init_40 : decode cX7_init 40 = .ok (.dup, 1) := by decide +kernel
theorem dX7_init_41 : decode cX7_init 41 = .ok (.invokespecial 24, 3) := by decide +kernel
theorem dX7_init_44 : decode cX7_init 44 = .ok (.putfield 29, 3) := by decide +kernel
theorem dX7_init_47 : decode cX7_init 47 = .ok (.return_, 1) := by decide +kernel
theorem dX7_size_0 : decode cX7_size 0 = .ok (.aload_n 0, 1) := by decide +kernel
theorem dX7_size_1 : decode cX7_size 1 = .ok (.getfield 18, 3) := by decide +kernel
theorem dX7_size_4 : decode cX7_size 4 = .ok (.ireturn, 1) := by decide +kernel
theorem dX7_add_0 : decode cX7_add 0 = .ok (.aload_n 0, 1) := by decide +kernel
theorem dX7_add_1 : decode cX7_add 1 = .ok (.getfield 9, 3) := by decide +kernel
theorem dX7_add_4 : decode cX7_add 4 = .ok (.aload_n 0, 1) := by decide +kernel
theorem dX7_add_5 : decode cX7_add 5 = .ok (.getfield 18, 3) := by decide +kernel
theorem dX7_add_8 : decode cX7_add 8 = .ok (.iload_n 1, 1) := by decide +kernel
theorem dX7_add_9 : decode cX7_add 9 = .ok (.iastore, 1) := by decide +kernel
theorem dX7_add_10 : decode cX7_add 10 = .ok (.aload_n 0, 1) := by decide +kernel
theorem dX7_add_11 : decode cX7_add 11 = .ok (.getfield 15, 3) := by decide +kernel
theorem dX7_add_14 : decode cX7_add 14 = .ok (.aload_n 0, 1) := by decide +kernel
theorem dX7_add_15 : decode cX7_add 15 = .ok (.getfield 18, 3) := by decide +kernel
theorem dX7_add_18 : decode cX7_add 18 = .ok (.iload_n 2, 1) := by decide +kernel
theorem dX7_add_19 : decode cX7_add 19 = .ok (.iastore, 1) := by decide +kernel
theorem dX7_add_20 : decode cX7_add 20 = .ok (.aload_n 0, 1) := by decide +kernel
theorem dX7_add_21 : decode cX7_add 21 = .ok (.dup, 1) := by decide +kernel
theorem dX7_add_22 : decode cX7_add 22 = .ok (.getfield 18, 3) := by decide +kernel
theorem dX7_add_25 : decode cX7_add 25 = .ok (.iconst 1, 1) := by decide +kernel
theorem dX7_add_26 : decode cX7_add 26 = .ok (.iadd, 1) := by decide +kernel
theorem dX7_add_27 : decode cX7_add 27 = .ok (.putfield 18, 3) := by decide +kernel
theorem dX7_add_30 : decode cX7_add 30 = .ok (.aload_n 0, 1) := by decide +kernel
theorem dX7_add_31 : decode cX7_add 31 = .ok (.getfield 18, 3) := by decide +kernel
theorem dX7_add_34 : decode cX7_add 34 = .ok (.iconst 1, 1) := by decide +kernel
theorem dX7_add_35 : decode cX7_add 35 = .ok (.isub, 1) := by decide +kernel
theorem dX7_add_36 : decode cX7_add 36 = .ok (.ireturn, 1) := by decide +kernel
set_option maxRecDepth 20000 in
theorem ggX7_has_X7_isOneSort : GoodIn wsX7_has wsX7_isOneSort := goodIn_r _ [5] (by decide +kernel) (by decide +kernel)
set_option maxRecDepth 20000 in
theorem gX7_has_X7_isOneSort : GoodIn wsX7_has (va_wsS RX7 32 yX7_isOneSort wsX7_isOneSort) := goodIn_app (goodIn_of _ (by decide +kernel)) ggX7_has_X7_isOneSort
set_option maxRecDepth 20000 in
theorem ggX7_has_X7_firstOf : GoodIn wsX7_has wsX7_firstOf := goodIn_r _ [8, 2, 3, 4, 5] (by decide +kernel) (by decide +kernel)
set_option maxRecDepth 20000 in
theorem gX7_has_X7_firstOf : GoodIn wsX7_has (va_wsS RX7 36 yX7_firstOf wsX7_firstOf) := goodIn_app (goodIn_of _ (by decide +kernel)) ggX7_has_X7_firstOf
set_option maxRecDepth 20000 in
theorem ggX7_has_X7_secondOf : GoodIn wsX7_has wsX7_secondOf := goodIn_r _ [11] (by decide +kernel) (by decide +kernel)
set_option maxRecDepth 20000 in
theorem gX7_has_X7_secondOf : GoodIn wsX7_has (va_wsS RX7 40 yX7_secondOf wsX7_secondOf) := goodIn_app (goodIn_of _ (by decide +kernel)) ggX7_has_X7_secondOf
theorem dX7_has_0 : decode cX7_has 0 = .ok (.iload_n 1, 1) := by decide +kernel
theorem dX7_has_1 : decode cX7_has 1 = .ok (.ifCond .lt 10, 3) := by decide +kernel
theorem dX7_has_4 : decode cX7_has 4 = .ok (.iload_n 1, 1) := by decide +kernel
theorem dX7_has_5 : decode cX7_has 5 = .ok (.sipush 300, 3) := by decide +kernel
theorem dX7_has_8 : decode cX7_has 8 = .ok (.if_icmp .lt 5, 3) := by decide +kernel
theorem dX7_has_11 : decode cX7_has 11 = .ok (.iconst 0, 1) := by decide +kernel
theorem dX7_has_12 : decode cX7_has 12 = .ok (.ireturn, 1) := by decide +kernel
theorem dX7_has_13 : decode cX7_has 13 = .ok (.iload_n 1, 1) := by decide +kernel
theorem dX7_has_14 : decode cX7_has 14 = .ok (.invokestatic 32, 3) := by decide +kernel
theorem dX7_has_17 : decode cX7_has 17 = .ok (.ifCond .eq 17, 3) := by decide +kernel
theorem dX7_has_20 : decode cX7_has 20 = .ok (.iload_n 1, 1) := by decide +kernel
theorem dX7_has_21 : decode cX7_has 21 = .ok (.aload_n 0, 1) := by decide +kernel
theorem dX7_has_22 : decode cX7_has 22 = .ok (.getfield 18, 3) := by decide +kernel
theorem dX7_has_25 : decode cX7_has 25 = .ok (.if_icmp .ge 7, 3) := by decide +kernel
theorem dX7_has_28 : decode cX7_has 28 = .ok (.iconst 1, 1) := by decide +kernel
theorem dX7_has_29 : decode cX7_has 29 = .ok (.goto 4, 3) := by decide +kernel
theorem dX7_has_32 : decode cX7_has 32 = .ok (.iconst 0, 1) := by decide +kernel
theorem dX7_has_33 : decode cX7_has 33 = .ok (.ireturn, 1) := by decide +kernel
theorem dX7_has_34 : decode cX7_has 34 = .ok (.iload_n 1, 1) := by decide +kernel
theorem dX7_has_35 : decode cX7_has 35 = .ok (.invokestatic 36, 3) := by decide +kernel
theorem dX7_has_38 : decode cX7_has 38 = .ok (.iload_n 1, 1) := by decide +kernel
theorem dX7_has_39 : decode cX7_has 39 = .ok (.invokestatic 40, 3) := by decide +kernel
theorem dX7_has_42 : decode cX7_has 42 = .ok (.if_icmp .gt 18, 3) := by decide +kernel
theorem dX7_has_45 : decode cX7_has 45 = .ok (.iload_n 1, 1) := by decide +kernel
theorem dX7_has_46 : decode cX7_has 46 = .ok (.invokestatic 40, 3) := by decide +kernel
theorem dX7_has_49 : decode cX7_has 49 = .ok (.aload_n 0, 1) := by decide +kernel
theorem dX7_has_50 : decode cX7_has 50 = .ok (.getfield 18, 3) := by decide +kernel
theorem dX7_has_53 : decode cX7_has 53 = .ok (.if_icmp .ge 7, 3) := by decide +kernel
theorem dX7_has_56 : decode cX7_has 56 = .ok (.iconst 1, 1) := by decide +kernel
theorem dX7_has_57 : decode cX7_has 57 = .ok (.goto 4, 3) := by decide +kernel
theorem dX7_has_60 : decode cX7_has 60 = .ok (.iconst 0, 1) := by decide +kernel
theorem dX7_has_61 : decode cX7_has 61 = .ok (.ireturn, 1) := by decide +kernel
theorem dX7_isOneSort_0 : decode cX7_isOneSort 0 = .ok (.iload_n 0, 1) := by decide +kernel
theorem dX7_isOneSort_1 : decode cX7_isOneSort 1 = .ok (.bipush 100, 2) := by decide +kernel
theorem dX7_isOneSort_3 : decode cX7_isOneSort 3 = .ok (.if_icmp .ge 7, 3) := by decide +kernel
theorem dX7_isOneSort_6 : decode cX7_isOneSort 6 = .ok (.iconst 1, 1) := by decide +kernel
theorem dX7_isOneSort_7 : decode cX7_isOneSort 7 = .ok (.goto 4, 3) := by decide +kernel
theorem dX7_isOneSort_10 : decode cX7_isOneSort 10 = .ok (.iconst 0, 1) := by decide +kernel
theorem dX7_isOneSort_11 : decode cX7_isOneSort 11 = .ok (.ireturn, 1) := by decide +kernel
set_option maxRecDepth 20000 in
theorem ggX7_firstOf_X7_isOneSort : GoodIn wsX7_firstOf wsX7_isOneSort := goodIn_r _ [4] (by decide +kernel) (by decide +kernel)
set_option maxRecDepth 20000 in
theorem gX7_firstOf_X7_isOneSort : GoodIn wsX7_firstOf (va_wsS RX7 32 yX7_isOneSort wsX7_isOneSort) := goodIn_app (goodIn_of _ (by decide +kernel)) ggX7_firstOf_X7_isOneSort
theorem dX7_firstOf_0 : decode cX7_firstOf 0 = .ok (.iload_n 0, 1) := by decide +kernel
theorem dX7_firstOf_1 : decode cX7_firstOf 1 = .ok (.invokestatic 32, 3) := by decide +kernel
theorem dX7_firstOf_4 : decode cX7_firstOf 4 = .ok (.ifCond .eq 7, 3) := by decide +kernel
theorem dX7_firstOf_7 : decode cX7_firstOf 7 = .ok (.iload_n 0, 1) := by decide +kernel
theorem dX7_firstOf_8 : decode cX7_firstOf 8 = .ok (.goto 10, 3) := by decide +kernel
theorem dX7_firstOf_11 : decode cX7_firstOf 11 = .ok (.iload_n 0, 1) := by decide +kernel
theorem dX7_firstOf_12 : decode cX7_firstOf 12 = .ok (.bipush 100, 2) := by decide +kernel
theorem dX7_firstOf_14 : decode cX7_firstOf 14 = .ok (.irem, 1) := by decide +kernel
theorem dX7_firstOf_15 : decode cX7_firstOf 15 = .ok (.bipush 10, 2) := by decide +kernel
theorem dX7_firstOf_17 : decode cX7_firstOf 17 = .ok (.idiv, 1) := by decide +kernel
theorem dX7_firstOf_18 : decode cX7_firstOf 18 = .ok (.ireturn, 1) := by decide +kernel
theorem dX7_secondOf_0 : decode cX7_secondOf 0 = .ok (.iload_n 0, 1) := by decide +kernel
theorem dX7_secondOf_1 : decode cX7_secondOf 1 = .ok (.bipush 10, 2) := by decide +kernel
theorem dX7_secondOf_3 : decode cX7_secondOf 3 = .ok (.irem, 1) := by decide +kernel
theorem dX7_secondOf_4 : decode cX7_secondOf 4 = .ok (.ireturn, 1) := by decide +kernel
set_option maxRecDepth 20000 in
theorem ggX7_priceOf_X7_firstOf : GoodIn wsX7_priceOf wsX7_firstOf := goodIn_r _ [5, 6, 7, 4, 8] (by decide +kernel) (by decide +kernel)
set_option maxRecDepth 20000 in
theorem gX7_priceOf_X7_firstOf : GoodIn wsX7_priceOf (va_wsS RX7 36 yX7_firstOf wsX7_firstOf) := goodIn_app (goodIn_of _ (by decide +kernel)) ggX7_priceOf_X7_firstOf
set_option maxRecDepth 20000 in
theorem ggX7_priceOf_X7_isOneSort : GoodIn wsX7_priceOf wsX7_isOneSort := goodIn_r _ [8] (by decide +kernel) (by decide +kernel)
set_option maxRecDepth 20000 in
theorem gX7_priceOf_X7_isOneSort : GoodIn wsX7_priceOf (va_wsS RX7 32 yX7_isOneSort wsX7_isOneSort) := goodIn_app (goodIn_of _ (by decide +kernel)) ggX7_priceOf_X7_isOneSort
set_option maxRecDepth 20000 in
theorem ggX7_priceOf_X7_secondOf : GoodIn wsX7_priceOf wsX7_secondOf := goodIn_r _ [11] (by decide +kernel) (by decide +kernel)
set_option maxRecDepth 20000 in
theorem gX7_priceOf_X7_secondOf : GoodIn wsX7_priceOf (va_wsS RX7 40 yX7_secondOf wsX7_secondOf) := goodIn_app (goodIn_of _ (by decide +kernel)) ggX7_priceOf_X7_secondOf
theorem dX7_priceOf_0 : decode cX7_priceOf 0 = .ok (.aload_n 0, 1) := by decide +kernel
theorem dX7_priceOf_1 : decode cX7_priceOf 1 = .ok (.getfield 15, 3) := by decide +kernel
theorem dX7_priceOf_4 : decode cX7_priceOf 4 = .ok (.iload_n 1, 1) := by decide +kernel
theorem dX7_priceOf_5 : decode cX7_priceOf 5 = .ok (.invokestatic 36, 3) := by decide +kernel
theorem dX7_priceOf_8 : decode cX7_priceOf 8 = .ok (.iaload, 1) := by decide +kernel
theorem dX7_priceOf_9 : decode cX7_priceOf 9 = .ok (.istore_n 2, 1) := by decide +kernel
theorem dX7_priceOf_10 : decode cX7_priceOf 10 = .ok (.iload_n 1, 1) := by decide +kernel
theorem dX7_priceOf_11 : decode cX7_priceOf 11 = .ok (.invokestatic 32, 3) := by decide +kernel
theorem dX7_priceOf_14 : decode cX7_priceOf 14 = .ok (.ifCond .eq 7, 3) := by decide +kernel
theorem dX7_priceOf_17 : decode cX7_priceOf 17 = .ok (.iload_n 2, 1) := by decide +kernel
theorem dX7_priceOf_18 : decode cX7_priceOf 18 = .ok (.goto 14, 3) := by decide +kernel
theorem dX7_priceOf_21 : decode cX7_priceOf 21 = .ok (.iload_n 2, 1) := by decide +kernel
theorem dX7_priceOf_22 : decode cX7_priceOf 22 = .ok (.aload_n 0, 1) := by decide +kernel
theorem dX7_priceOf_23 : decode cX7_priceOf 23 = .ok (.getfield 15, 3) := by decide +kernel
theorem dX7_priceOf_26 : decode cX7_priceOf 26 = .ok (.iload_n 1, 1) := by decide +kernel
theorem dX7_priceOf_27 : decode cX7_priceOf 27 = .ok (.invokestatic 40, 3) := by decide +kernel
theorem dX7_priceOf_30 : decode cX7_priceOf 30 = .ok (.iaload, 1) := by decide +kernel
theorem dX7_priceOf_31 : decode cX7_priceOf 31 = .ok (.iadd, 1) := by decide +kernel
theorem dX7_priceOf_32 : decode cX7_priceOf 32 = .ok (.ireturn, 1) := by decide +kernel
set_option maxRecDepth 20000 in
theorem ggX7_measure_X7_firstOf : GoodIn wsX7_measure wsX7_firstOf := goodIn_r _ [5, 6, 7, 4, 8] (by decide +kernel) (by decide +kernel)
set_option maxRecDepth 20000 in
theorem gX7_measure_X7_firstOf : GoodIn wsX7_measure (va_wsS RX7 36 yX7_firstOf wsX7_firstOf) := goodIn_app (goodIn_of _ (by decide +kernel)) ggX7_measure_X7_firstOf
set_option maxRecDepth 20000 in
theorem ggX7_measure_X7_isOneSort : GoodIn wsX7_measure wsX7_isOneSort := goodIn_r _ [8] (by decide +kernel) (by decide +kernel)
set_option maxRecDepth 20000 in
theorem gX7_measure_X7_isOneSort : GoodIn wsX7_measure (va_wsS RX7 32 yX7_isOneSort wsX7_isOneSort) := goodIn_app (goodIn_of _ (by decide +kernel)) ggX7_measure_X7_isOneSort
set_option maxRecDepth 20000 in
theorem ggX7_measure_X0_set : GoodIn wsX7_measure wsX0_set := goodIn_r _ [13, 14, 15, 24, 25] (by decide +kernel) (by decide +kernel)
set_option maxRecDepth 20000 in
theorem gX7_measure_X0_set : GoodIn wsX7_measure (wsV RX7 43 RX0 yX0_set wsX0_set) := goodIn_app (goodIn_of _ (by decide +kernel)) ggX7_measure_X0_set
set_option maxRecDepth 20000 in
theorem ggX7_measure_X7_secondOf : GoodIn wsX7_measure wsX7_secondOf := goodIn_r _ [18] (by decide +kernel) (by decide +kernel)
set_option maxRecDepth 20000 in
theorem gX7_measure_X7_secondOf : GoodIn wsX7_measure (va_wsS RX7 40 yX7_secondOf wsX7_secondOf) := goodIn_app (goodIn_of _ (by decide +kernel)) ggX7_measure_X7_secondOf
theorem dX7_measure_0 : decode cX7_measure 0 = .ok (.aload_n 0, 1) := by decide +kernel
theorem dX7_measure_1 : decode cX7_measure 1 = .ok (.getfield 9, 3) := by decide +kernel
theorem dX7_measure_4 : decode cX7_measure 4 = .ok (.iload_n 1, 1) := by decide +kernel
theorem dX7_measure_5 : decode cX7_measure 5 = .ok (.invokestatic 36, 3) := by decide +kernel
theorem dX7_measure_8 : decode cX7_measure 8 = .ok (.iaload, 1) := by decide +kernel
theorem dX7_measure_9 : decode cX7_measure 9 = .ok (.istore_n 3, 1) := by decide +kernel
theorem dX7_measure_10 : decode cX7_measure 10 = .ok (.iload_n 1, 1) := by decide +kernel
theorem dX7_measure_11 : decode cX7_measure 11 = .ok (.invokestatic 32, 3) := by decide +kernel
theorem dX7_measure_14 : decode cX7_measure 14 = .ok (.ifCond .eq 11, 3) := by decide +kernel
theorem dX7_measure_17 : decode cX7_measure 17 = .ok (.aload_n 2, 1) := by decide +kernel
theorem dX7_measure_18 : decode cX7_measure 18 = .ok (.iload_n 3, 1) := by decide +kernel
theorem dX7_measure_19 : decode cX7_measure 19 = .ok (.i2l, 1) := by decide +kernel
theorem dX7_measure_20 : decode cX7_measure 20 = .ok (.lconst 1, 1) := by decide +kernel
theorem dX7_measure_21 : decode cX7_measure 21 = .ok (.invokevirtual 43, 3) := by decide +kernel
theorem dX7_measure_24 : decode cX7_measure 24 = .ok (.return_, 1) := by decide +kernel
theorem dX7_measure_25 : decode cX7_measure 25 = .ok (.aload_n 0, 1) := by decide +kernel
theorem dX7_measure_26 : decode cX7_measure 26 = .ok (.getfield 9, 3) := by decide +kernel
theorem dX7_measure_29 : decode cX7_measure 29 = .ok (.iload_n 1, 1) := by decide +kernel
theorem dX7_measure_30 : decode cX7_measure 30 = .ok (.invokestatic 40, 3) := by decide +kernel
theorem dX7_measure_33 : decode cX7_measure 33 = .ok (.iaload, 1) := by decide +kernel
theorem dX7_measure_34 : decode cX7_measure 34 = .ok (.istore 4, 2) := by decide +kernel
theorem dX7_measure_36 : decode cX7_measure 36 = .ok (.iload_n 1, 1) := by decide +kernel
theorem dX7_measure_37 : decode cX7_measure 37 = .ok (.bipush 100, 2) := by decide +kernel
theorem dX7_measure_39 : decode cX7_measure 39 = .ok (.idiv, 1) := by decide +kernel
theorem dX7_measure_40 : decode cX7_measure 40 = .ok (.iconst 1, 1) := by decide +kernel
theorem dX7_measure_41 : decode cX7_measure 41 = .ok (.if_icmp .ne 16, 3) := by decide +kernel
theorem dX7_measure_44 : decode cX7_measure 44 = .ok (.aload_n 2, 1) := by decide +kernel
theorem dX7_measure_45 : decode cX7_measure 45 = .ok (.iload_n 3, 1) := by decide +kernel
theorem dX7_measure_46 : decode cX7_measure 46 = .ok (.iload 4, 2) := by decide +kernel
theorem dX7_measure_48 : decode cX7_measure 48 = .ok (.iadd, 1) := by decide +kernel
theorem dX7_measure_49 : decode cX7_measure 49 = .ok (.i2l, 1) := by decide +kernel
theorem dX7_measure_50 : decode cX7_measure 50 = .ok (.lconst 1, 1) := by decide +kernel
theorem dX7_measure_51 : decode cX7_measure 51 = .ok (.invokevirtual 43, 3) := by decide +kernel
theorem dX7_measure_54 : decode cX7_measure 54 = .ok (.goto 17, 3) := by decide +kernel
theorem dX7_measure_57 : decode cX7_measure 57 = .ok (.aload_n 2, 1) := by decide +kernel
theorem dX7_measure_58 : decode cX7_measure 58 = .ok (.iload_n 3, 1) := by decide +kernel
theorem dX7_measure_59 : decode cX7_measure 59 = .ok (.iload 4, 2) := by decide +kernel
theorem dX7_measure_61 : decode cX7_measure 61 = .ok (.imul, 1) := by decide +kernel
theorem dX7_measure_62 : decode cX7_measure 62 = .ok (.i2l, 1) := by decide +kernel
theorem dX7_measure_63 : decode cX7_measure 63 = .ok (.iload_n 3, 1) := by decide +kernel
theorem dX7_measure_64 : decode cX7_measure 64 = .ok (.iload 4, 2) := by decide +kernel
theorem dX7_measure_66 : decode cX7_measure 66 = .ok (.iadd, 1) := by decide +kernel
theorem dX7_measure_67 : decode cX7_measure 67 = .ok (.i2l, 1) := by decide +kernel
theorem dX7_measure_68 : decode cX7_measure 68 = .ok (.invokevirtual 43, 3) := by decide +kernel
theorem dX7_measure_71 : decode cX7_measure 71 = .ok (.return_, 1) := by decide +kernel
set_option maxRecDepth 20000 in
theorem ggX7_nearestTo_X7_has : GoodIn wsX7_nearestTo wsX7_has := goodIn_r _ [9, 10, 11, 12, 8, 13, 14, 15, 16, 17, 18, 19, 48, 49, 50, 51, 52] (by decide +kernel) (by decide +kernel)
set_option maxRecDepth 20000 in
theorem gX7_nearestTo_X7_has : GoodIn wsX7_nearestTo (wsV RX7 47 RX7 yX7_has wsX7_has) := goodIn_app (goodIn_of _ (by decide +kernel)) ggX7_nearestTo_X7_has
set_option maxRecDepth 20000 in
theorem ggX7_nearestTo_X7_measure : GoodIn wsX7_nearestTo wsX7_measure := goodIn_r _ [23, 24, 14, 15, 8, 16, 11, 12, 13, 25, 26, 27, 28, 29, 30, 31, 17, 18, 19, 48, 49, 50, 51, 52, 53, 54] (by decide +kernel) (by decide +kernel)
set_option maxRecDepth 20000 in
theorem gX7_nearestTo_X7_measure : GoodIn wsX7_nearestTo (wsV RX7 50 RX7 yX7_measure wsX7_measure) := goodIn_app (goodIn_of _ (by decide +kernel)) ggX7_nearestTo_X7_measure
set_option maxRecDepth 20000 in
theorem ggX7_nearestTo_X7_isTriedBetter : GoodIn wsX7_nearestTo wsX7_isTriedBetter := goodIn_r _ [35, 1, 2, 4, 36, 37, 8, 38, 3, 39, 40, 41, 42, 43, 44, 45, 46, 47, 14, 15, 16, 11, 12, 13, 17, 18, 19, 48, 49, 50, 51, 52, 53, 54] (by decide +kernel) (by decide +kernel)
set_option maxRecDepth 20000 in
theorem gX7_nearestTo_X7_isTriedBetter : GoodIn wsX7_nearestTo (wsV RX7 54 RX7 yX7_isTriedBetter wsX7_isTriedBetter) := goodIn_app (goodIn_of _ (by decide +kernel)) ggX7_nearestTo_X7_isTriedBetter
set_option maxRecDepth 20000 in
theorem ggX7_nearestTo_X0_set : GoodIn wsX7_nearestTo wsX0_set := goodIn_r _ [29, 30, 31, 53, 54] (by decide +kernel) (by decide +kernel)
set_option maxRecDepth 20000 in
theorem gX7_nearestTo_X0_set : GoodIn wsX7_nearestTo (wsV RX7 43 RX0 yX0_set wsX0_set) := goodIn_app (goodIn_of _ (by decide +kernel)) ggX7_nearestTo_X0_set
theorem dX7_nearestTo_0 : decode cX7_nearestTo 0 = .ok (.bipush (-9), 2) := by decide +kernel
theorem dX7_nearestTo_2 : decode cX7_nearestTo 2 = .ok (.istore_n 3, 1) := by decide +kernel
theorem dX7_nearestTo_3 : decode cX7_nearestTo 3 = .ok (.iconst 0, 1) := by decide +kernel
theorem dX7_nearestTo_4 : decode cX7_nearestTo 4 = .ok (.istore 4, 2) := by decide +kernel
theorem dX7_nearestTo_6 : decode cX7_nearestTo 6 = .ok (.iload 4, 2) := by decide +kernel
theorem dX7_nearestTo_8 : decode cX7_nearestTo 8 = .ok (.sipush 300, 3) := by decide +kernel
theorem dX7_nearestTo_11 : decode cX7_nearestTo 11 = .ok (.if_icmp .ge 73, 3) := by decide +kernel
theorem dX7_nearestTo_14 : decode cX7_nearestTo 14 = .ok (.aload_n 0, 1) := by decide +kernel
theorem dX7_nearestTo_15 : decode cX7_nearestTo 15 = .ok (.iload 4, 2) := by decide +kernel
theorem dX7_nearestTo_17 : decode cX7_nearestTo 17 = .ok (.invokevirtual 47, 3) := by decide +kernel
theorem dX7_nearestTo_20 : decode cX7_nearestTo 20 = .ok (.ifCond .ne 6, 3) := by decide +kernel
theorem dX7_nearestTo_23 : decode cX7_nearestTo 23 = .ok (.goto 55, 3) := by decide +kernel
theorem dX7_nearestTo_26 : decode cX7_nearestTo 26 = .ok (.aload_n 0, 1) := by decide +kernel
theorem dX7_nearestTo_27 : decode cX7_nearestTo 27 = .ok (.iload 4, 2) := by decide +kernel
theorem dX7_nearestTo_29 : decode cX7_nearestTo 29 = .ok (.aload_n 0, 1) := by decide +kernel
theorem dX7_nearestTo_30 : decode cX7_nearestTo 30 = .ok (.getfield 25, 3) := by decide +kernel
theorem dX7_nearestTo_33 : decode cX7_nearestTo 33 = .ok (.invokevirtual 50, 3) := by decide +kernel
theorem dX7_nearestTo_36 : decode cX7_nearestTo 36 = .ok (.iload_n 3, 1) := by decide +kernel
theorem dX7_nearestTo_37 : decode cX7_nearestTo 37 = .ok (.bipush (-9), 2) := by decide +kernel
theorem dX7_nearestTo_39 : decode cX7_nearestTo 39 = .ok (.if_icmp .eq 15, 3) := by decide +kernel
theorem dX7_nearestTo_42 : decode cX7_nearestTo 42 = .ok (.aload_n 0, 1) := by decide +kernel
theorem dX7_nearestTo_43 : decode cX7_nearestTo 43 = .ok (.iload 4, 2) := by decide +kernel
theorem dX7_nearestTo_45 : decode cX7_nearestTo 45 = .ok (.iload_n 3, 1) := by decide +kernel
theorem dX7_nearestTo_46 : decode cX7_nearestTo 46 = .ok (.iload_n 1, 1) := by decide +kernel
theorem dX7_nearestTo_47 : decode cX7_nearestTo 47 = .ok (.iload_n 2, 1) := by decide +kernel
theorem dX7_nearestTo_48 : decode cX7_nearestTo 48 = .ok (.invokevirtual 54, 3) := by decide +kernel
theorem dX7_nearestTo_51 : decode cX7_nearestTo 51 = .ok (.ifCond .eq 27, 3) := by decide +kernel
theorem dX7_nearestTo_54 : decode cX7_nearestTo 54 = .ok (.iload 4, 2) := by decide +kernel
theorem dX7_nearestTo_56 : decode cX7_nearestTo 56 = .ok (.istore_n 3, 1) := by decide +kernel
theorem dX7_nearestTo_57 : decode cX7_nearestTo 57 = .ok (.aload_n 0, 1) := by decide +kernel
theorem dX7_nearestTo_58 : decode cX7_nearestTo 58 = .ok (.getfield 29, 3) := by decide +kernel
theorem dX7_nearestTo_61 : decode cX7_nearestTo 61 = .ok (.aload_n 0, 1) := by decide +kernel
theorem dX7_nearestTo_62 : decode cX7_nearestTo 62 = .ok (.getfield 25, 3) := by decide +kernel
theorem dX7_nearestTo_65 : decode cX7_nearestTo 65 = .ok (.getfield 58, 3) := by decide +kernel
theorem dX7_nearestTo_68 : decode cX7_nearestTo 68 = .ok (.aload_n 0, 1) := by decide +kernel
theorem dX7_nearestTo_69 : decode cX7_nearestTo 69 = .ok (.getfield 25, 3) := by decide +kernel
theorem dX7_nearestTo_72 : decode cX7_nearestTo 72 = .ok (.getfield 62, 3) := by decide +kernel
theorem dX7_nearestTo_75 : decode cX7_nearestTo 75 = .ok (.invokevirtual 43, 3) := by decide +kernel
theorem dX7_nearestTo_78 : decode cX7_nearestTo 78 = .ok (.iinc 4 1, 3) := by decide +kernel
theorem dX7_nearestTo_81 : decode cX7_nearestTo 81 = .ok (.goto (-75), 3) := by decide +kernel
theorem dX7_nearestTo_84 : decode cX7_nearestTo 84 = .ok (.iload_n 3, 1) := by decide +kernel
theorem dX7_nearestTo_85 : decode cX7_nearestTo 85 = .ok (.ireturn, 1) := by decide +kernel
set_option maxRecDepth 20000 in
theorem ggX7_isTriedBetter_X7_gap : GoodIn wsX7_isTriedBetter wsX7_gap := goodIn_r _ [7, 8, 3, 9, 10, 11, 12, 32, 33] (by decide +kernel) (by decide +kernel)
set_option maxRecDepth 20000 in
theorem gX7_isTriedBetter_X7_gap : GoodIn wsX7_isTriedBetter (va_wsS RX7 65 yX7_gap wsX7_gap) := goodIn_app (goodIn_of _ (by decide +kernel)) ggX7_isTriedBetter_X7_gap
set_option maxRecDepth 20000 in
theorem ggX7_isTriedBetter_X7_priceOf : GoodIn wsX7_isTriedBetter wsX7_priceOf := goodIn_r _ [16, 17, 18, 19, 6, 20, 21, 22, 23, 24, 25, 26, 27, 28, 29, 30, 31] (by decide +kernel) (by decide +kernel)
set_option maxRecDepth 20000 in
theorem gX7_isTriedBetter_X7_priceOf : GoodIn wsX7_isTriedBetter (wsV RX7 69 RX7 yX7_priceOf wsX7_priceOf) := goodIn_app (goodIn_of _ (by decide +kernel)) ggX7_isTriedBetter_X7_priceOf
theorem dX7_isTriedBetter_0 : decode cX7_isTriedBetter 0 = .ok (.aload_n 0, 1) := by decide +kernel
theorem dX7_isTriedBetter_1 : decode cX7_isTriedBetter 1 = .ok (.getfield 25, 3) := by decide +kernel
theorem dX7_isTriedBetter_4 : decode cX7_isTriedBetter 4 = .ok (.iload_n 3, 1) := by decide +kernel
theorem dX7_isTriedBetter_5 : decode cX7_isTriedBetter 5 = .ok (.iload 4, 2) := by decide +kernel
theorem dX7_isTriedBetter_7 : decode cX7_isTriedBetter 7 = .ok (.invokestatic 65, 3) := by decide +kernel
theorem dX7_isTriedBetter_10 : decode cX7_isTriedBetter 10 = .ok (.aload_n 0, 1) := by decide +kernel
theorem dX7_isTriedBetter_11 : decode cX7_isTriedBetter 11 = .ok (.getfield 29, 3) := by decide +kernel
theorem dX7_isTriedBetter_14 : decode cX7_isTriedBetter 14 = .ok (.getfield 62, 3) := by decide +kernel
theorem dX7_isTriedBetter_17 : decode cX7_isTriedBetter 17 = .ok (.lmul, 1) := by decide +kernel
theorem dX7_isTriedBetter_18 : decode cX7_isTriedBetter 18 = .ok (.lstore 5, 2) := by decide +kernel
theorem dX7_isTriedBetter_20 : decode cX7_isTriedBetter 20 = .ok (.aload_n 0, 1) := by decide +kernel
theorem dX7_isTriedBetter_21 : decode cX7_isTriedBetter 21 = .ok (.getfield 29, 3) := by decide +kernel
theorem dX7_isTriedBetter_24 : decode cX7_isTriedBetter 24 = .ok (.iload_n 3, 1) := by decide +kernel
theorem dX7_isTriedBetter_25 : decode cX7_isTriedBetter 25 = .ok (.iload 4, 2) := by decide +kernel
theorem dX7_isTriedBetter_27 : decode cX7_isTriedBetter 27 = .ok (.invokestatic 65, 3) := by decide +kernel
theorem dX7_isTriedBetter_30 : decode cX7_isTriedBetter 30 = .ok (.aload_n 0, 1) := by decide +kernel
theorem dX7_isTriedBetter_31 : decode cX7_isTriedBetter 31 = .ok (.getfield 25, 3) := by decide +kernel
theorem dX7_isTriedBetter_34 : decode cX7_isTriedBetter 34 = .ok (.getfield 62, 3) := by decide +kernel
theorem dX7_isTriedBetter_37 : decode cX7_isTriedBetter 37 = .ok (.lmul, 1) := by decide +kernel
theorem dX7_isTriedBetter_38 : decode cX7_isTriedBetter 38 = .ok (.lstore 7, 2) := by decide +kernel
theorem dX7_isTriedBetter_40 : decode cX7_isTriedBetter 40 = .ok (.lload 5, 2) := by decide +kernel
theorem dX7_isTriedBetter_42 : decode cX7_isTriedBetter 42 = .ok (.lload 7, 2) := by decide +kernel
theorem dX7_isTriedBetter_44 : decode cX7_isTriedBetter 44 = .ok (.lcmp, 1) := by decide +kernel
theorem dX7_isTriedBetter_45 : decode cX7_isTriedBetter 45 = .ok (.ifCond .eq 17, 3) := by decide +kernel
theorem dX7_isTriedBetter_48 : decode cX7_isTriedBetter 48 = .ok (.lload 5, 2) := by decide +kernel
theorem dX7_isTriedBetter_50 : decode cX7_isTriedBetter 50 = .ok (.lload 7, 2) := by decide +kernel
theorem dX7_isTriedBetter_52 : decode cX7_isTriedBetter 52 = .ok (.lcmp, 1) := by decide +kernel
theorem dX7_isTriedBetter_53 : decode cX7_isTriedBetter 53 = .ok (.ifCond .ge 7, 3) := by decide +kernel
theorem dX7_isTriedBetter_56 : decode cX7_isTriedBetter 56 = .ok (.iconst 1, 1) := by decide +kernel
theorem dX7_isTriedBetter_57 : decode cX7_isTriedBetter 57 = .ok (.goto 4, 3) := by decide +kernel
theorem dX7_isTriedBetter_60 : decode cX7_isTriedBetter 60 = .ok (.iconst 0, 1) := by decide +kernel
theorem dX7_isTriedBetter_61 : decode cX7_isTriedBetter 61 = .ok (.ireturn, 1) := by decide +kernel
theorem dX7_isTriedBetter_62 : decode cX7_isTriedBetter 62 = .ok (.aload_n 0, 1) := by decide +kernel
theorem dX7_isTriedBetter_63 : decode cX7_isTriedBetter 63 = .ok (.iload_n 1, 1) := by decide +kernel
theorem dX7_isTriedBetter_64 : decode cX7_isTriedBetter 64 = .ok (.invokevirtual 69, 3) := by decide +kernel
theorem dX7_isTriedBetter_67 : decode cX7_isTriedBetter 67 = .ok (.aload_n 0, 1) := by decide +kernel
theorem dX7_isTriedBetter_68 : decode cX7_isTriedBetter 68 = .ok (.iload_n 2, 1) := by decide +kernel
theorem dX7_isTriedBetter_69 : decode cX7_isTriedBetter 69 = .ok (.invokevirtual 69, 3) := by decide +kernel
theorem dX7_isTriedBetter_72 : decode cX7_isTriedBetter 72 = .ok (.if_icmp .ge 7, 3) := by decide +kernel
theorem dX7_isTriedBetter_75 : decode cX7_isTriedBetter 75 = .ok (.iconst 1, 1) := by decide +kernel
theorem dX7_isTriedBetter_76 : decode cX7_isTriedBetter 76 = .ok (.goto 4, 3) := by decide +kernel
theorem dX7_isTriedBetter_79 : decode cX7_isTriedBetter 79 = .ok (.iconst 0, 1) := by decide +kernel
theorem dX7_isTriedBetter_80 : decode cX7_isTriedBetter 80 = .ok (.ireturn, 1) := by decide +kernel
theorem dX7_gap_0 : decode cX7_gap 0 = .ok (.aload_n 0, 1) := by decide +kernel
theorem dX7_gap_1 : decode cX7_gap 1 = .ok (.getfield 58, 3) := by decide +kernel
theorem dX7_gap_4 : decode cX7_gap 4 = .ok (.iload_n 2, 1) := by decide +kernel
theorem dX7_gap_5 : decode cX7_gap 5 = .ok (.i2l, 1) := by decide +kernel
theorem dX7_gap_6 : decode cX7_gap 6 = .ok (.lmul, 1) := by decide +kernel
theorem dX7_gap_7 : decode cX7_gap 7 = .ok (.iload_n 1, 1) := by decide +kernel
theorem dX7_gap_8 : decode cX7_gap 8 = .ok (.i2l, 1) := by decide +kernel
theorem dX7_gap_9 : decode cX7_gap 9 = .ok (.aload_n 0, 1) := by decide +kernel
theorem dX7_gap_10 : decode cX7_gap 10 = .ok (.getfield 62, 3) := by decide +kernel
theorem dX7_gap_13 : decode cX7_gap 13 = .ok (.lmul, 1) := by decide +kernel
theorem dX7_gap_14 : decode cX7_gap 14 = .ok (.lsub, 1) := by decide +kernel
theorem dX7_gap_15 : decode cX7_gap 15 = .ok (.invokestatic 72, 3) := by decide +kernel
theorem dX7_gap_18 : decode cX7_gap 18 = .ok (.lreturn, 1) := by decide +kernel
set_option maxRecDepth 20000 in
theorem ggX8_init_X2_init : GoodIn wsX8_init wsX2_init := goodIn_r _ [5, 6, 7, 8, 9, 10, 11, 12, 13, 14, 15, 16, 22, 23, 24, 25, 17, 18, 19, 20, 21, 26, 27, 28] (by decide +kernel) (by decide +kernel)
set_option maxRecDepth 20000 in
theorem gX8_init_X2_init : GoodIn wsX8_init (wsX2_init) := ggX8_init_X2_init
theorem dX8_init_0 : decode cX8_init 0 = .ok (.aload_n 0, 1) := by decide +kernel
theorem dX8_init_1 : decode cX8_init 1 = .ok (.iload_n 1, 1) := by decide +kernel
theorem dX8_init_2 : decode cX8_init 2 = .ok (.iload_n 2, 1) := by decide +kernel
theorem dX8_init_3 : decode cX8_init 3 = .ok (.iload_n 3, 1) := by decide +kernel
theorem dX8_init_4 : decode cX8_init 4 = .ok (.iload 4, 2) := by decide +kernel
theorem dX8_init_6 : decode cX8_init 6 = .ok (.invokespecial 1, 3) := by decide +kernel
theorem dX8_init_9 : decode cX8_init 9 = .ok (.aload_n 0, 1) := by decide +kernel
theorem dX8_init_10 : decode cX8_init 10 = .ok (.iload 5, 2) := by decide +kernel
theorem dX8_init_12 : decode cX8_init 12 = .ok (.putfield 7, 3) := by decide +kernel
theorem dX8_init_15 : decode cX8_init 15 = .ok (.return_, 1) := by decide +kernel
set_option maxRecDepth 20000 in
theorem ggX8_measure_X2_measure : GoodIn wsX8_measure wsX2_measure := goodIn_r _ [8, 9, 10, 11, 12, 13, 14, 15, 16, 17, 18, 19, 20, 21, 22, 23, 24, 25, 31, 32, 33, 34, 26, 27, 28, 29, 30] (by decide +kernel) (by decide +kernel)
set_option maxRecDepth 20000 in
theorem gX8_measure_X2_measure_s13 : GoodIn wsX8_measure (va_wsSU RX8 13 yX2_measure wsX2_measure) := goodIn_app (goodIn_of _ (by decide +kernel)) ggX8_measure_X2_measure
theorem dX8_measure_0 : decode cX8_measure 0 = .ok (.aload_n 0, 1) := by decide +kernel
theorem dX8_measure_1 : decode cX8_measure 1 = .ok (.aload_n 1, 1) := by decide +kernel
theorem dX8_measure_2 : decode cX8_measure 2 = .ok (.invokespecial 13, 3) := by decide +kernel
theorem dX8_measure_5 : decode cX8_measure 5 = .ok (.istore_n 2, 1) := by decide +kernel
theorem dX8_measure_6 : decode cX8_measure 6 = .ok (.aload_n 1, 1) := by decide +kernel
theorem dX8_measure_7 : decode cX8_measure 7 = .ok (.dup, 1) := by decide +kernel
theorem dX8_measure_8 : decode cX8_measure 8 = .ok (.getfield 17, 3) := by decide +kernel
theorem dX8_measure_11 : decode cX8_measure 11 = .ok (.aload_n 0, 1) := by decide +kernel
theorem dX8_measure_12 : decode cX8_measure 12 = .ok (.getfield 7, 3) := by decide +kernel
theorem dX8_measure_15 : decode cX8_measure 15 = .ok (.i2l, 1) := by decide +kernel
theorem dX8_measure_16 : decode cX8_measure 16 = .ok (.lmul, 1) := by decide +kernel
theorem dX8_measure_17 : decode cX8_measure 17 = .ok (.putfield 17, 3) := by decide +kernel
theorem dX8_measure_20 : decode cX8_measure 20 = .ok (.iload_n 2, 1) := by decide +kernel
theorem dX8_measure_21 : decode cX8_measure 21 = .ok (.bipush 100, 2) := by decide +kernel
theorem dX8_measure_23 : decode cX8_measure 23 = .ok (.iadd, 1) := by decide +kernel
theorem dX8_measure_24 : decode cX8_measure 24 = .ok (.ireturn, 1) := by decide +kernel
set_option maxRecDepth 20000 in
theorem ggX9_init_X1_init : GoodIn wsX9_init wsX1_init := goodIn_r _ [23, 24, 2, 3, 25, 26, 27, 17, 18, 28, 29, 30, 31, 32, 33, 34, 35, 36, 37, 38, 39, 40, 41, 42, 43, 44, 45, 46, 47, 48, 49, 50, 51, 52, 53, 54, 55, 56, 57, 58, 84, 85, 86, 105, 106, 107, 108, 109, 110] (by decide +kernel) (by decide +kernel)
set_option maxRecDepth 20000 in
theorem gX9_init_X1_init : GoodIn wsX9_init (wsX1_init) := ggX9_init_X1_init
set_option maxRecDepth 20000 in
theorem ggX9_init_X3_init : GoodIn wsX9_init wsX3_init := goodIn_r _ [60, 61, 2, 3, 62, 63, 64, 65, 66, 67, 17, 18, 68, 69, 70, 71, 72, 73, 74, 32, 33, 34, 35, 36, 92, 93, 94, 95, 96, 97, 98, 99, 105, 106] (by decide +kernel) (by decide +kernel)
set_option maxRecDepth 20000 in
theorem gX9_init_X3_init_n18 : GoodIn wsX9_init (wsX3_init) := ggX9_init_X3_init
set_option maxRecDepth 20000 in
theorem ggX9_init_X7_init : GoodIn wsX9_init wsX7_init := goodIn_r _ [76, 77, 2, 3, 69, 78, 79, 80, 81, 17, 18, 82, 83, 32, 33, 34, 35, 36, 100, 101, 102, 103, 104, 105, 106] (by decide +kernel) (by decide +kernel)
set_option maxRecDepth 20000 in
theorem gX9_init_X7_init_n25 : GoodIn wsX9_init (wsX7_init) := ggX9_init_X7_init
set_option maxRecDepth 20000 in
theorem ggX9_init_X0_init : GoodIn wsX9_init wsX0_init := goodIn_r _ [33, 34, 2, 3, 35, 36, 105, 106] (by decide +kernel) (by decide +kernel)
set_option maxRecDepth 20000 in
theorem gX9_init_X0_init_n32 : GoodIn wsX9_init (wsX0_init) := ggX9_init_X0_init
theorem dX9_init_0 : decode cX9_init 0 = .ok (.aload_n 0, 1) := by decide +kernel
theorem dX9_init_1 : decode cX9_init 1 = .ok (.invokespecial 1, 3) := by decide +kernel
theorem dX9_init_4 : decode cX9_init 4 = .ok (.aload_n 0, 1) := by decide +kernel
theorem dX9_init_5 : decode cX9_init 5 = .ok (.new 7, 3) := by decide +kernel
theorem dX9_init_8 : decode cX9_init 8 = .ok (.dup, 1) := by decide +kernel
theorem dX9_init_9 : decode cX9_init 9 = .ok (.invokespecial 9, 3) := by decide +kernel
theorem dX9_init_12 : decode cX9_init 12 = .ok (.putfield 10, 3) := by decide +kernel
theorem dX9_init_15 : decode cX9_init 15 = .ok (.aload_n 0, 1) := by decide +kernel
theorem dX9_init_16 : decode cX9_init 16 = .ok (.new 16, 3) := by decide +kernel
theorem dX9_init_19 : decode cX9_init 19 = .ok (.dup, 1) := by decide +kernel
theorem dX9_init_20 : decode cX9_init 20 = .ok (.invokespecial 18, 3) := by decide +kernel
theorem dX9_init_23 : decode cX9_init 23 = .ok (.putfield 19, 3) := by decide +kernel
theorem dX9_init_26 : decode cX9_init 26 = .ok (.aload_n 0, 1) := by decide +kernel
theorem dX9_init_27 : decode cX9_init 27 = .ok (.new 23, 3) := by decide +kernel
theorem dX9_init_30 : decode cX9_init 30 = .ok (.dup, 1) := by decide +kernel
theorem dX9_init_31 : decode cX9_init 31 = .ok (.invokespecial 25, 3) := by decide +kernel
theorem dX9_init_34 : decode cX9_init 34 = .ok (.putfield 26, 3) := by decide +kernel
theorem dX9_init_37 : decode cX9_init 37 = .ok (.aload_n 0, 1) := by decide +kernel
theorem dX9_init_38 : decode cX9_init 38 = .ok (.new 30, 3) := by decide +kernel
theorem dX9_init_41 : decode cX9_init 41 = .ok (.dup, 1) := by decide +kernel
theorem dX9_init_42 : decode cX9_init 42 = .ok (.invokespecial 32, 3) := by decide +kernel
theorem dX9_init_45 : decode cX9_init 45 = .ok (.putfield 33, 3) := by decide +kernel
theorem dX9_init_48 : decode cX9_init 48 = .ok (.aload_n 0, 1) := by decide +kernel
theorem dX9_init_49 : decode cX9_init 49 = .ok (.lconst 0, 1) := by decide +kernel
theorem dX9_init_50 : decode cX9_init 50 = .ok (.putfield 37, 3) := by decide +kernel
theorem dX9_init_53 : decode cX9_init 53 = .ok (.return_, 1) := by decide +kernel
set_option maxRecDepth 20000 in
theorem ggX9_many_X9_isWithin : GoodIn wsX9_many wsX9_isWithin := goodIn_r _ [5] (by decide +kernel) (by decide +kernel)
set_option maxRecDepth 20000 in
theorem gX9_many_X9_isWithin : GoodIn wsX9_many (va_wsS RX9 41 yX9_isWithin wsX9_isWithin) := goodIn_app (goodIn_of _ (by decide +kernel)) ggX9_many_X9_isWithin
set_option maxRecDepth 20000 in
theorem ggX9_many_X1_sharesOf : GoodIn wsX9_many wsX1_sharesOf := goodIn_r _ [10, 11, 12, 13, 14, 15, 9, 16, 17, 18, 19, 20, 21, 22, 23, 24, 25, 26, 27, 28, 29, 30, 31, 32, 33, 34, 35, 36, 37, 38, 39, 40, 41, 42, 43, 44, 45, 46, 47, 48, 49, 50, 51, 52, 53, 54, 55, 56, 57, 58, 59, 60, 61, 62, 63, 64, 65, 66, 67, 68, 69, 70, 71, 72, 73, 74, 75, 76, 77, 78, 79, 80, 81, 82, 83, 84, 85, 86, 87, 88, 89, 90, 91, 92, 93, 94, 95, 96, 97, 98, 99, 100, 101, 102, 103, 104, 105, 106, 107, 108, 109, 110, 111, 112, 113, 114, 115, 116, 117, 118, 119, 120, 121, 122, 123, 124, 125, 126, 127, 128, 129, 130, 131, 132, 133, 134, 135, 136, 137, 138, 139, 140, 141, 142, 143, 144, 145, 146, 147, 148, 149, 150, 151, 152, 153, 154, 155, 156, 157, 158, 159, 160, 161, 162, 163, 164, 165, 166, 173, 174, 175, 176, 177, 178, 179, 180, 181, 182, 183, 184, 185, 186, 187] (by decide +kernel) (by decide +kernel)
set_option maxRecDepth 20000 in
theorem gX9_many_X1_sharesOf : GoodIn wsX9_many (wsV RX9 45 RX1 yX1_sharesOf wsX1_sharesOf) := goodIn_app (goodIn_of _ (by decide +kernel)) ggX9_many_X1_sharesOf
set_option maxRecDepth 20000 in
theorem ggX9_many_X6_size : GoodIn wsX9_many wsX6_size := goodIn_r _ [156, 32, 41, 42, 43, 44, 45, 46, 178, 185, 186, 187] (by decide +kernel) (by decide +kernel)
set_option maxRecDepth 20000 in
theorem gX9_many_X6_size : GoodIn wsX9_many (wsV RX9 49 RX6 yX6_size wsX6_size) := goodIn_app (goodIn_of _ (by decide +kernel)) ggX9_many_X6_size
theorem dX9_many_0 : decode cX9_many 0 = .ok (.iload_n 1, 1) := by decide +kernel
theorem dX9_many_1 : decode cX9_many 1 = .ok (.iconst 1, 1) := by decide +kernel
theorem dX9_many_2 : decode cX9_many 2 = .ok (.bipush 9, 2) := by decide +kernel
theorem dX9_many_4 : decode cX9_many 4 = .ok (.invokestatic 41, 3) := by decide +kernel
theorem dX9_many_7 : decode cX9_many 7 = .ok (.ifCond .ne 5, 3) := by decide +kernel
theorem dX9_many_10 : decode cX9_many 10 = .ok (.iconst (-1), 1) := by decide +kernel
theorem dX9_many_11 : decode cX9_many 11 = .ok (.ireturn, 1) := by decide +kernel
theorem dX9_many_12 : decode cX9_many 12 = .ok (.aload_n 0, 1) := by decide +kernel
theorem dX9_many_13 : decode cX9_many 13 = .ok (.getfield 10, 3) := by decide +kernel
theorem dX9_many_16 : decode cX9_many 16 = .ok (.iload_n 1, 1) := by decide +kernel
theorem dX9_many_17 : decode cX9_many 17 = .ok (.invokevirtual 45, 3) := by decide +kernel
theorem dX9_many_20 : decode cX9_many 20 = .ok (.invokevirtual 49, 3) := by decide +kernel
theorem dX9_many_23 : decode cX9_many 23 = .ok (.ireturn, 1) := by decide +kernel
set_option maxRecDepth 20000 in
theorem ggX9_share_X9_shareAt : GoodIn wsX9_share wsX9_shareAt := goodIn_r _ [7, 8, 9, 10, 6, 11, 12, 13, 14, 15, 16, 17, 18, 19, 20, 21, 22, 23, 24, 25, 26, 27, 28, 29, 30, 31, 32, 33, 34, 35, 36, 37, 38, 39, 40, 41, 42, 43, 44, 45, 46, 47, 48, 49, 50, 51, 52, 53, 54, 55, 56, 57, 58, 59, 60, 61, 62, 63, 64, 65, 66, 67, 68, 69, 70, 71, 72, 73, 74, 75, 76, 77, 78, 79, 80, 81, 82, 83, 84, 85, 86, 87, 88, 89, 90, 91, 92, 93, 94, 95, 96, 97, 98, 99, 100, 101, 102, 103, 104, 105, 106, 107, 108, 109, 110, 111, 112, 113, 114, 115, 116, 117, 118, 119, 120, 121, 122, 123, 124, 125, 126, 127, 128, 129, 130, 131, 132, 133, 134, 135, 136, 137, 138, 139, 140, 141, 142, 143, 144, 145, 146, 147, 148, 149, 150, 151, 152, 153, 154, 155, 156, 157, 158, 159, 160, 161, 162, 163, 164, 165, 166, 167, 168, 169, 170, 171, 172, 173, 180, 181, 182, 183, 184, 185, 186, 187, 188, 189, 190, 174, 175, 176, 177, 178, 179, 191, 192, 193] (by decide +kernel) (by decide +kernel)
set_option maxRecDepth 20000 in
theorem gX9_share_X9_shareAt : GoodIn wsX9_share (wsV RX9 55 RX9 yX9_shareAt wsX9_shareAt) := goodIn_app (goodIn_of _ (by decide +kernel)) ggX9_share_X9_shareAt
set_option maxRecDepth 20000 in
theorem ggX9_share_X9_isWithin : GoodIn wsX9_share wsX9_isWithin := goodIn_r _ [11] (by decide +kernel) (by decide +kernel)
set_option maxRecDepth 20000 in
theorem gX9_share_X9_isWithin : GoodIn wsX9_share (va_wsS RX9 41 yX9_isWithin wsX9_isWithin) := goodIn_app (goodIn_of _ (by decide +kernel)) ggX9_share_X9_isWithin
theorem dX9_share_0 : decode cX9_share 0 = .ok (.aload_n 0, 1) := by decide +kernel
theorem dX9_share_1 : decode cX9_share 1 = .ok (.iload_n 1, 1) := by decide +kernel
theorem dX9_share_2 : decode cX9_share 2 = .ok (.iload_n 2, 1) := by decide +kernel
theorem dX9_share_3 : decode cX9_share 3 = .ok (.invokevirtual 55, 3) := by decide +kernel
theorem dX9_share_6 : decode cX9_share 6 = .ok (.astore 4, 2) := by decide +kernel
theorem dX9_share_8 : decode cX9_share 8 = .ok (.aload 4, 2) := by decide +kernel
theorem dX9_share_10 : decode cX9_share 10 = .ok (.ifnull 12, 3) := by decide +kernel
theorem dX9_share_13 : decode cX9_share 13 = .ok (.iload_n 3, 1) := by decide +kernel
theorem dX9_share_14 : decode cX9_share 14 = .ok (.iconst 0, 1) := by decide +kernel
theorem dX9_share_15 : decode cX9_share 15 = .ok (.iconst 1, 1) := by decide +kernel
theorem dX9_share_16 : decode cX9_share 16 = .ok (.invokestatic 41, 3) := by decide +kernel
theorem dX9_share_19 : decode cX9_share 19 = .ok (.ifCond .ne 5, 3) := by decide +kernel
theorem dX9_share_22 : decode cX9_share 22 = .ok (.iconst (-1), 1) := by decide +kernel
theorem dX9_share_23 : decode cX9_share 23 = .ok (.ireturn, 1) := by decide +kernel
theorem dX9_share_24 : decode cX9_share 24 = .ok (.iload_n 3, 1) := by decide +kernel
theorem dX9_share_25 : decode cX9_share 25 = .ok (.ifCond .ne 11, 3) := by decide +kernel
theorem dX9_share_28 : decode cX9_share 28 = .ok (.aload 4, 2) := by decide +kernel
theorem dX9_share_30 : decode cX9_share 30 = .ok (.getfield 59, 3) := by decide +kernel
theorem dX9_share_33 : decode cX9_share 33 = .ok (.goto 8, 3) := by decide +kernel
theorem dX9_share_36 : decode cX9_share 36 = .ok (.aload 4, 2) := by decide +kernel
theorem dX9_share_38 : decode cX9_share 38 = .ok (.getfield 65, 3) := by decide +kernel
theorem dX9_share_41 : decode cX9_share 41 = .ok (.ireturn, 1) := by decide +kernel
set_option maxRecDepth 20000 in
theorem ggX9_rank_X9_isWithin : GoodIn wsX9_rank wsX9_isWithin := goodIn_r _ [6] (by decide +kernel) (by decide +kernel)
set_option maxRecDepth 20000 in
theorem gX9_rank_X9_isWithin : GoodIn wsX9_rank (va_wsS RX9 41 yX9_isWithin wsX9_isWithin) := goodIn_app (goodIn_of _ (by decide +kernel)) ggX9_rank_X9_isWithin
set_option maxRecDepth 20000 in
theorem ggX9_rank_X9_isTold : GoodIn wsX9_rank wsX9_isTold := goodIn_r _ [9, 3, 4, 5, 6] (by decide +kernel) (by decide +kernel)
set_option maxRecDepth 20000 in
theorem gX9_rank_X9_isTold : GoodIn wsX9_rank (va_wsS RX9 69 yX9_isTold wsX9_isTold) := goodIn_app (goodIn_of _ (by decide +kernel)) ggX9_rank_X9_isTold
set_option maxRecDepth 20000 in
theorem ggX9_rank_X1_sharesOf : GoodIn wsX9_rank wsX1_sharesOf := goodIn_r _ [14, 15, 16, 17, 18, 19, 13, 20, 21, 22, 23, 24, 25, 26, 27, 28, 29, 30, 31, 32, 33, 34, 35, 36, 37, 38, 39, 40, 41, 42, 43, 44, 45, 46, 47, 48, 49, 50, 51, 52, 53, 54, 55, 56, 57, 58, 59, 60, 61, 62, 63, 64, 65, 66, 67, 68, 69, 70, 71, 72, 73, 74, 75, 76, 77, 78, 79, 80, 81, 82, 83, 84, 85, 86, 87, 88, 89, 90, 91, 92, 93, 94, 95, 96, 97, 98, 99, 100, 101, 102, 103, 104, 105, 106, 107, 108, 109, 110, 111, 112, 113, 114, 115, 116, 117, 118, 119, 120, 121, 122, 123, 124, 125, 126, 127, 128, 129, 130, 131, 132, 133, 134, 135, 136, 137, 138, 139, 140, 141, 142, 143, 144, 145, 146, 147, 148, 149, 150, 151, 152, 153, 154, 155, 156, 157, 158, 159, 160, 161, 162, 163, 164, 165, 166, 167, 168, 169, 170, 180, 181, 182, 183, 184, 185, 186, 187, 188, 189, 190, 191, 192, 193, 194] (by decide +kernel) (by decide +kernel)
set_option maxRecDepth 20000 in
theorem gX9_rank_X1_sharesOf : GoodIn wsX9_rank (wsV RX9 45 RX1 yX1_sharesOf wsX1_sharesOf) := goodIn_app (goodIn_of _ (by decide +kernel)) ggX9_rank_X1_sharesOf
set_option maxRecDepth 20000 in
theorem ggX9_rank_X6_find : GoodIn wsX9_rank wsX6_find := goodIn_r _ [174, 40, 41, 42, 32, 43, 36, 44, 45, 46, 47, 48, 49, 50, 51, 52, 53, 54, 55, 56, 57, 58, 59, 60, 61, 62, 63, 64, 65, 66, 67, 68, 69, 70, 71, 72, 73, 74, 75, 76, 185, 192, 193, 194, 186, 187, 188, 189, 190, 191] (by decide +kernel) (by decide +kernel)
set_option maxRecDepth 20000 in
theorem gX9_rank_X6_find : GoodIn wsX9_rank (wsV RX9 72 RX6 yX6_find wsX6_find) := goodIn_app (goodIn_of _ (by decide +kernel)) ggX9_rank_X6_find
theorem dX9_rank_0 : decode cX9_rank 0 = .ok (.iload_n 1, 1) := by decide +kernel
theorem dX9_rank_1 : decode cX9_rank 1 = .ok (.iconst 1, 1) := by decide +kernel
theorem dX9_rank_2 : decode cX9_rank 2 = .ok (.bipush 9, 2) := by decide +kernel
theorem dX9_rank_4 : decode cX9_rank 4 = .ok (.invokestatic 41, 3) := by decide +kernel
theorem dX9_rank_7 : decode cX9_rank 7 = .ok (.ifCond .eq 13, 3) := by decide +kernel
theorem dX9_rank_10 : decode cX9_rank 10 = .ok (.iload_n 2, 1) := by decide +kernel
theorem dX9_rank_11 : decode cX9_rank 11 = .ok (.iload_n 3, 1) := by decide +kernel
theorem dX9_rank_12 : decode cX9_rank 12 = .ok (.ldc 68, 2) := by decide +kernel
theorem dX9_rank_14 : decode cX9_rank 14 = .ok (.invokestatic 69, 3) := by decide +kernel
theorem dX9_rank_17 : decode cX9_rank 17 = .ok (.ifCond .ne 5, 3) := by decide +kernel
theorem dX9_rank_20 : decode cX9_rank 20 = .ok (.iconst (-1), 1) := by decide +kernel
theorem dX9_rank_21 : decode cX9_rank 21 = .ok (.ireturn, 1) := by decide +kernel
theorem dX9_rank_22 : decode cX9_rank 22 = .ok (.aload_n 0, 1) := by decide +kernel
theorem dX9_rank_23 : decode cX9_rank 23 = .ok (.getfield 10, 3) := by decide +kernel
theorem dX9_rank_26 : decode cX9_rank 26 = .ok (.iload_n 1, 1) := by decide +kernel
theorem dX9_rank_27 : decode cX9_rank 27 = .ok (.invokevirtual 45, 3) := by decide +kernel
theorem dX9_rank_30 : decode cX9_rank 30 = .ok (.iload_n 2, 1) := by decide +kernel
theorem dX9_rank_31 : decode cX9_rank 31 = .ok (.iload_n 3, 1) := by decide +kernel
theorem dX9_rank_32 : decode cX9_rank 32 = .ok (.invokevirtual 72, 3) := by decide +kernel
theorem dX9_rank_35 : decode cX9_rank 35 = .ok (.ireturn, 1) := by decide +kernel
set_option maxRecDepth 20000 in
theorem ggX9_fewest_X9_isTold : GoodIn wsX9_fewest wsX9_isTold := goodIn_r _ [6, 7, 8, 5, 9] (by decide +kernel) (by decide +kernel)
set_option maxRecDepth 20000 in
theorem gX9_fewest_X9_isTold : GoodIn wsX9_fewest (va_wsS RX9 69 yX9_isTold wsX9_isTold) := goodIn_app (goodIn_of _ (by decide +kernel)) ggX9_fewest_X9_isTold
set_option maxRecDepth 20000 in
theorem ggX9_fewest_X1_sharesOf : GoodIn wsX9_fewest wsX1_sharesOf := goodIn_r _ [14, 15, 16, 17, 18, 19, 13, 20, 21, 22, 23, 24, 25, 26, 27, 28, 29, 30, 31, 32, 33, 34, 35, 36, 37, 38, 39, 40, 41, 42, 43, 44, 45, 46, 47, 48, 49, 50, 51, 52, 53, 54, 55, 56, 57, 58, 59, 60, 61, 62, 63, 64, 65, 66, 67, 68, 69, 70, 71, 72, 73, 74, 75, 76, 77, 78, 79, 80, 81, 82, 83, 84, 85, 86, 87, 88, 89, 90, 91, 92, 93, 94, 95, 96, 97, 98, 99, 100, 101, 102, 103, 104, 105, 106, 107, 108, 109, 110, 111, 112, 113, 114, 115, 116, 117, 118, 119, 120, 121, 122, 123, 124, 125, 126, 127, 128, 129, 130, 131, 132, 133, 134, 135, 136, 137, 138, 139, 140, 141, 142, 143, 144, 145, 146, 147, 148, 149, 150, 151, 152, 153, 154, 155, 156, 157, 158, 159, 160, 161, 162, 163, 164, 165, 166, 167, 168, 169, 170, 180, 181, 182, 183, 184, 185, 186, 187, 188, 189, 190, 191, 192, 193, 194] (by decide +kernel) (by decide +kernel)
set_option maxRecDepth 20000 in
theorem gX9_fewest_X1_sharesOf : GoodIn wsX9_fewest (wsV RX9 45 RX1 yX1_sharesOf wsX1_sharesOf) := goodIn_app (goodIn_of _ (by decide +kernel)) ggX9_fewest_X1_sharesOf
set_option maxRecDepth 20000 in
theorem ggX9_fewest_X6_find : GoodIn wsX9_fewest wsX6_find := goodIn_r _ [174, 40, 41, 42, 32, 43, 36, 44, 45, 46, 47, 48, 49, 50, 51, 52, 53, 54, 55, 56, 57, 58, 59, 60, 61, 62, 63, 64, 65, 66, 67, 68, 69, 70, 71, 72, 73, 74, 75, 76, 185, 192, 193, 194, 186, 187, 188, 189, 190, 191] (by decide +kernel) (by decide +kernel)
set_option maxRecDepth 20000 in
theorem gX9_fewest_X6_find : GoodIn wsX9_fewest (wsV RX9 72 RX6 yX6_find wsX6_find) := goodIn_app (goodIn_of _ (by decide +kernel)) ggX9_fewest_X6_find
theorem dX9_fewest_0 : decode cX9_fewest 0 = .ok (.iload_n 1, 1) := by decide +kernel
theorem dX9_fewest_1 : decode cX9_fewest 1 = .ok (.iload_n 2, 1) := by decide +kernel
theorem dX9_fewest_2 : decode cX9_fewest 2 = .ok (.ldc 68, 2) := by decide +kernel
theorem dX9_fewest_4 : decode cX9_fewest 4 = .ok (.invokestatic 69, 3) := by decide +kernel
theorem dX9_fewest_7 : decode cX9_fewest 7 = .ok (.ifCond .ne 5, 3) := by decide +kernel
theorem dX9_fewest_10 : decode cX9_fewest 10 = .ok (.iconst (-1), 1) := by decide +kernel
theorem dX9_fewest_11 : decode cX9_fewest 11 = .ok (.ireturn, 1) := by decide +kernel
theorem dX9_fewest_12 : decode cX9_fewest 12 = .ok (.iconst 1, 1) := by decide +kernel
theorem dX9_fewest_13 : decode cX9_fewest 13 = .ok (.istore_n 3, 1) := by decide +kernel
theorem dX9_fewest_14 : decode cX9_fewest 14 = .ok (.iload_n 3, 1) := by decide +kernel
theorem dX9_fewest_15 : decode cX9_fewest 15 = .ok (.bipush 9, 2) := by decide +kernel
theorem dX9_fewest_17 : decode cX9_fewest 17 = .ok (.if_icmp .gt 29, 3) := by decide +kernel
theorem dX9_fewest_20 : decode cX9_fewest 20 = .ok (.aload_n 0, 1) := by decide +kernel
theorem dX9_fewest_21 : decode cX9_fewest 21 = .ok (.getfield 10, 3) := by decide +kernel
theorem dX9_fewest_24 : decode cX9_fewest 24 = .ok (.iload_n 3, 1) := by decide +kernel
theorem dX9_fewest_25 : decode cX9_fewest 25 = .ok (.invokevirtual 45, 3) := by decide +kernel
theorem dX9_fewest_28 : decode cX9_fewest 28 = .ok (.iload_n 1, 1) := by decide +kernel
theorem dX9_fewest_29 : decode cX9_fewest 29 = .ok (.iload_n 2, 1) := by decide +kernel
theorem dX9_fewest_30 : decode cX9_fewest 30 = .ok (.invokevirtual 72, 3) := by decide +kernel
theorem dX9_fewest_33 : decode cX9_fewest 33 = .ok (.bipush (-9), 2) := by decide +kernel
theorem dX9_fewest_35 : decode cX9_fewest 35 = .ok (.if_icmp .eq 5, 3) := by decide +kernel
theorem dX9_fewest_38 : decode cX9_fewest 38 = .ok (.iload_n 3, 1) := by decide +kernel
theorem dX9_fewest_39 : decode cX9_fewest 39 = .ok (.ireturn, 1) := by decide +kernel
theorem dX9_fewest_40 : decode cX9_fewest 40 = .ok (.iinc 3 1, 3) := by decide +kernel
theorem dX9_fewest_43 : decode cX9_fewest 43 = .ok (.goto (-29), 3) := by decide +kernel
theorem dX9_fewest_46 : decode cX9_fewest 46 = .ok (.bipush (-9), 2) := by decide +kernel
theorem dX9_fewest_48 : decode cX9_fewest 48 = .ok (.ireturn, 1) := by decide +kernel
set_option maxRecDepth 20000 in
theorem ggX9_made_X9_shareAt : GoodIn wsX9_made wsX9_shareAt := goodIn_r _ [9, 10, 11, 12, 8, 13, 14, 15, 16, 17, 18, 19, 20, 21, 22, 23, 24, 25, 26, 27, 28, 29, 30, 31, 32, 33, 34, 35, 36, 37, 38, 39, 40, 41, 42, 43, 44, 45, 46, 47, 48, 49, 50, 51, 52, 53, 54, 55, 56, 57, 58, 59, 60, 61, 62, 63, 64, 65, 66, 67, 68, 69, 70, 71, 72, 73, 74, 75, 76, 77, 78, 79, 80, 81, 82, 83, 84, 85, 86, 87, 88, 89, 90, 91, 92, 93, 94, 95, 96, 97, 98, 99, 100, 101, 102, 103, 104, 105, 106, 107, 108, 109, 110, 111, 112, 113, 114, 115, 116, 117, 118, 119, 120, 121, 122, 123, 124, 125, 126, 127, 128, 129, 130, 131, 132, 133, 134, 135, 136, 137, 138, 139, 140, 141, 142, 143, 144, 145, 146, 147, 148, 149, 150, 151, 152, 153, 154, 155, 156, 157, 158, 159, 160, 161, 162, 163, 164, 165, 166, 167, 168, 169, 170, 171, 172, 173, 174, 175, 182, 183, 184, 185, 186, 187, 188, 189, 190, 191, 192, 176, 177, 178, 179, 180, 181, 193, 194, 195] (by decide +kernel) (by decide +kernel)
set_option maxRecDepth 20000 in
theorem gX9_made_X9_shareAt : GoodIn wsX9_made (wsV RX9 55 RX9 yX9_shareAt wsX9_shareAt) := goodIn_app (goodIn_of _ (by decide +kernel)) ggX9_made_X9_shareAt
theorem dX9_made_0 : decode cX9_made 0 = .ok (.aload_n 0, 1) := by decide +kernel
theorem dX9_made_1 : decode cX9_made 1 = .ok (.iload_n 1, 1) := by decide +kernel
theorem dX9_made_2 : decode cX9_made 2 = .ok (.iload_n 2, 1) := by decide +kernel
theorem dX9_made_3 : decode cX9_made 3 = .ok (.invokevirtual 55, 3) := by decide +kernel
theorem dX9_made_6 : decode cX9_made 6 = .ok (.astore 4, 2) := by decide +kernel
theorem dX9_made_8 : decode cX9_made 8 = .ok (.aload 4, 2) := by decide +kernel
theorem dX9_made_10 : decode cX9_made 10 = .ok (.ifnonnull 5, 3) := by decide +kernel
theorem dX9_made_13 : decode cX9_made 13 = .ok (.iconst (-1), 1) := by decide +kernel
theorem dX9_made_14 : decode cX9_made 14 = .ok (.ireturn, 1) := by decide +kernel
theorem dX9_made_15 : decode cX9_made 15 = .ok (.iload_n 3, 1) := by decide +kernel
theorem dX9_made_16 : decode cX9_made 16 = .ok (.tableswitch 56 0 3 #[32, 38, 44, 50], 32) := by decide +kernel
theorem dX9_made_48 : decode cX9_made 48 = .ok (.aload 4, 2) := by decide +kernel
theorem dX9_made_50 : decode cX9_made 50 = .ok (.getfield 76, 3) := by decide +kernel
theorem dX9_made_53 : decode cX9_made 53 = .ok (.ireturn, 1) := by decide +kernel
theorem dX9_made_54 : decode cX9_made 54 = .ok (.aload 4, 2) := by decide +kernel
theorem dX9_made_56 : decode cX9_made 56 = .ok (.getfield 79, 3) := by decide +kernel
theorem dX9_made_59 : decode cX9_made 59 = .ok (.ireturn, 1) := by decide +kernel
theorem dX9_made_60 : decode cX9_made 60 = .ok (.aload 4, 2) := by decide +kernel
theorem dX9_made_62 : decode cX9_made 62 = .ok (.getfield 82, 3) := by decide +kernel
theorem dX9_made_65 : decode cX9_made 65 = .ok (.ireturn, 1) := by decide +kernel
theorem dX9_made_66 : decode cX9_made 66 = .ok (.aload 4, 2) := by decide +kernel
theorem dX9_made_68 : decode cX9_made 68 = .ok (.getfield 85, 3) := by decide +kernel
theorem dX9_made_71 : decode cX9_made 71 = .ok (.ireturn, 1) := by decide +kernel
theorem dX9_made_72 : decode cX9_made 72 = .ok (.iconst (-1), 1) := by decide +kernel
theorem dX9_made_73 : decode cX9_made 73 = .ok (.ireturn, 1) := by decide +kernel
set_option maxRecDepth 20000 in
theorem ggX9_turned_X9_shareAt : GoodIn wsX9_turned wsX9_shareAt := goodIn_r _ [6, 1, 7, 8, 5, 9, 10, 11, 12, 13, 14, 15, 16, 17, 18, 19, 20, 21, 22, 23, 24, 25, 26, 27, 28, 29, 30, 31, 32, 33, 34, 35, 36, 37, 38, 39, 40, 41, 42, 43, 44, 45, 46, 47, 48, 49, 50, 51, 52, 53, 54, 55, 56, 57, 58, 59, 60, 61, 62, 63, 64, 65, 66, 67, 68, 69, 70, 71, 72, 73, 74, 75, 76, 77, 78, 79, 80, 81, 82, 83, 84, 85, 86, 87, 88, 89, 90, 91, 92, 93, 94, 95, 96, 97, 98, 99, 100, 101, 102, 103, 104, 105, 106, 107, 108, 109, 110, 111, 112, 113, 114, 115, 116, 117, 118, 119, 120, 121, 122, 123, 124, 125, 126, 127, 128, 129, 130, 131, 132, 133, 134, 135, 136, 137, 138, 139, 140, 141, 142, 143, 144, 145, 146, 147, 148, 149, 150, 151, 152, 153, 154, 155, 156, 157, 158, 159, 160, 161, 162, 163, 164, 165, 166, 167, 168, 169, 170, 171, 173, 174, 175, 176, 177, 178, 179, 180, 181, 182, 183, 184, 185, 186, 187, 188, 189, 190, 191, 192] (by decide +kernel) (by decide +kernel)
set_option maxRecDepth 20000 in
theorem gX9_turned_X9_shareAt : GoodIn wsX9_turned (wsV RX9 55 RX9 yX9_shareAt wsX9_shareAt) := goodIn_app (goodIn_of _ (by decide +kernel)) ggX9_turned_X9_shareAt
set_option maxRecDepth 20000 in
theorem ggX9_turned_X1_sharesOf : GoodIn wsX9_turned wsX1_sharesOf := goodIn_r _ [14, 15, 16, 17, 18, 19, 13, 20, 21, 22, 23, 24, 25, 26, 27, 28, 29, 30, 31, 32, 33, 34, 35, 36, 37, 38, 39, 40, 41, 42, 43, 44, 45, 46, 47, 48, 49, 50, 51, 52, 53, 54, 55, 56, 57, 58, 59, 60, 61, 62, 63, 64, 65, 66, 67, 68, 69, 70, 71, 72, 73, 74, 75, 76, 77, 78, 79, 80, 81, 82, 83, 84, 85, 86, 87, 88, 89, 90, 91, 92, 93, 94, 95, 96, 97, 98, 99, 100, 101, 102, 103, 104, 105, 106, 107, 108, 109, 110, 111, 112, 113, 114, 115, 116, 117, 118, 119, 120, 121, 122, 123, 124, 125, 126, 127, 128, 129, 130, 131, 132, 133, 134, 135, 136, 137, 138, 139, 140, 141, 142, 143, 144, 145, 146, 147, 148, 149, 150, 151, 152, 153, 154, 155, 156, 157, 158, 159, 160, 161, 162, 163, 164, 165, 166, 167, 168, 169, 170, 178, 179, 180, 181, 182, 183, 184, 185, 186, 187, 188, 189, 190, 191, 192] (by decide +kernel) (by decide +kernel)
set_option maxRecDepth 20000 in
theorem gX9_turned_X1_sharesOf : GoodIn wsX9_turned (wsV RX9 45 RX1 yX1_sharesOf wsX1_sharesOf) := goodIn_app (goodIn_of _ (by decide +kernel)) ggX9_turned_X1_sharesOf
set_option maxRecDepth 20000 in
theorem ggX9_turned_X6_size : GoodIn wsX9_turned wsX6_size := goodIn_r _ [160, 36, 45, 46, 47, 48, 49, 50, 183, 190, 191, 192] (by decide +kernel) (by decide +kernel)
set_option maxRecDepth 20000 in
theorem gX9_turned_X6_size : GoodIn wsX9_turned (wsV RX9 49 RX6 yX6_size wsX6_size) := goodIn_app (goodIn_of _ (by decide +kernel)) ggX9_turned_X6_size
theorem dX9_turned_0 : decode cX9_turned 0 = .ok (.aload_n 0, 1) := by decide +kernel
theorem dX9_turned_1 : decode cX9_turned 1 = .ok (.iload_n 1, 1) := by decide +kernel
theorem dX9_turned_2 : decode cX9_turned 2 = .ok (.iload_n 2, 1) := by decide +kernel
theorem dX9_turned_3 : decode cX9_turned 3 = .ok (.invokevirtual 55, 3) := by decide +kernel
theorem dX9_turned_6 : decode cX9_turned 6 = .ok (.ifnonnull 5, 3) := by decide +kernel
theorem dX9_turned_9 : decode cX9_turned 9 = .ok (.iconst (-1), 1) := by decide +kernel
theorem dX9_turned_10 : decode cX9_turned 10 = .ok (.ireturn, 1) := by decide +kernel
theorem dX9_turned_11 : decode cX9_turned 11 = .ok (.aload_n 0, 1) := by decide +kernel
theorem dX9_turned_12 : decode cX9_turned 12 = .ok (.getfield 10, 3) := by decide +kernel
theorem dX9_turned_15 : decode cX9_turned 15 = .ok (.iload_n 1, 1) := by decide +kernel
theorem dX9_turned_16 : decode cX9_turned 16 = .ok (.invokevirtual 45, 3) := by decide +kernel
theorem dX9_turned_19 : decode cX9_turned 19 = .ok (.invokevirtual 49, 3) := by decide +kernel
theorem dX9_turned_22 : decode cX9_turned 22 = .ok (.iconst 1, 1) := by decide +kernel
theorem dX9_turned_23 : decode cX9_turned 23 = .ok (.isub, 1) := by decide +kernel
theorem dX9_turned_24 : decode cX9_turned 24 = .ok (.iload_n 2, 1) := by decide +kernel
theorem dX9_turned_25 : decode cX9_turned 25 = .ok (.isub, 1) := by decide +kernel
theorem dX9_turned_26 : decode cX9_turned 26 = .ok (.ireturn, 1) := by decide +kernel
set_option maxRecDepth 20000 in
theorem ggX9_shareAt_X9_isWithin : GoodIn wsX9_shareAt wsX9_isWithin := goodIn_r _ [5] (by decide +kernel) (by decide +kernel)
set_option maxRecDepth 20000 in
theorem gX9_shareAt_X9_isWithin : GoodIn wsX9_shareAt (va_wsS RX9 41 yX9_isWithin wsX9_isWithin) := goodIn_app (goodIn_of _ (by decide +kernel)) ggX9_shareAt_X9_isWithin
set_option maxRecDepth 20000 in
theorem ggX9_shareAt_X1_sharesOf : GoodIn wsX9_shareAt wsX1_sharesOf := goodIn_r _ [10, 11, 12, 13, 14, 15, 9, 16, 17, 18, 19, 20, 21, 22, 23, 24, 25, 26, 27, 28, 29, 30, 31, 32, 33, 34, 35, 36, 37, 38, 39, 40, 41, 42, 43, 44, 45, 46, 47, 48, 49, 50, 51, 52, 53, 54, 55, 56, 57, 58, 59, 60, 61, 62, 63, 64, 65, 66, 67, 68, 69, 70, 71, 72, 73, 74, 75, 76, 77, 78, 79, 80, 81, 82, 83, 84, 85, 86, 87, 88, 89, 90, 91, 92, 93, 94, 95, 96, 97, 98, 99, 100, 101, 102, 103, 104, 105, 106, 107, 108, 109, 110, 111, 112, 113, 114, 115, 116, 117, 118, 119, 120, 121, 122, 123, 124, 125, 126, 127, 128, 129, 130, 131, 132, 133, 134, 135, 136, 137, 138, 139, 140, 141, 142, 143, 144, 145, 146, 147, 148, 149, 150, 151, 152, 153, 154, 155, 156, 157, 158, 159, 160, 161, 162, 163, 164, 165, 166, 173, 174, 175, 176, 177, 178, 179, 180, 181, 182, 183, 184, 185, 186, 187] (by decide +kernel) (by decide +kernel)
set_option maxRecDepth 20000 in
theorem gX9_shareAt_X1_sharesOf : GoodIn wsX9_shareAt (wsV RX9 45 RX1 yX1_sharesOf wsX1_sharesOf) := goodIn_app (goodIn_of _ (by decide +kernel)) ggX9_shareAt_X1_sharesOf
set_option maxRecDepth 20000 in
theorem ggX9_shareAt_X6_at : GoodIn wsX9_shareAt wsX6_at := goodIn_r _ [160, 32, 40, 41, 42, 43, 44, 45, 46, 47, 48, 49, 50, 51, 52, 53, 54, 55, 56, 57, 58, 59, 60, 61, 62, 63, 178, 185, 186, 187] (by decide +kernel) (by decide +kernel)
set_option maxRecDepth 20000 in
theorem gX9_shareAt_X6_at : GoodIn wsX9_shareAt (wsV RX9 88 RX6 yX6_at wsX6_at) := goodIn_app (goodIn_of _ (by decide +kernel)) ggX9_shareAt_X6_at
theorem dX9_shareAt_0 : decode cX9_shareAt 0 = .ok (.iload_n 1, 1) := by decide +kernel
theorem dX9_shareAt_1 : decode cX9_shareAt 1 = .ok (.iconst 1, 1) := by decide +kernel
theorem dX9_shareAt_2 : decode cX9_shareAt 2 = .ok (.bipush 9, 2) := by decide +kernel
theorem dX9_shareAt_4 : decode cX9_shareAt 4 = .ok (.invokestatic 41, 3) := by decide +kernel
theorem dX9_shareAt_7 : decode cX9_shareAt 7 = .ok (.ifCond .ne 5, 3) := by decide +kernel
theorem dX9_shareAt_10 : decode cX9_shareAt 10 = .ok (.aconst_null, 1) := by decide +kernel
theorem dX9_shareAt_11 : decode cX9_shareAt 11 = .ok (.areturn, 1) := by decide +kernel
theorem dX9_shareAt_12 : decode cX9_shareAt 12 = .ok (.aload_n 0, 1) := by decide +kernel
theorem dX9_shareAt_13 : decode cX9_shareAt 13 = .ok (.getfield 10, 3) := by decide +kernel
theorem dX9_shareAt_16 : decode cX9_shareAt 16 = .ok (.iload_n 1, 1) := by decide +kernel
theorem dX9_shareAt_17 : decode cX9_shareAt 17 = .ok (.invokevirtual 45, 3) := by decide +kernel
theorem dX9_shareAt_20 : decode cX9_shareAt 20 = .ok (.iload_n 2, 1) := by decide +kernel
theorem dX9_shareAt_21 : decode cX9_shareAt 21 = .ok (.invokevirtual 88, 3) := by decide +kernel
theorem dX9_shareAt_24 : decode cX9_shareAt 24 = .ok (.areturn, 1) := by decide +kernel
set_option maxRecDepth 20000 in
theorem ggX9_wire_X9_isWithin : GoodIn wsX9_wire wsX9_isWithin := goodIn_r _ [5] (by decide +kernel) (by decide +kernel)
set_option maxRecDepth 20000 in
theorem gX9_wire_X9_isWithin : GoodIn wsX9_wire (va_wsS RX9 41 yX9_isWithin wsX9_isWithin) := goodIn_app (goodIn_of _ (by decide +kernel)) ggX9_wire_X9_isWithin
set_option maxRecDepth 20000 in
theorem ggX9_wire_X9_areTwoKnots : GoodIn wsX9_wire wsX9_areTwoKnots := goodIn_r _ [8, 9, 10, 4, 11, 2, 3, 5] (by decide +kernel) (by decide +kernel)
set_option maxRecDepth 20000 in
theorem gX9_wire_X9_areTwoKnots : GoodIn wsX9_wire (va_wsS RX9 92 yX9_areTwoKnots wsX9_areTwoKnots) := goodIn_app (goodIn_of _ (by decide +kernel)) ggX9_wire_X9_areTwoKnots
set_option maxRecDepth 20000 in
theorem ggX9_wire_X3_size : GoodIn wsX9_wire wsX3_size := goodIn_r _ [16, 17, 95, 96, 97, 98, 99, 100, 101, 102] (by decide +kernel) (by decide +kernel)
set_option maxRecDepth 20000 in
theorem gX9_wire_X3_size : GoodIn wsX9_wire (wsV RX9 96 RX3 yX3_size wsX3_size) := goodIn_app (goodIn_of _ (by decide +kernel)) ggX9_wire_X3_size
set_option maxRecDepth 20000 in
theorem ggX9_wire_X9_newWire : GoodIn wsX9_wire wsX9_newWire := goodIn_r _ [20, 21, 22, 23, 24, 25, 26, 27, 28, 29, 30, 31, 32, 33, 34, 35, 36, 37, 38, 39, 40, 41, 42, 43, 44, 45, 46, 47, 48, 103, 104, 105, 106, 107, 108, 109, 110, 111, 112, 113, 114] (by decide +kernel) (by decide +kernel)
set_option maxRecDepth 20000 in
theorem gX9_wire_X9_newWire : GoodIn wsX9_wire (va_wsS RX9 97 yX9_newWire wsX9_newWire) := goodIn_app (goodIn_of _ (by decide +kernel)) ggX9_wire_X9_newWire
set_option maxRecDepth 20000 in
theorem ggX9_wire_X3_add : GoodIn wsX9_wire wsX3_add := goodIn_r _ [52, 53, 17, 54, 55, 56, 57, 15, 58, 59, 60, 61, 62, 63, 64, 65, 66, 67, 26, 68, 69, 37, 70, 71, 72, 29, 73, 74, 75, 76, 77, 78, 79, 80, 81, 82, 83, 84, 23, 85, 86, 33, 87, 88, 89, 95, 96, 97, 98, 99, 100, 101, 102, 115, 116, 108, 109, 110, 111, 103, 104, 105, 106, 107] (by decide +kernel) (by decide +kernel)
set_option maxRecDepth 20000 in
theorem gX9_wire_X3_add : GoodIn wsX9_wire (wsV RX9 101 RX3 yX3_add wsX3_add) := goodIn_app (goodIn_of _ (by decide +kernel)) ggX9_wire_X3_add
theorem dX9_wire_0 : decode cX9_wire 0 = .ok (.iload_n 1, 1) := by decide +kernel
theorem dX9_wire_1 : decode cX9_wire 1 = .ok (.iconst 0, 1) := by decide +kernel
theorem dX9_wire_2 : decode cX9_wire 2 = .ok (.iconst 2, 1) := by decide +kernel
theorem dX9_wire_3 : decode cX9_wire 3 = .ok (.invokestatic 41, 3) := by decide +kernel
theorem dX9_wire_6 : decode cX9_wire 6 = .ok (.ifCond .eq 11, 3) := by decide +kernel
theorem dX9_wire_9 : decode cX9_wire 9 = .ok (.iload_n 2, 1) := by decide +kernel
theorem dX9_wire_10 : decode cX9_wire 10 = .ok (.iload_n 3, 1) := by decide +kernel
theorem dX9_wire_11 : decode cX9_wire 11 = .ok (.invokestatic 92, 3) := by decide +kernel
theorem dX9_wire_14 : decode cX9_wire 14 = .ok (.ifCond .ne 5, 3) := by decide +kernel
theorem dX9_wire_17 : decode cX9_wire 17 = .ok (.iconst (-1), 1) := by decide +kernel
theorem dX9_wire_18 : decode cX9_wire 18 = .ok (.ireturn, 1) := by decide +kernel
theorem dX9_wire_19 : decode cX9_wire 19 = .ok (.iload_n 1, 1) := by decide +kernel
