theorem dX9_wire_20 : decode cX9_wire 20 = .ok (.iconst 1, 1) := by decide +kernel
theorem dX9_wire_21 : decode cX9_wire 21 = .ok (.if_icmp .lt 15, 3) := by decide +kernel
theorem dX9_wire_24 : decode cX9_wire 24 = .ok (.iload 4, 2) := by decide +kernel
theorem dX9_wire_26 : decode cX9_wire 26 = .ok (.iconst 1, 1) := by decide +kernel
theorem dX9_wire_27 : decode cX9_wire 27 = .ok (.iconst 4, 1) := by decide +kernel
theorem dX9_wire_28 : decode cX9_wire 28 = .ok (.invokestatic 41, 3) := by decide +kernel
theorem dX9_wire_31 : decode cX9_wire 31 = .ok (.ifCond .ne 5, 3) := by decide +kernel
theorem dX9_wire_34 : decode cX9_wire 34 = .ok (.iconst (-1), 1) := by decide +kernel
theorem dX9_wire_35 : decode cX9_wire 35 = .ok (.ireturn, 1) := by decide +kernel
theorem dX9_wire_36 : decode cX9_wire 36 = .ok (.iload_n 1, 1) := by decide +kernel
theorem dX9_wire_37 : decode cX9_wire 37 = .ok (.iconst 2, 1) := by decide +kernel
theorem dX9_wire_38 : decode cX9_wire 38 = .ok (.if_icmp .lt 15, 3) := by decide +kernel
theorem dX9_wire_41 : decode cX9_wire 41 = .ok (.iload 5, 2) := by decide +kernel
theorem dX9_wire_43 : decode cX9_wire 43 = .ok (.iconst 1, 1) := by decide +kernel
theorem dX9_wire_44 : decode cX9_wire 44 = .ok (.iconst 4, 1) := by decide +kernel
theorem dX9_wire_45 : decode cX9_wire 45 = .ok (.invokestatic 41, 3) := by decide +kernel
theorem dX9_wire_48 : decode cX9_wire 48 = .ok (.ifCond .ne 5, 3) := by decide +kernel
theorem dX9_wire_51 : decode cX9_wire 51 = .ok (.iconst (-1), 1) := by decide +kernel
theorem dX9_wire_52 : decode cX9_wire 52 = .ok (.ireturn, 1) := by decide +kernel
theorem dX9_wire_53 : decode cX9_wire 53 = .ok (.aload_n 0, 1) := by decide +kernel
theorem dX9_wire_54 : decode cX9_wire 54 = .ok (.getfield 19, 3) := by decide +kernel
theorem dX9_wire_57 : decode cX9_wire 57 = .ok (.invokevirtual 96, 3) := by decide +kernel
theorem dX9_wire_60 : decode cX9_wire 60 = .ok (.bipush 12, 2) := by decide +kernel
theorem dX9_wire_62 : decode cX9_wire 62 = .ok (.if_icmp .lt 6, 3) := by decide +kernel
theorem dX9_wire_65 : decode cX9_wire 65 = .ok (.bipush (-3), 2) := by decide +kernel
theorem dX9_wire_67 : decode cX9_wire 67 = .ok (.ireturn, 1) := by decide +kernel
theorem dX9_wire_68 : decode cX9_wire 68 = .ok (.aload_n 0, 1) := by decide +kernel
theorem dX9_wire_69 : decode cX9_wire 69 = .ok (.getfield 19, 3) := by decide +kernel
theorem dX9_wire_72 : decode cX9_wire 72 = .ok (.iload_n 1, 1) := by decide +kernel
theorem dX9_wire_73 : decode cX9_wire 73 = .ok (.iload_n 2, 1) := by decide +kernel
theorem dX9_wire_74 : decode cX9_wire 74 = .ok (.iload_n 3, 1) := by decide +kernel
theorem dX9_wire_75 : decode cX9_wire 75 = .ok (.iload 4, 2) := by decide +kernel
theorem dX9_wire_77 : decode cX9_wire 77 = .ok (.iload 5, 2) := by decide +kernel
theorem dX9_wire_79 : decode cX9_wire 79 = .ok (.invokestatic 97, 3) := by decide +kernel
theorem dX9_wire_82 : decode cX9_wire 82 = .ok (.invokevirtual 101, 3) := by decide +kernel
theorem dX9_wire_85 : decode cX9_wire 85 = .ok (.ireturn, 1) := by decide +kernel
set_option maxRecDepth 20000 in
theorem ggX9_newWire_X8_init : GoodIn wsX9_newWire wsX8_init := goodIn_r _ [12, 13, 14, 15, 6, 16, 17, 18, 19, 9, 20, 21, 22, 23, 24, 25, 26, 29, 30, 31, 32, 33, 34, 35, 36, 37, 38, 39, 40] (by decide +kernel) (by decide +kernel)
set_option maxRecDepth 20000 in
theorem gX9_newWire_X8_init : GoodIn wsX9_newWire (wsX8_init) := ggX9_newWire_X8_init
set_option maxRecDepth 20000 in
theorem ggX9_newWire_X2_init : GoodIn wsX9_newWire wsX2_init := goodIn_r _ [16, 17, 18, 19, 9, 20, 21, 22, 23, 24, 25, 26, 34, 35, 36, 37, 29, 30, 31, 32, 33, 38, 39, 40] (by decide +kernel) (by decide +kernel)
set_option maxRecDepth 20000 in
theorem gX9_newWire_X2_init : GoodIn wsX9_newWire (wsX2_init) := ggX9_newWire_X2_init
set_option maxRecDepth 20000 in
theorem ggX9_newWire_X4_init : GoodIn wsX9_newWire wsX4_init := goodIn_r _ [20, 21, 22, 23, 24, 25, 26, 34, 35, 36, 37, 38, 39, 40, 29, 30, 31, 32, 33] (by decide +kernel) (by decide +kernel)
set_option maxRecDepth 20000 in
theorem gX9_newWire_X4_init : GoodIn wsX9_newWire (wsX4_init) := ggX9_newWire_X4_init
theorem dX9_newWire_0 : decode cX9_newWire 0 = .ok (.iload_n 0, 1) := by decide +kernel
theorem dX9_newWire_1 : decode cX9_newWire 1 = .ok (.iconst 2, 1) := by decide +kernel
theorem dX9_newWire_2 : decode cX9_newWire 2 = .ok (.if_icmp .ne 17, 3) := by decide +kernel
theorem dX9_newWire_5 : decode cX9_newWire 5 = .ok (.new 105, 3) := by decide +kernel
theorem dX9_newWire_8 : decode cX9_newWire 8 = .ok (.dup, 1) := by decide +kernel
theorem dX9_newWire_9 : decode cX9_newWire 9 = .ok (.iload_n 0, 1) := by decide +kernel
theorem dX9_newWire_10 : decode cX9_newWire 10 = .ok (.iload_n 1, 1) := by decide +kernel
theorem dX9_newWire_11 : decode cX9_newWire 11 = .ok (.iload_n 2, 1) := by decide +kernel
theorem dX9_newWire_12 : decode cX9_newWire 12 = .ok (.iload_n 3, 1) := by decide +kernel
theorem dX9_newWire_13 : decode cX9_newWire 13 = .ok (.iload 4, 2) := by decide +kernel
theorem dX9_newWire_15 : decode cX9_newWire 15 = .ok (.invokespecial 107, 3) := by decide +kernel
theorem dX9_newWire_18 : decode cX9_newWire 18 = .ok (.areturn, 1) := by decide +kernel
theorem dX9_newWire_19 : decode cX9_newWire 19 = .ok (.iload_n 0, 1) := by decide +kernel
theorem dX9_newWire_20 : decode cX9_newWire 20 = .ok (.iconst 1, 1) := by decide +kernel
theorem dX9_newWire_21 : decode cX9_newWire 21 = .ok (.if_icmp .ne 15, 3) := by decide +kernel
theorem dX9_newWire_24 : decode cX9_newWire 24 = .ok (.new 110, 3) := by decide +kernel
theorem dX9_newWire_27 : decode cX9_newWire 27 = .ok (.dup, 1) := by decide +kernel
theorem dX9_newWire_28 : decode cX9_newWire 28 = .ok (.iload_n 0, 1) := by decide +kernel
theorem dX9_newWire_29 : decode cX9_newWire 29 = .ok (.iload_n 1, 1) := by decide +kernel
theorem dX9_newWire_30 : decode cX9_newWire 30 = .ok (.iload_n 2, 1) := by decide +kernel
theorem dX9_newWire_31 : decode cX9_newWire 31 = .ok (.iload_n 3, 1) := by decide +kernel
theorem dX9_newWire_32 : decode cX9_newWire 32 = .ok (.invokespecial 112, 3) := by decide +kernel
theorem dX9_newWire_35 : decode cX9_newWire 35 = .ok (.areturn, 1) := by decide +kernel
theorem dX9_newWire_36 : decode cX9_newWire 36 = .ok (.new 115, 3) := by decide +kernel
theorem dX9_newWire_39 : decode cX9_newWire 39 = .ok (.dup, 1) := by decide +kernel
theorem dX9_newWire_40 : decode cX9_newWire 40 = .ok (.iload_n 0, 1) := by decide +kernel
theorem dX9_newWire_41 : decode cX9_newWire 41 = .ok (.iload_n 1, 1) := by decide +kernel
theorem dX9_newWire_42 : decode cX9_newWire 42 = .ok (.iload_n 2, 1) := by decide +kernel
theorem dX9_newWire_43 : decode cX9_newWire 43 = .ok (.invokespecial 117, 3) := by decide +kernel
theorem dX9_newWire_46 : decode cX9_newWire 46 = .ok (.areturn, 1) := by decide +kernel
set_option maxRecDepth 20000 in
theorem ggX9_cut_X3_size : GoodIn wsX9_cut wsX3_size := goodIn_r _ [6, 7, 18, 19, 20, 21, 22, 23, 24, 25] (by decide +kernel) (by decide +kernel)
set_option maxRecDepth 20000 in
theorem gX9_cut_X3_size : GoodIn wsX9_cut (wsV RX9 96 RX3 yX3_size wsX3_size) := goodIn_app (goodIn_of _ (by decide +kernel)) ggX9_cut_X3_size
set_option maxRecDepth 20000 in
theorem ggX9_cut_X3_removeLatest : GoodIn wsX9_cut wsX3_removeLatest := goodIn_r _ [11, 7, 12, 18, 19, 20, 21, 22, 23, 24, 25] (by decide +kernel) (by decide +kernel)
set_option maxRecDepth 20000 in
theorem gX9_cut_X3_removeLatest : GoodIn wsX9_cut (wsV RX9 120 RX3 yX3_removeLatest wsX3_removeLatest) := goodIn_app (goodIn_of _ (by decide +kernel)) ggX9_cut_X3_removeLatest
theorem dX9_cut_0 : decode cX9_cut 0 = .ok (.aload_n 0, 1) := by decide +kernel
theorem dX9_cut_1 : decode cX9_cut 1 = .ok (.getfield 19, 3) := by decide +kernel
theorem dX9_cut_4 : decode cX9_cut 4 = .ok (.invokevirtual 96, 3) := by decide +kernel
theorem dX9_cut_7 : decode cX9_cut 7 = .ok (.ifCond .ne 6, 3) := by decide +kernel
theorem dX9_cut_10 : decode cX9_cut 10 = .ok (.bipush (-2), 2) := by decide +kernel
theorem dX9_cut_12 : decode cX9_cut 12 = .ok (.ireturn, 1) := by decide +kernel
theorem dX9_cut_13 : decode cX9_cut 13 = .ok (.aload_n 0, 1) := by decide +kernel
theorem dX9_cut_14 : decode cX9_cut 14 = .ok (.getfield 19, 3) := by decide +kernel
theorem dX9_cut_17 : decode cX9_cut 17 = .ok (.invokevirtual 120, 3) := by decide +kernel
theorem dX9_cut_20 : decode cX9_cut 20 = .ok (.ireturn, 1) := by decide +kernel
set_option maxRecDepth 20000 in
theorem ggX9_ohms_X3_at : GoodIn wsX9_ohms wsX3_at := goodIn_r _ [8, 9, 10, 67, 68, 69, 70, 71, 72, 73, 74] (by decide +kernel) (by decide +kernel)
set_option maxRecDepth 20000 in
theorem gX9_ohms_X3_at : GoodIn wsX9_ohms (wsV RX9 123 RX3 yX3_at wsX3_at) := goodIn_app (goodIn_of _ (by decide +kernel)) ggX9_ohms_X3_at
set_option maxRecDepth 20000 in
theorem ggX9_ohms_X9_isWithin : GoodIn wsX9_ohms wsX9_isWithin := goodIn_r _ [14] (by decide +kernel) (by decide +kernel)
set_option maxRecDepth 20000 in
theorem gX9_ohms_X9_isWithin : GoodIn wsX9_ohms (va_wsS RX9 41 yX9_isWithin wsX9_isWithin) := goodIn_app (goodIn_of _ (by decide +kernel)) ggX9_ohms_X9_isWithin
set_option maxRecDepth 20000 in
theorem ggX9_ohms_X2_measure : GoodIn wsX9_ohms wsX2_measure := goodIn_r _ [21, 22, 23, 24, 16, 25, 26, 27, 28, 29, 30, 31, 32, 33, 34, 35, 75, 76, 77, 78, 79, 80, 81, 82, 83, 84, 85] (by decide +kernel) (by decide +kernel)
set_option maxRecDepth 20000 in
theorem gX9_ohms_X2_measure_u126X2 : GoodIn wsX9_ohms (va_wsO RX9 126 RX2 "OhmNets$OneWire" ⟨"OhmNets$OneWire", "measure", "(LOhmNets$Fraction;)I"⟩ yX2_measure wsX2_measure) := goodIn_app (goodIn_of _ (by decide +kernel)) ggX9_ohms_X2_measure
set_option maxRecDepth 20000 in
theorem ggX9_ohms_X4_measure : GoodIn wsX9_ohms wsX4_measure := goodIn_r _ [28, 29, 30, 31, 32, 33, 34, 35, 75, 76] (by decide +kernel) (by decide +kernel)
set_option maxRecDepth 20000 in
theorem gX9_ohms_X4_measure : GoodIn wsX9_ohms (wsV RX9 126 RX4 yX4_measure wsX4_measure) := goodIn_app (goodIn_of _ (by decide +kernel)) ggX9_ohms_X4_measure
set_option maxRecDepth 20000 in
theorem ggX9_ohms_X8_measure : GoodIn wsX9_ohms wsX8_measure := goodIn_r _ [41, 42, 43, 44, 45, 46, 19, 20, 21, 22, 23, 24, 16, 25, 26, 27, 28, 29, 30, 31, 32, 33, 34, 35, 75, 76, 81, 82, 83, 84, 85, 77, 78, 79, 80] (by decide +kernel) (by decide +kernel)
set_option maxRecDepth 20000 in
theorem gX9_ohms_X8_measure_u126X8 : GoodIn wsX9_ohms (va_wsO RX9 126 RX8 "OhmNets$OneWire" ⟨"OhmNets$OneWire", "measure", "(LOhmNets$Fraction;)I"⟩ yX8_measure wsX8_measure) := goodIn_app (goodIn_of _ (by decide +kernel)) ggX9_ohms_X8_measure
set_option maxRecDepth 20000 in
theorem ggX9_ohms_X0_reduce : GoodIn wsX9_ohms wsX0_reduce := goodIn_r _ [50, 34, 51, 52, 53, 54, 35, 55, 56, 32, 57, 75, 76] (by decide +kernel) (by decide +kernel)
set_option maxRecDepth 20000 in
theorem gX9_ohms_X0_reduce : GoodIn wsX9_ohms (wsV RX9 130 RX0 yX0_reduce wsX0_reduce) := goodIn_app (goodIn_of _ (by decide +kernel)) ggX9_ohms_X0_reduce
set_option maxRecDepth 20000 in
theorem ggX9_ohms_X0_part : GoodIn wsX9_ohms wsX0_part := goodIn_r _ [61, 34, 35, 75, 76] (by decide +kernel) (by decide +kernel)
set_option maxRecDepth 20000 in
theorem gX9_ohms_X0_part : GoodIn wsX9_ohms (wsV RX9 133 RX0 yX0_part wsX0_part) := goodIn_app (goodIn_of _ (by decide +kernel)) ggX9_ohms_X0_part
theorem dX9_ohms_0 : decode cX9_ohms 0 = .ok (.aload_n 0, 1) := by decide +kernel
theorem dX9_ohms_1 : decode cX9_ohms 1 = .ok (.getfield 19, 3) := by decide +kernel
theorem dX9_ohms_4 : decode cX9_ohms 4 = .ok (.iload_n 1, 1) := by decide +kernel
theorem dX9_ohms_5 : decode cX9_ohms 5 = .ok (.invokevirtual 123, 3) := by decide +kernel
theorem dX9_ohms_8 : decode cX9_ohms 8 = .ok (.astore_n 3, 1) := by decide +kernel
theorem dX9_ohms_9 : decode cX9_ohms 9 = .ok (.aload_n 3, 1) := by decide +kernel
theorem dX9_ohms_10 : decode cX9_ohms 10 = .ok (.ifnull 12, 3) := by decide +kernel
theorem dX9_ohms_13 : decode cX9_ohms 13 = .ok (.iload_n 2, 1) := by decide +kernel
theorem dX9_ohms_14 : decode cX9_ohms 14 = .ok (.iconst 0, 1) := by decide +kernel
theorem dX9_ohms_15 : decode cX9_ohms 15 = .ok (.iconst 1, 1) := by decide +kernel
theorem dX9_ohms_16 : decode cX9_ohms 16 = .ok (.invokestatic 41, 3) := by decide +kernel
theorem dX9_ohms_19 : decode cX9_ohms 19 = .ok (.ifCond .ne 5, 3) := by decide +kernel
theorem dX9_ohms_22 : decode cX9_ohms 22 = .ok (.iconst (-1), 1) := by decide +kernel
theorem dX9_ohms_23 : decode cX9_ohms 23 = .ok (.ireturn, 1) := by decide +kernel
theorem dX9_ohms_24 : decode cX9_ohms 24 = .ok (.aload_n 0, 1) := by decide +kernel
theorem dX9_ohms_25 : decode cX9_ohms 25 = .ok (.dup, 1) := by decide +kernel
theorem dX9_ohms_26 : decode cX9_ohms 26 = .ok (.getfield 37, 3) := by decide +kernel
theorem dX9_ohms_29 : decode cX9_ohms 29 = .ok (.aload_n 3, 1) := by decide +kernel
theorem dX9_ohms_30 : decode cX9_ohms 30 = .ok (.aload_n 0, 1) := by decide +kernel
theorem dX9_ohms_31 : decode cX9_ohms 31 = .ok (.getfield 33, 3) := by decide +kernel
theorem dX9_ohms_34 : decode cX9_ohms 34 = .ok (.invokevirtual 126, 3) := by decide +kernel
theorem dX9_ohms_37 : decode cX9_ohms 37 = .ok (.i2l, 1) := by decide +kernel
theorem dX9_ohms_38 : decode cX9_ohms 38 = .ok (.ladd, 1) := by decide +kernel
theorem dX9_ohms_39 : decode cX9_ohms 39 = .ok (.putfield 37, 3) := by decide +kernel
theorem dX9_ohms_42 : decode cX9_ohms 42 = .ok (.aload_n 0, 1) := by decide +kernel
theorem dX9_ohms_43 : decode cX9_ohms 43 = .ok (.getfield 33, 3) := by decide +kernel
theorem dX9_ohms_46 : decode cX9_ohms 46 = .ok (.invokevirtual 130, 3) := by decide +kernel
theorem dX9_ohms_49 : decode cX9_ohms 49 = .ok (.aload_n 0, 1) := by decide +kernel
theorem dX9_ohms_50 : decode cX9_ohms 50 = .ok (.getfield 33, 3) := by decide +kernel
theorem dX9_ohms_53 : decode cX9_ohms 53 = .ok (.iload_n 2, 1) := by decide +kernel
theorem dX9_ohms_54 : decode cX9_ohms 54 = .ok (.invokevirtual 133, 3) := by decide +kernel
theorem dX9_ohms_57 : decode cX9_ohms 57 = .ok (.l2i, 1) := by decide +kernel
theorem dX9_ohms_58 : decode cX9_ohms 58 = .ok (.ireturn, 1) := by decide +kernel
set_option maxRecDepth 20000 in
theorem ggX9_about_X3_at : GoodIn wsX9_about wsX3_at := goodIn_r _ [9, 10, 11, 29, 30, 31, 32, 33, 34, 35, 36] (by decide +kernel) (by decide +kernel)
set_option maxRecDepth 20000 in
theorem gX9_about_X3_at : GoodIn wsX9_about (wsV RX9 123 RX3 yX3_at wsX3_at) := goodIn_app (goodIn_of _ (by decide +kernel)) ggX9_about_X3_at
theorem dX9_about_0 : decode cX9_about 0 = .ok (.aload_n 0, 1) := by decide +kernel
theorem dX9_about_1 : decode cX9_about 1 = .ok (.getfield 19, 3) := by decide +kernel
theorem dX9_about_4 : decode cX9_about 4 = .ok (.iload_n 1, 1) := by decide +kernel
theorem dX9_about_5 : decode cX9_about 5 = .ok (.invokevirtual 123, 3) := by decide +kernel
theorem dX9_about_8 : decode cX9_about 8 = .ok (.astore_n 3, 1) := by decide +kernel
theorem dX9_about_9 : decode cX9_about 9 = .ok (.aload_n 3, 1) := by decide +kernel
theorem dX9_about_10 : decode cX9_about 10 = .ok (.ifnonnull 5, 3) := by decide +kernel
theorem dX9_about_13 : decode cX9_about 13 = .ok (.iconst (-1), 1) := by decide +kernel
theorem dX9_about_14 : decode cX9_about 14 = .ok (.ireturn, 1) := by decide +kernel
theorem dX9_about_15 : decode cX9_about 15 = .ok (.iload_n 2, 1) := by decide +kernel
theorem dX9_about_16 : decode cX9_about 16 = .ok (.tableswitch 43 0 2 #[28, 33, 38], 28) := by decide +kernel
theorem dX9_about_44 : decode cX9_about 44 = .ok (.aload_n 3, 1) := by decide +kernel
theorem dX9_about_45 : decode cX9_about 45 = .ok (.getfield 137, 3) := by decide +kernel
theorem dX9_about_48 : decode cX9_about 48 = .ok (.ireturn, 1) := by decide +kernel
theorem dX9_about_49 : decode cX9_about 49 = .ok (.aload_n 3, 1) := by decide +kernel
theorem dX9_about_50 : decode cX9_about 50 = .ok (.getfield 140, 3) := by decide +kernel
theorem dX9_about_53 : decode cX9_about 53 = .ok (.ireturn, 1) := by decide +kernel
theorem dX9_about_54 : decode cX9_about 54 = .ok (.aload_n 3, 1) := by decide +kernel
theorem dX9_about_55 : decode cX9_about 55 = .ok (.getfield 143, 3) := by decide +kernel
theorem dX9_about_58 : decode cX9_about 58 = .ok (.ireturn, 1) := by decide +kernel
theorem dX9_about_59 : decode cX9_about 59 = .ok (.iconst (-1), 1) := by decide +kernel
theorem dX9_about_60 : decode cX9_about 60 = .ok (.ireturn, 1) := by decide +kernel
set_option maxRecDepth 20000 in
theorem ggX9_between_X9_isKnot : GoodIn wsX9_between wsX9_isKnot := goodIn_r _ [8, 9, 10, 7, 11] (by decide +kernel) (by decide +kernel)
set_option maxRecDepth 20000 in
theorem gX9_between_X9_isKnot : GoodIn wsX9_between (va_wsS RX9 146 yX9_isKnot wsX9_isKnot) := goodIn_app (goodIn_of _ (by decide +kernel)) ggX9_between_X9_isKnot
set_option maxRecDepth 20000 in
theorem ggX9_between_X9_isWithin : GoodIn wsX9_between wsX9_isWithin := goodIn_r _ [11] (by decide +kernel) (by decide +kernel)
set_option maxRecDepth 20000 in
theorem gX9_between_X9_isWithin : GoodIn wsX9_between (va_wsS RX9 41 yX9_isWithin wsX9_isWithin) := goodIn_app (goodIn_of _ (by decide +kernel)) ggX9_between_X9_isWithin
set_option maxRecDepth 20000 in
theorem ggX9_between_X3_hangTogether : GoodIn wsX9_between wsX3_hangTogether := goodIn_r _ [16, 17, 18, 19, 15, 20, 21, 22, 23, 24, 25, 26, 27, 28, 29, 30, 31, 32, 33, 34, 35, 100, 101, 102, 103, 104, 105, 106, 107, 108, 109, 110, 111, 112, 113, 114, 115, 116, 117, 118, 119] (by decide +kernel) (by decide +kernel)
set_option maxRecDepth 20000 in
theorem gX9_between_X3_hangTogether : GoodIn wsX9_between (wsV RX9 152 RX3 yX3_hangTogether wsX3_hangTogether) := goodIn_app (goodIn_of _ (by decide +kernel)) ggX9_between_X3_hangTogether
set_option maxRecDepth 20000 in
theorem ggX9_between_X3_solveBetween : GoodIn wsX9_between wsX3_solveBetween := goodIn_r _ [39, 40, 41, 42, 43, 44, 45, 46, 47, 48, 49, 50, 15, 51, 52, 53, 54, 17, 18, 19, 20, 21, 22, 23, 24, 25, 26, 27, 28, 29, 30, 31, 32, 33, 34, 35, 55, 56, 57, 58, 59, 60, 61, 62, 63, 64, 65, 66, 67, 68, 69, 70, 71, 72, 73, 74, 75, 76, 77, 78, 79, 80, 81, 82, 83, 84, 85, 86, 87, 88, 89, 90, 120, 121, 100, 101, 102, 103, 104, 105, 106, 107, 108, 109, 110, 111, 112, 113, 114, 115, 116, 117, 118, 119] (by decide +kernel) (by decide +kernel)
set_option maxRecDepth 20000 in
theorem gX9_between_X3_solveBetween : GoodIn wsX9_between (wsV RX9 157 RX3 yX3_solveBetween wsX3_solveBetween) := goodIn_app (goodIn_of _ (by decide +kernel)) ggX9_between_X3_solveBetween
set_option maxRecDepth 20000 in
theorem ggX9_between_X0_part : GoodIn wsX9_between wsX0_part := goodIn_r _ [94, 46, 47, 120, 121] (by decide +kernel) (by decide +kernel)
set_option maxRecDepth 20000 in
theorem gX9_between_X0_part : GoodIn wsX9_between (wsV RX9 133 RX0 yX0_part wsX0_part) := goodIn_app (goodIn_of _ (by decide +kernel)) ggX9_between_X0_part
theorem dX9_between_0 : decode cX9_between 0 = .ok (.iload_n 1, 1) := by decide +kernel
theorem dX9_between_1 : decode cX9_between 1 = .ok (.invokestatic 146, 3) := by decide +kernel
theorem dX9_between_4 : decode cX9_between 4 = .ok (.ifCond .eq 19, 3) := by decide +kernel
theorem dX9_between_7 : decode cX9_between 7 = .ok (.iload_n 2, 1) := by decide +kernel
theorem dX9_between_8 : decode cX9_between 8 = .ok (.invokestatic 146, 3) := by decide +kernel
theorem dX9_between_11 : decode cX9_between 11 = .ok (.ifCond .eq 12, 3) := by decide +kernel
theorem dX9_between_14 : decode cX9_between 14 = .ok (.iload_n 3, 1) := by decide +kernel
theorem dX9_between_15 : decode cX9_between 15 = .ok (.iconst 0, 1) := by decide +kernel
theorem dX9_between_16 : decode cX9_between 16 = .ok (.iconst 1, 1) := by decide +kernel
theorem dX9_between_17 : decode cX9_between 17 = .ok (.invokestatic 41, 3) := by decide +kernel
theorem dX9_between_20 : decode cX9_between 20 = .ok (.ifCond .ne 7, 3) := by decide +kernel
theorem dX9_between_23 : decode cX9_between 23 = .ok (.ldc2_w 150, 3) := by decide +kernel
theorem dX9_between_26 : decode cX9_between 26 = .ok (.lreturn, 1) := by decide +kernel
theorem dX9_between_27 : decode cX9_between 27 = .ok (.aload_n 0, 1) := by decide +kernel
theorem dX9_between_28 : decode cX9_between 28 = .ok (.getfield 19, 3) := by decide +kernel
theorem dX9_between_31 : decode cX9_between 31 = .ok (.iload_n 1, 1) := by decide +kernel
theorem dX9_between_32 : decode cX9_between 32 = .ok (.iload_n 2, 1) := by decide +kernel
theorem dX9_between_33 : decode cX9_between 33 = .ok (.invokevirtual 152, 3) := by decide +kernel
theorem dX9_between_36 : decode cX9_between 36 = .ok (.ifCond .ne 7, 3) := by decide +kernel
theorem dX9_between_39 : decode cX9_between 39 = .ok (.ldc2_w 155, 3) := by decide +kernel
theorem dX9_between_42 : decode cX9_between 42 = .ok (.lreturn, 1) := by decide +kernel
theorem dX9_between_43 : decode cX9_between 43 = .ok (.aload_n 0, 1) := by decide +kernel
theorem dX9_between_44 : decode cX9_between 44 = .ok (.getfield 19, 3) := by decide +kernel
theorem dX9_between_47 : decode cX9_between 47 = .ok (.iload_n 1, 1) := by decide +kernel
theorem dX9_between_48 : decode cX9_between 48 = .ok (.iload_n 2, 1) := by decide +kernel
theorem dX9_between_49 : decode cX9_between 49 = .ok (.aload_n 0, 1) := by decide +kernel
theorem dX9_between_50 : decode cX9_between 50 = .ok (.getfield 33, 3) := by decide +kernel
theorem dX9_between_53 : decode cX9_between 53 = .ok (.invokevirtual 157, 3) := by decide +kernel
theorem dX9_between_56 : decode cX9_between 56 = .ok (.aload_n 0, 1) := by decide +kernel
theorem dX9_between_57 : decode cX9_between 57 = .ok (.getfield 33, 3) := by decide +kernel
theorem dX9_between_60 : decode cX9_between 60 = .ok (.iload_n 3, 1) := by decide +kernel
theorem dX9_between_61 : decode cX9_between 61 = .ok (.invokevirtual 133, 3) := by decide +kernel
theorem dX9_between_64 : decode cX9_between 64 = .ok (.lreturn, 1) := by decide +kernel
set_option maxRecDepth 20000 in
theorem ggX9_through_X3_at : GoodIn wsX9_through wsX3_at := goodIn_r _ [8, 9, 10, 105, 106, 107, 108, 109, 110, 111, 112] (by decide +kernel) (by decide +kernel)
set_option maxRecDepth 20000 in
theorem gX9_through_X3_at : GoodIn wsX9_through (wsV RX9 123 RX3 yX3_at wsX3_at) := goodIn_app (goodIn_of _ (by decide +kernel)) ggX9_through_X3_at
set_option maxRecDepth 20000 in
theorem ggX9_through_X9_areTwoKnots : GoodIn wsX9_through wsX9_areTwoKnots := goodIn_r _ [14, 15, 16, 13, 17, 18, 19, 20] (by decide +kernel) (by decide +kernel)
set_option maxRecDepth 20000 in
theorem gX9_through_X9_areTwoKnots : GoodIn wsX9_through (va_wsS RX9 92 yX9_areTwoKnots wsX9_areTwoKnots) := goodIn_app (goodIn_of _ (by decide +kernel)) ggX9_through_X9_areTwoKnots
set_option maxRecDepth 20000 in
theorem ggX9_through_X9_isWithin : GoodIn wsX9_through wsX9_isWithin := goodIn_r _ [20] (by decide +kernel) (by decide +kernel)
set_option maxRecDepth 20000 in
theorem gX9_through_X9_isWithin : GoodIn wsX9_through (va_wsS RX9 41 yX9_isWithin wsX9_isWithin) := goodIn_app (goodIn_of _ (by decide +kernel)) ggX9_through_X9_isWithin
set_option maxRecDepth 20000 in
theorem ggX9_through_X3_hangTogether : GoodIn wsX9_through wsX3_hangTogether := goodIn_r _ [24, 25, 26, 27, 7, 28, 9, 10, 29, 30, 31, 32, 33, 34, 35, 36, 37, 38, 39, 40, 41, 105, 106, 107, 108, 109, 110, 111, 112, 113, 114, 115, 116, 117, 118, 119, 120, 121, 122, 123, 124] (by decide +kernel) (by decide +kernel)
set_option maxRecDepth 20000 in
theorem gX9_through_X3_hangTogether : GoodIn wsX9_through (wsV RX9 152 RX3 yX3_hangTogether wsX3_hangTogether) := goodIn_app (goodIn_of _ (by decide +kernel)) ggX9_through_X3_hangTogether
set_option maxRecDepth 20000 in
theorem ggX9_through_X3_solveThrough : GoodIn wsX9_through wsX3_solveThrough := goodIn_r _ [45, 10, 29, 30, 46, 47, 48, 49, 7, 50, 51, 52, 53, 25, 26, 27, 28, 9, 31, 32, 33, 34, 35, 36, 37, 38, 39, 40, 41, 54, 55, 56, 57, 58, 59, 60, 61, 62, 63, 64, 65, 66, 67, 68, 69, 70, 71, 72, 73, 74, 75, 76, 77, 78, 79, 80, 81, 82, 83, 84, 85, 86, 87, 88, 89, 90, 91, 92, 93, 94, 95, 105, 106, 107, 108, 109, 110, 111, 112, 113, 114, 115, 116, 117, 118, 119, 120, 121, 122, 123, 124, 125, 126] (by decide +kernel) (by decide +kernel)
set_option maxRecDepth 20000 in
theorem gX9_through_X3_solveThrough : GoodIn wsX9_through (wsV RX9 165 RX3 yX3_solveThrough wsX3_solveThrough) := goodIn_app (goodIn_of _ (by decide +kernel)) ggX9_through_X3_solveThrough
set_option maxRecDepth 20000 in
theorem ggX9_through_X0_part : GoodIn wsX9_through wsX0_part := goodIn_r _ [99, 83, 84, 125, 126] (by decide +kernel) (by decide +kernel)
set_option maxRecDepth 20000 in
theorem gX9_through_X0_part : GoodIn wsX9_through (wsV RX9 133 RX0 yX0_part wsX0_part) := goodIn_app (goodIn_of _ (by decide +kernel)) ggX9_through_X0_part
theorem dX9_through_0 : decode cX9_through 0 = .ok (.aload_n 0, 1) := by decide +kernel
theorem dX9_through_1 : decode cX9_through 1 = .ok (.getfield 19, 3) := by decide +kernel
theorem dX9_through_4 : decode cX9_through 4 = .ok (.iload_n 1, 1) := by decide +kernel
theorem dX9_through_5 : decode cX9_through 5 = .ok (.invokevirtual 123, 3) := by decide +kernel
theorem dX9_through_8 : decode cX9_through 8 = .ok (.ifnull 21, 3) := by decide +kernel
theorem dX9_through_11 : decode cX9_through 11 = .ok (.iload_n 2, 1) := by decide +kernel
theorem dX9_through_12 : decode cX9_through 12 = .ok (.iload_n 3, 1) := by decide +kernel
theorem dX9_through_13 : decode cX9_through 13 = .ok (.invokestatic 92, 3) := by decide +kernel
theorem dX9_through_16 : decode cX9_through 16 = .ok (.ifCond .eq 13, 3) := by decide +kernel
theorem dX9_through_19 : decode cX9_through 19 = .ok (.iload 4, 2) := by decide +kernel
theorem dX9_through_21 : decode cX9_through 21 = .ok (.iconst 0, 1) := by decide +kernel
theorem dX9_through_22 : decode cX9_through 22 = .ok (.iconst 1, 1) := by decide +kernel
theorem dX9_through_23 : decode cX9_through 23 = .ok (.invokestatic 41, 3) := by decide +kernel
theorem dX9_through_26 : decode cX9_through 26 = .ok (.ifCond .ne 7, 3) := by decide +kernel
theorem dX9_through_29 : decode cX9_through 29 = .ok (.ldc2_w 163, 3) := by decide +kernel
theorem dX9_through_32 : decode cX9_through 32 = .ok (.lreturn, 1) := by decide +kernel
theorem dX9_through_33 : decode cX9_through 33 = .ok (.aload_n 0, 1) := by decide +kernel
theorem dX9_through_34 : decode cX9_through 34 = .ok (.getfield 19, 3) := by decide +kernel
theorem dX9_through_37 : decode cX9_through 37 = .ok (.iload_n 2, 1) := by decide +kernel
theorem dX9_through_38 : decode cX9_through 38 = .ok (.iload_n 3, 1) := by decide +kernel
theorem dX9_through_39 : decode cX9_through 39 = .ok (.invokevirtual 152, 3) := by decide +kernel
theorem dX9_through_42 : decode cX9_through 42 = .ok (.ifCond .ne 7, 3) := by decide +kernel
theorem dX9_through_45 : decode cX9_through 45 = .ok (.ldc2_w 163, 3) := by decide +kernel
theorem dX9_through_48 : decode cX9_through 48 = .ok (.lreturn, 1) := by decide +kernel
theorem dX9_through_49 : decode cX9_through 49 = .ok (.aload_n 0, 1) := by decide +kernel
theorem dX9_through_50 : decode cX9_through 50 = .ok (.getfield 19, 3) := by decide +kernel
theorem dX9_through_53 : decode cX9_through 53 = .ok (.iload_n 1, 1) := by decide +kernel
theorem dX9_through_54 : decode cX9_through 54 = .ok (.iload_n 2, 1) := by decide +kernel
theorem dX9_through_55 : decode cX9_through 55 = .ok (.iload_n 3, 1) := by decide +kernel
theorem dX9_through_56 : decode cX9_through 56 = .ok (.aload_n 0, 1) := by decide +kernel
theorem dX9_through_57 : decode cX9_through 57 = .ok (.getfield 33, 3) := by decide +kernel
theorem dX9_through_60 : decode cX9_through 60 = .ok (.invokevirtual 165, 3) := by decide +kernel
theorem dX9_through_63 : decode cX9_through 63 = .ok (.aload_n 0, 1) := by decide +kernel
theorem dX9_through_64 : decode cX9_through 64 = .ok (.getfield 33, 3) := by decide +kernel
theorem dX9_through_67 : decode cX9_through 67 = .ok (.iload 4, 2) := by decide +kernel
theorem dX9_through_69 : decode cX9_through 69 = .ok (.invokevirtual 133, 3) := by decide +kernel
theorem dX9_through_72 : decode cX9_through 72 = .ok (.lreturn, 1) := by decide +kernel
set_option maxRecDepth 20000 in
theorem ggX9_trees_X3_countTrees : GoodIn wsX9_trees wsX3_countTrees := goodIn_r _ [6, 7, 8, 9, 5, 10, 11, 12, 13, 14, 15, 16, 17, 18, 19, 20, 21, 22, 23, 24, 25, 26, 27, 28, 29, 30, 31, 32, 33, 34, 35, 36, 37, 38, 39, 40, 41, 42, 43, 49, 50, 51, 52, 53, 54, 55, 56, 57, 58, 59, 60, 61, 62, 63, 64, 65, 66, 67, 68] (by decide +kernel) (by decide +kernel)
set_option maxRecDepth 20000 in
theorem gX9_trees_X3_countTrees : GoodIn wsX9_trees (wsV RX9 169 RX3 yX3_countTrees wsX3_countTrees) := goodIn_app (goodIn_of _ (by decide +kernel)) ggX9_trees_X3_countTrees
theorem dX9_trees_0 : decode cX9_trees 0 = .ok (.aload_n 0, 1) := by decide +kernel
theorem dX9_trees_1 : decode cX9_trees 1 = .ok (.getfield 19, 3) := by decide +kernel
theorem dX9_trees_4 : decode cX9_trees 4 = .ok (.invokevirtual 169, 3) := by decide +kernel
theorem dX9_trees_7 : decode cX9_trees 7 = .ok (.ireturn, 1) := by decide +kernel
set_option maxRecDepth 20000 in
theorem ggX9_falls_X9_areTwoKnots : GoodIn wsX9_falls wsX9_areTwoKnots := goodIn_r _ [5, 6, 7, 4, 8, 9, 10, 11] (by decide +kernel) (by decide +kernel)
set_option maxRecDepth 20000 in
theorem gX9_falls_X9_areTwoKnots : GoodIn wsX9_falls (va_wsS RX9 92 yX9_areTwoKnots wsX9_areTwoKnots) := goodIn_app (goodIn_of _ (by decide +kernel)) ggX9_falls_X9_areTwoKnots
set_option maxRecDepth 20000 in
theorem ggX9_falls_X3_hangTogether : GoodIn wsX9_falls wsX3_hangTogether := goodIn_r _ [16, 17, 18, 19, 15, 20, 21, 22, 23, 24, 25, 26, 27, 28, 29, 30, 31, 32, 33, 34, 35, 69, 70, 71, 72, 73, 74, 75, 76, 77, 78, 79, 80, 81, 82, 83, 84, 85, 86, 87, 88] (by decide +kernel) (by decide +kernel)
set_option maxRecDepth 20000 in
theorem gX9_falls_X3_hangTogether : GoodIn wsX9_falls (wsV RX9 152 RX3 yX3_hangTogether wsX3_hangTogether) := goodIn_app (goodIn_of _ (by decide +kernel)) ggX9_falls_X3_hangTogether
set_option maxRecDepth 20000 in
theorem ggX9_falls_X3_fallsTogether : GoodIn wsX9_falls wsX3_fallsTogether := goodIn_r _ [39, 40, 17, 18, 19, 15, 20, 21, 22, 23, 24, 25, 26, 27, 28, 29, 30, 31, 32, 33, 34, 35, 41, 42, 43, 44, 45, 46, 47, 48, 49, 50, 51, 52, 53, 54, 55, 56, 57, 58, 59, 60, 61, 62, 63, 69, 70, 71, 72, 73, 74, 75, 76, 77, 78, 79, 80, 81, 82, 83, 84, 85, 86, 87, 88] (by decide +kernel) (by decide +kernel)
set_option maxRecDepth 20000 in
theorem gX9_falls_X3_fallsTogether : GoodIn wsX9_falls (wsV RX9 172 RX3 yX3_fallsTogether wsX3_fallsTogether) := goodIn_app (goodIn_of _ (by decide +kernel)) ggX9_falls_X3_fallsTogether
theorem dX9_falls_0 : decode cX9_falls 0 = .ok (.iload_n 1, 1) := by decide +kernel
theorem dX9_falls_1 : decode cX9_falls 1 = .ok (.iload_n 2, 1) := by decide +kernel
theorem dX9_falls_2 : decode cX9_falls 2 = .ok (.invokestatic 92, 3) := by decide +kernel
theorem dX9_falls_5 : decode cX9_falls 5 = .ok (.ifCond .ne 5, 3) := by decide +kernel
theorem dX9_falls_8 : decode cX9_falls 8 = .ok (.iconst (-1), 1) := by decide +kernel
theorem dX9_falls_9 : decode cX9_falls 9 = .ok (.ireturn, 1) := by decide +kernel
theorem dX9_falls_10 : decode cX9_falls 10 = .ok (.aload_n 0, 1) := by decide +kernel
theorem dX9_falls_11 : decode cX9_falls 11 = .ok (.getfield 19, 3) := by decide +kernel
theorem dX9_falls_14 : decode cX9_falls 14 = .ok (.iload_n 1, 1) := by decide +kernel
theorem dX9_falls_15 : decode cX9_falls 15 = .ok (.iload_n 2, 1) := by decide +kernel
theorem dX9_falls_16 : decode cX9_falls 16 = .ok (.invokevirtual 152, 3) := by decide +kernel
theorem dX9_falls_19 : decode cX9_falls 19 = .ok (.ifCond .ne 6, 3) := by decide +kernel
theorem dX9_falls_22 : decode cX9_falls 22 = .ok (.bipush (-2), 2) := by decide +kernel
theorem dX9_falls_24 : decode cX9_falls 24 = .ok (.ireturn, 1) := by decide +kernel
theorem dX9_falls_25 : decode cX9_falls 25 = .ok (.aload_n 0, 1) := by decide +kernel
theorem dX9_falls_26 : decode cX9_falls 26 = .ok (.getfield 19, 3) := by decide +kernel
theorem dX9_falls_29 : decode cX9_falls 29 = .ok (.iload_n 1, 1) := by decide +kernel
theorem dX9_falls_30 : decode cX9_falls 30 = .ok (.iload_n 2, 1) := by decide +kernel
theorem dX9_falls_31 : decode cX9_falls 31 = .ok (.invokevirtual 172, 3) := by decide +kernel
theorem dX9_falls_34 : decode cX9_falls 34 = .ok (.ifCond .eq 7, 3) := by decide +kernel
theorem dX9_falls_37 : decode cX9_falls 37 = .ok (.iconst 1, 1) := by decide +kernel
theorem dX9_falls_38 : decode cX9_falls 38 = .ok (.goto 4, 3) := by decide +kernel
theorem dX9_falls_41 : decode cX9_falls 41 = .ok (.iconst 0, 1) := by decide +kernel
theorem dX9_falls_42 : decode cX9_falls 42 = .ok (.ireturn, 1) := by decide +kernel
set_option maxRecDepth 20000 in
theorem ggX9_sort_X9_isWithin : GoodIn wsX9_sort wsX9_isWithin := goodIn_r _ [5] (by decide +kernel) (by decide +kernel)
set_option maxRecDepth 20000 in
theorem gX9_sort_X9_isWithin : GoodIn wsX9_sort (va_wsS RX9 41 yX9_isWithin wsX9_isWithin) := goodIn_app (goodIn_of _ (by decide +kernel)) ggX9_sort_X9_isWithin
set_option maxRecDepth 20000 in
theorem ggX9_sort_X7_size : GoodIn wsX9_sort wsX7_size := goodIn_r _ [10, 11, 23, 24, 25, 26, 27] (by decide +kernel) (by decide +kernel)
set_option maxRecDepth 20000 in
theorem gX9_sort_X7_size : GoodIn wsX9_sort (wsV RX9 175 RX7 yX7_size wsX7_size) := goodIn_app (goodIn_of _ (by decide +kernel)) ggX9_sort_X7_size
set_option maxRecDepth 20000 in
theorem ggX9_sort_X7_add : GoodIn wsX9_sort wsX7_add := goodIn_r _ [15, 16, 11, 17, 23, 24, 25, 26, 27] (by decide +kernel) (by decide +kernel)
set_option maxRecDepth 20000 in
theorem gX9_sort_X7_add : GoodIn wsX9_sort (wsV RX9 176 RX7 yX7_add wsX7_add) := goodIn_app (goodIn_of _ (by decide +kernel)) ggX9_sort_X7_add
theorem dX9_sort_0 : decode cX9_sort 0 = .ok (.iload_n 1, 1) := by decide +kernel
theorem dX9_sort_1 : decode cX9_sort 1 = .ok (.iconst 1, 1) := by decide +kernel
theorem dX9_sort_2 : decode cX9_sort 2 = .ok (.bipush 100, 2) := by decide +kernel
theorem dX9_sort_4 : decode cX9_sort 4 = .ok (.invokestatic 41, 3) := by decide +kernel
theorem dX9_sort_7 : decode cX9_sort 7 = .ok (.ifCond .eq 13, 3) := by decide +kernel
theorem dX9_sort_10 : decode cX9_sort 10 = .ok (.iload_n 2, 1) := by decide +kernel
theorem dX9_sort_11 : decode cX9_sort 11 = .ok (.iconst 1, 1) := by decide +kernel
theorem dX9_sort_12 : decode cX9_sort 12 = .ok (.bipush 50, 2) := by decide +kernel
theorem dX9_sort_14 : decode cX9_sort 14 = .ok (.invokestatic 41, 3) := by decide +kernel
theorem dX9_sort_17 : decode cX9_sort 17 = .ok (.ifCond .ne 5, 3) := by decide +kernel
theorem dX9_sort_20 : decode cX9_sort 20 = .ok (.iconst (-1), 1) := by decide +kernel
theorem dX9_sort_21 : decode cX9_sort 21 = .ok (.ireturn, 1) := by decide +kernel
theorem dX9_sort_22 : decode cX9_sort 22 = .ok (.aload_n 0, 1) := by decide +kernel
theorem dX9_sort_23 : decode cX9_sort 23 = .ok (.getfield 26, 3) := by decide +kernel
theorem dX9_sort_26 : decode cX9_sort 26 = .ok (.invokevirtual 175, 3) := by decide +kernel
theorem dX9_sort_29 : decode cX9_sort 29 = .ok (.bipush 6, 2) := by decide +kernel
theorem dX9_sort_31 : decode cX9_sort 31 = .ok (.if_icmp .lt 6, 3) := by decide +kernel
theorem dX9_sort_34 : decode cX9_sort 34 = .ok (.bipush (-3), 2) := by decide +kernel
theorem dX9_sort_36 : decode cX9_sort 36 = .ok (.ireturn, 1) := by decide +kernel
theorem dX9_sort_37 : decode cX9_sort 37 = .ok (.aload_n 0, 1) := by decide +kernel
theorem dX9_sort_38 : decode cX9_sort 38 = .ok (.getfield 26, 3) := by decide +kernel
theorem dX9_sort_41 : decode cX9_sort 41 = .ok (.iload_n 1, 1) := by decide +kernel
theorem dX9_sort_42 : decode cX9_sort 42 = .ok (.iload_n 2, 1) := by decide +kernel
theorem dX9_sort_43 : decode cX9_sort 43 = .ok (.invokevirtual 176, 3) := by decide +kernel
theorem dX9_sort_46 : decode cX9_sort 46 = .ok (.ireturn, 1) := by decide +kernel
set_option maxRecDepth 20000 in
theorem ggX9_nearest_X9_isTold : GoodIn wsX9_nearest wsX9_isTold := goodIn_r _ [5, 6, 7, 4, 8] (by decide +kernel) (by decide +kernel)
set_option maxRecDepth 20000 in
theorem gX9_nearest_X9_isTold : GoodIn wsX9_nearest (va_wsS RX9 69 yX9_isTold wsX9_isTold) := goodIn_app (goodIn_of _ (by decide +kernel)) ggX9_nearest_X9_isTold
set_option maxRecDepth 20000 in
theorem ggX9_nearest_X7_size : GoodIn wsX9_nearest wsX7_size := goodIn_r _ [13, 14, 69, 70, 71, 72, 73] (by decide +kernel) (by decide +kernel)
set_option maxRecDepth 20000 in
theorem gX9_nearest_X7_size : GoodIn wsX9_nearest (wsV RX9 175 RX7 yX7_size wsX7_size) := goodIn_app (goodIn_of _ (by decide +kernel)) ggX9_nearest_X7_size
set_option maxRecDepth 20000 in
theorem ggX9_nearest_X7_nearestTo : GoodIn wsX9_nearest wsX7_nearestTo := goodIn_r _ [18, 19, 20, 21, 22, 23, 24, 25, 12, 26, 14, 27, 28, 29, 30, 31, 32, 33, 34, 35, 36, 37, 38, 39, 40, 41, 42, 43, 44, 45, 46, 47, 48, 49, 50, 51, 52, 53, 54, 55, 56, 57, 58, 59, 60, 61, 62, 63, 69, 70, 71, 72, 73, 74, 75] (by decide +kernel) (by decide +kernel)
set_option maxRecDepth 20000 in
theorem gX9_nearest_X7_nearestTo : GoodIn wsX9_nearest (wsV RX9 178 RX7 yX7_nearestTo wsX7_nearestTo) := goodIn_app (goodIn_of _ (by decide +kernel)) ggX9_nearest_X7_nearestTo
theorem dX9_nearest_0 : decode cX9_nearest 0 = .ok (.iload_n 1, 1) := by decide +kernel
theorem dX9_nearest_1 : decode cX9_nearest 1 = .ok (.iload_n 2, 1) := by decide +kernel
theorem dX9_nearest_2 : decode cX9_nearest 2 = .ok (.sipush 1000, 3) := by decide +kernel
theorem dX9_nearest_5 : decode cX9_nearest 5 = .ok (.invokestatic 69, 3) := by decide +kernel
theorem dX9_nearest_8 : decode cX9_nearest 8 = .ok (.ifCond .ne 5, 3) := by decide +kernel
theorem dX9_nearest_11 : decode cX9_nearest 11 = .ok (.iconst (-1), 1) := by decide +kernel
theorem dX9_nearest_12 : decode cX9_nearest 12 = .ok (.ireturn, 1) := by decide +kernel
theorem dX9_nearest_13 : decode cX9_nearest 13 = .ok (.aload_n 0, 1) := by decide +kernel
theorem dX9_nearest_14 : decode cX9_nearest 14 = .ok (.getfield 26, 3) := by decide +kernel
theorem dX9_nearest_17 : decode cX9_nearest 17 = .ok (.invokevirtual 175, 3) := by decide +kernel
theorem dX9_nearest_20 : decode cX9_nearest 20 = .ok (.ifCond .ne 6, 3) := by decide +kernel
theorem dX9_nearest_23 : decode cX9_nearest 23 = .ok (.bipush (-2), 2) := by decide +kernel
theorem dX9_nearest_25 : decode cX9_nearest 25 = .ok (.ireturn, 1) := by decide +kernel
theorem dX9_nearest_26 : decode cX9_nearest 26 = .ok (.aload_n 0, 1) := by decide +kernel
theorem dX9_nearest_27 : decode cX9_nearest 27 = .ok (.getfield 26, 3) := by decide +kernel
theorem dX9_nearest_30 : decode cX9_nearest 30 = .ok (.iload_n 1, 1) := by decide +kernel
theorem dX9_nearest_31 : decode cX9_nearest 31 = .ok (.iload_n 2, 1) := by decide +kernel
theorem dX9_nearest_32 : decode cX9_nearest 32 = .ok (.invokevirtual 178, 3) := by decide +kernel
theorem dX9_nearest_35 : decode cX9_nearest 35 = .ok (.ireturn, 1) := by decide +kernel
set_option maxRecDepth 20000 in
theorem ggX9_choice_X7_has : GoodIn wsX9_choice wsX7_has := goodIn_r _ [7, 8, 9, 10, 6, 11, 12, 13, 14, 15, 16, 17, 59, 60, 61, 62, 63] (by decide +kernel) (by decide +kernel)
set_option maxRecDepth 20000 in
theorem gX9_choice_X7_has : GoodIn wsX9_choice (wsV RX9 181 RX7 yX7_has wsX7_has) := goodIn_app (goodIn_of _ (by decide +kernel)) ggX9_choice_X7_has
set_option maxRecDepth 20000 in
theorem ggX9_choice_X9_isWithin : GoodIn wsX9_choice wsX9_isWithin := goodIn_r _ [21] (by decide +kernel) (by decide +kernel)
set_option maxRecDepth 20000 in
theorem gX9_choice_X9_isWithin : GoodIn wsX9_choice (va_wsS RX9 41 yX9_isWithin wsX9_isWithin) := goodIn_app (goodIn_of _ (by decide +kernel)) ggX9_choice_X9_isWithin
set_option maxRecDepth 20000 in
theorem ggX9_choice_X7_priceOf : GoodIn wsX9_choice wsX7_priceOf := goodIn_r _ [25, 26, 12, 13, 6, 14, 9, 10, 11, 15, 16, 17, 59, 60, 61, 62, 63] (by decide +kernel) (by decide +kernel)
set_option maxRecDepth 20000 in
theorem gX9_choice_X7_priceOf : GoodIn wsX9_choice (wsV RX9 184 RX7 yX7_priceOf wsX7_priceOf) := goodIn_app (goodIn_of _ (by decide +kernel)) ggX9_choice_X7_priceOf
set_option maxRecDepth 20000 in
theorem ggX9_choice_X7_measure : GoodIn wsX9_choice wsX7_measure := goodIn_r _ [30, 31, 12, 13, 6, 14, 9, 10, 11, 32, 33, 34, 35, 36, 37, 38, 15, 16, 17, 59, 60, 61, 62, 63, 64, 65] (by decide +kernel) (by decide +kernel)
set_option maxRecDepth 20000 in
theorem gX9_choice_X7_measure : GoodIn wsX9_choice (wsV RX9 188 RX7 yX7_measure wsX7_measure) := goodIn_app (goodIn_of _ (by decide +kernel)) ggX9_choice_X7_measure
set_option maxRecDepth 20000 in
theorem ggX9_choice_X0_reduce : GoodIn wsX9_choice wsX0_reduce := goodIn_r _ [42, 37, 43, 44, 45, 46, 38, 47, 48, 35, 49, 64, 65] (by decide +kernel) (by decide +kernel)
set_option maxRecDepth 20000 in
theorem gX9_choice_X0_reduce : GoodIn wsX9_choice (wsV RX9 130 RX0 yX0_reduce wsX0_reduce) := goodIn_app (goodIn_of _ (by decide +kernel)) ggX9_choice_X0_reduce
set_option maxRecDepth 20000 in
theorem ggX9_choice_X0_part : GoodIn wsX9_choice wsX0_part := goodIn_r _ [53, 37, 38, 64, 65] (by decide +kernel) (by decide +kernel)
set_option maxRecDepth 20000 in
theorem gX9_choice_X0_part : GoodIn wsX9_choice (wsV RX9 133 RX0 yX0_part wsX0_part) := goodIn_app (goodIn_of _ (by decide +kernel)) ggX9_choice_X0_part
theorem dX9_choice_0 : decode cX9_choice 0 = .ok (.aload_n 0, 1) := by decide +kernel
theorem dX9_choice_1 : decode cX9_choice 1 = .ok (.getfield 26, 3) := by decide +kernel
theorem dX9_choice_4 : decode cX9_choice 4 = .ok (.iload_n 1, 1) := by decide +kernel
theorem dX9_choice_5 : decode cX9_choice 5 = .ok (.invokevirtual 181, 3) := by decide +kernel
theorem dX9_choice_8 : decode cX9_choice 8 = .ok (.ifCond .eq 12, 3) := by decide +kernel
theorem dX9_choice_11 : decode cX9_choice 11 = .ok (.iload_n 2, 1) := by decide +kernel
theorem dX9_choice_12 : decode cX9_choice 12 = .ok (.iconst 0, 1) := by decide +kernel
theorem dX9_choice_13 : decode cX9_choice 13 = .ok (.iconst 2, 1) := by decide +kernel
theorem dX9_choice_14 : decode cX9_choice 14 = .ok (.invokestatic 41, 3) := by decide +kernel
theorem dX9_choice_17 : decode cX9_choice 17 = .ok (.ifCond .ne 5, 3) := by decide +kernel
theorem dX9_choice_20 : decode cX9_choice 20 = .ok (.iconst (-1), 1) := by decide +kernel
theorem dX9_choice_21 : decode cX9_choice 21 = .ok (.ireturn, 1) := by decide +kernel
theorem dX9_choice_22 : decode cX9_choice 22 = .ok (.iload_n 2, 1) := by decide +kernel
theorem dX9_choice_23 : decode cX9_choice 23 = .ok (.iconst 2, 1) := by decide +kernel
theorem dX9_choice_24 : decode cX9_choice 24 = .ok (.if_icmp .ne 12, 3) := by decide +kernel
theorem dX9_choice_27 : decode cX9_choice 27 = .ok (.aload_n 0, 1) := by decide +kernel
theorem dX9_choice_28 : decode cX9_choice 28 = .ok (.getfield 26, 3) := by decide +kernel
theorem dX9_choice_31 : decode cX9_choice 31 = .ok (.iload_n 1, 1) := by decide +kernel
theorem dX9_choice_32 : decode cX9_choice 32 = .ok (.invokevirtual 184, 3) := by decide +kernel
theorem dX9_choice_35 : decode cX9_choice 35 = .ok (.ireturn, 1) := by decide +kernel
theorem dX9_choice_36 : decode cX9_choice 36 = .ok (.aload_n 0, 1) := by decide +kernel
theorem dX9_choice_37 : decode cX9_choice 37 = .ok (.getfield 26, 3) := by decide +kernel
theorem dX9_choice_40 : decode cX9_choice 40 = .ok (.iload_n 1, 1) := by decide +kernel
theorem dX9_choice_41 : decode cX9_choice 41 = .ok (.aload_n 0, 1) := by decide +kernel
theorem dX9_choice_42 : decode cX9_choice 42 = .ok (.getfield 33, 3) := by decide +kernel
theorem dX9_choice_45 : decode cX9_choice 45 = .ok (.invokevirtual 188, 3) := by decide +kernel
theorem dX9_choice_48 : decode cX9_choice 48 = .ok (.aload_n 0, 1) := by decide +kernel
theorem dX9_choice_49 : decode cX9_choice 49 = .ok (.getfield 33, 3) := by decide +kernel
theorem dX9_choice_52 : decode cX9_choice 52 = .ok (.invokevirtual 130, 3) := by decide +kernel
theorem dX9_choice_55 : decode cX9_choice 55 = .ok (.aload_n 0, 1) := by decide +kernel
theorem dX9_choice_56 : decode cX9_choice 56 = .ok (.getfield 33, 3) := by decide +kernel
theorem dX9_choice_59 : decode cX9_choice 59 = .ok (.iload_n 2, 1) := by decide +kernel
theorem dX9_choice_60 : decode cX9_choice 60 = .ok (.invokevirtual 133, 3) := by decide +kernel
theorem dX9_choice_63 : decode cX9_choice 63 = .ok (.l2i, 1) := by decide +kernel
theorem dX9_choice_64 : decode cX9_choice 64 = .ok (.ireturn, 1) := by decide +kernel
set_option maxRecDepth 20000 in
theorem ggX9_count_X3_size : GoodIn wsX9_count wsX3_size := goodIn_r _ [7, 8, 34, 35, 36, 37, 38, 39, 40, 41] (by decide +kernel) (by decide +kernel)
set_option maxRecDepth 20000 in
theorem gX9_count_X3_size : GoodIn wsX9_count (wsV RX9 96 RX3 yX3_size wsX3_size) := goodIn_app (goodIn_of _ (by decide +kernel)) ggX9_count_X3_size
set_option maxRecDepth 20000 in
theorem ggX9_count_X7_size : GoodIn wsX9_count wsX7_size := goodIn_r _ [13, 14, 42, 43, 44, 45, 46] (by decide +kernel) (by decide +kernel)
set_option maxRecDepth 20000 in
theorem gX9_count_X7_size : GoodIn wsX9_count (wsV RX9 175 RX7 yX7_size wsX7_size) := goodIn_app (goodIn_of _ (by decide +kernel)) ggX9_count_X7_size
set_option maxRecDepth 20000 in
theorem ggX9_count_X3_knotsWithWires : GoodIn wsX9_count wsX3_knotsWithWires := goodIn_r _ [18, 8, 19, 20, 21, 34, 35, 36, 37, 38, 39, 40, 41, 47, 48, 49, 50, 51, 52, 53, 54, 55, 56, 57, 58] (by decide +kernel) (by decide +kernel)
set_option maxRecDepth 20000 in
theorem gX9_count_X3_knotsWithWires : GoodIn wsX9_count (wsV RX9 191 RX3 yX3_knotsWithWires wsX3_knotsWithWires) := goodIn_app (goodIn_of _ (by decide +kernel)) ggX9_count_X3_knotsWithWires
set_option maxRecDepth 20000 in
theorem ggX9_count_J6_bitCount_0f7a4 : GoodIn wsX9_count wsJ6_bitCount_0f7a4 := goodIn_r _ [25, 26, 27, 28] (by decide +kernel) (by decide +kernel)
set_option maxRecDepth 20000 in
theorem gX9_count_J6_bitCount_0f7a4 : GoodIn wsX9_count (va_wsS RX9 194 yJ6_bitCount_0f7a4 wsJ6_bitCount_0f7a4) := goodIn_app (goodIn_of _ (by decide +kernel)) ggX9_count_J6_bitCount_0f7a4
theorem dX9_count_0 : decode cX9_count 0 = .ok (.iload_n 1, 1) := by decide +kernel
theorem dX9_count_1 : decode cX9_count 1 = .ok (.tableswitch 54 0 2 #[27, 35, 43], 27) := by decide +kernel
theorem dX9_count_28 : decode cX9_count 28 = .ok (.aload_n 0, 1) := by decide +kernel
theorem dX9_count_29 : decode cX9_count 29 = .ok (.getfield 19, 3) := by decide +kernel
theorem dX9_count_32 : decode cX9_count 32 = .ok (.invokevirtual 96, 3) := by decide +kernel
theorem dX9_count_35 : decode cX9_count 35 = .ok (.ireturn, 1) := by decide +kernel
theorem dX9_count_36 : decode cX9_count 36 = .ok (.aload_n 0, 1) := by decide +kernel
theorem dX9_count_37 : decode cX9_count 37 = .ok (.getfield 26, 3) := by decide +kernel
theorem dX9_count_40 : decode cX9_count 40 = .ok (.invokevirtual 175, 3) := by decide +kernel
theorem dX9_count_43 : decode cX9_count 43 = .ok (.ireturn, 1) := by decide +kernel
theorem dX9_count_44 : decode cX9_count 44 = .ok (.aload_n 0, 1) := by decide +kernel
theorem dX9_count_45 : decode cX9_count 45 = .ok (.getfield 19, 3) := by decide +kernel
theorem dX9_count_48 : decode cX9_count 48 = .ok (.invokevirtual 191, 3) := by decide +kernel
theorem dX9_count_51 : decode cX9_count 51 = .ok (.invokestatic 194, 3) := by decide +kernel
theorem dX9_count_54 : decode cX9_count 54 = .ok (.ireturn, 1) := by decide +kernel
theorem dX9_count_55 : decode cX9_count 55 = .ok (.iconst (-1), 1) := by decide +kernel
theorem dX9_count_56 : decode cX9_count 56 = .ok (.ireturn, 1) := by decide +kernel
theorem dX9_trace_0 : decode cX9_trace 0 = .ok (.aload_n 0, 1) := by decide +kernel
theorem dX9_trace_1 : decode cX9_trace 1 = .ok (.getfield 37, 3) := by decide +kernel
theorem dX9_trace_4 : decode cX9_trace 4 = .ok (.lreturn, 1) := by decide +kernel
theorem dX9_isWithin_0 : decode cX9_isWithin 0 = .ok (.iload_n 0, 1) := by decide +kernel
theorem dX9_isWithin_1 : decode cX9_isWithin 1 = .ok (.iload_n 1, 1) := by decide +kernel
theorem dX9_isWithin_2 : decode cX9_isWithin 2 = .ok (.if_icmp .lt 12, 3) := by decide +kernel
theorem dX9_isWithin_5 : decode cX9_isWithin 5 = .ok (.iload_n 0, 1) := by decide +kernel
theorem dX9_isWithin_6 : decode cX9_isWithin 6 = .ok (.iload_n 2, 1) := by decide +kernel
theorem dX9_isWithin_7 : decode cX9_isWithin 7 = .ok (.if_icmp .gt 7, 3) := by decide +kernel
theorem dX9_isWithin_10 : decode cX9_isWithin 10 = .ok (.iconst 1, 1) := by decide +kernel
theorem dX9_isWithin_11 : decode cX9_isWithin 11 = .ok (.goto 4, 3) := by decide +kernel
theorem dX9_isWithin_14 : decode cX9_isWithin 14 = .ok (.iconst 0, 1) := by decide +kernel
theorem dX9_isWithin_15 : decode cX9_isWithin 15 = .ok (.ireturn, 1) := by decide +kernel
set_option maxRecDepth 20000 in
theorem ggX9_isTold_X9_isWithin : GoodIn wsX9_isTold wsX9_isWithin := goodIn_r _ [4] (by decide +kernel) (by decide +kernel)
set_option maxRecDepth 20000 in
theorem gX9_isTold_X9_isWithin : GoodIn wsX9_isTold (va_wsS RX9 41 yX9_isWithin wsX9_isWithin) := goodIn_app (goodIn_of _ (by decide +kernel)) ggX9_isTold_X9_isWithin
theorem dX9_isTold_0 : decode cX9_isTold 0 = .ok (.iload_n 0, 1) := by decide +kernel
theorem dX9_isTold_1 : decode cX9_isTold 1 = .ok (.iconst 1, 1) := by decide +kernel
theorem dX9_isTold_2 : decode cX9_isTold 2 = .ok (.iload_n 2, 1) := by decide +kernel
theorem dX9_isTold_3 : decode cX9_isTold 3 = .ok (.invokestatic 41, 3) := by decide +kernel
theorem dX9_isTold_6 : decode cX9_isTold 6 = .ok (.ifCond .eq 16, 3) := by decide +kernel
theorem dX9_isTold_9 : decode cX9_isTold 9 = .ok (.iload_n 1, 1) := by decide +kernel
theorem dX9_isTold_10 : decode cX9_isTold 10 = .ok (.iconst 1, 1) := by decide +kernel
theorem dX9_isTold_11 : decode cX9_isTold 11 = .ok (.iload_n 2, 1) := by decide +kernel
theorem dX9_isTold_12 : decode cX9_isTold 12 = .ok (.invokestatic 41, 3) := by decide +kernel
theorem dX9_isTold_15 : decode cX9_isTold 15 = .ok (.ifCond .eq 7, 3) := by decide +kernel
theorem dX9_isTold_18 : decode cX9_isTold 18 = .ok (.iconst 1, 1) := by decide +kernel
theorem dX9_isTold_19 : decode cX9_isTold 19 = .ok (.goto 4, 3) := by decide +kernel
theorem dX9_isTold_22 : decode cX9_isTold 22 = .ok (.iconst 0, 1) := by decide +kernel
theorem dX9_isTold_23 : decode cX9_isTold 23 = .ok (.ireturn, 1) := by decide +kernel
set_option maxRecDepth 20000 in
theorem ggX9_isKnot_X9_isWithin : GoodIn wsX9_isKnot wsX9_isWithin := goodIn_r _ [4] (by decide +kernel) (by decide +kernel)
set_option maxRecDepth 20000 in
theorem gX9_isKnot_X9_isWithin : GoodIn wsX9_isKnot (va_wsS RX9 41 yX9_isWithin wsX9_isWithin) := goodIn_app (goodIn_of _ (by decide +kernel)) ggX9_isKnot_X9_isWithin
theorem dX9_isKnot_0 : decode cX9_isKnot 0 = .ok (.iload_n 0, 1) := by decide +kernel
theorem dX9_isKnot_1 : decode cX9_isKnot 1 = .ok (.iconst 0, 1) := by decide +kernel
theorem dX9_isKnot_2 : decode cX9_isKnot 2 = .ok (.iconst 5, 1) := by decide +kernel
theorem dX9_isKnot_3 : decode cX9_isKnot 3 = .ok (.invokestatic 41, 3) := by decide +kernel
theorem dX9_isKnot_6 : decode cX9_isKnot 6 = .ok (.ireturn, 1) := by decide +kernel
set_option maxRecDepth 20000 in
theorem ggX9_areTwoKnots_X9_isKnot : GoodIn wsX9_areTwoKnots wsX9_isKnot := goodIn_r _ [4, 5, 6, 3, 7] (by decide +kernel) (by decide +kernel)
set_option maxRecDepth 20000 in
theorem gX9_areTwoKnots_X9_isKnot : GoodIn wsX9_areTwoKnots (va_wsS RX9 146 yX9_isKnot wsX9_isKnot) := goodIn_app (goodIn_of _ (by decide +kernel)) ggX9_areTwoKnots_X9_isKnot
theorem dX9_areTwoKnots_0 : decode cX9_areTwoKnots 0 = .ok (.iload_n 0, 1) := by decide +kernel
theorem dX9_areTwoKnots_1 : decode cX9_areTwoKnots 1 = .ok (.invokestatic 146, 3) := by decide +kernel
theorem dX9_areTwoKnots_4 : decode cX9_areTwoKnots 4 = .ok (.ifCond .eq 19, 3) := by decide +kernel
theorem dX9_areTwoKnots_7 : decode cX9_areTwoKnots 7 = .ok (.iload_n 1, 1) := by decide +kernel
theorem dX9_areTwoKnots_8 : decode cX9_areTwoKnots 8 = .ok (.invokestatic 146, 3) := by decide +kernel
theorem dX9_areTwoKnots_11 : decode cX9_areTwoKnots 11 = .ok (.ifCond .eq 12, 3) := by decide +kernel
theorem dX9_areTwoKnots_14 : decode cX9_areTwoKnots 14 = .ok (.iload_n 0, 1) := by decide +kernel
theorem dX9_areTwoKnots_15 : decode cX9_areTwoKnots 15 = .ok (.iload_n 1, 1) := by decide +kernel
theorem dX9_areTwoKnots_16 : decode cX9_areTwoKnots 16 = .ok (.if_icmp .eq 7, 3) := by decide +kernel
theorem dX9_areTwoKnots_19 : decode cX9_areTwoKnots 19 = .ok (.iconst 1, 1) := by decide +kernel
theorem dX9_areTwoKnots_20 : decode cX9_areTwoKnots 20 = .ok (.goto 4, 3) := by decide +kernel
theorem dX9_areTwoKnots_23 : decode cX9_areTwoKnots 23 = .ok (.iconst 0, 1) := by decide +kernel
theorem dX9_areTwoKnots_24 : decode cX9_areTwoKnots 24 = .ok (.ireturn, 1) := by decide +kernel
theorem dX10_init_0 : decode cX10_init 0 = .ok (.aload_n 0, 1) := by decide +kernel
theorem dX10_init_1 : decode cX10_init 1 = .ok (.invokespecial 1, 3) := by decide +kernel
theorem dX10_init_4 : decode cX10_init 4 = .ok (.aload_n 0, 1) := by decide +kernel
theorem dX10_init_5 : decode cX10_init 5 = .ok (.sipush 1600, 3) := by decide +kernel
theorem dX10_init_8 : decode cX10_init 8 = .ok (.newarray .int, 2) := by decide +kernel
theorem dX10_init_10 : decode cX10_init 10 = .ok (.putfield 7, 3) := by decide +kernel
theorem dX10_init_13 : decode cX10_init 13 = .ok (.aload_n 0, 1) := by decide +kernel
theorem dX10_init_14 : decode cX10_init 14 = .ok (.sipush 1600, 3) := by decide +kernel
theorem dX10_init_17 : decode cX10_init 17 = .ok (.newarray .int, 2) := by decide +kernel
theorem dX10_init_19 : decode cX10_init 19 = .ok (.putfield 13, 3) := by decide +kernel
theorem dX10_init_22 : decode cX10_init 22 = .ok (.aload_n 0, 1) := by decide +kernel
theorem dX10_init_23 : decode cX10_init 23 = .ok (.bipush 11, 2) := by decide +kernel
theorem dX10_init_25 : decode cX10_init 25 = .ok (.newarray .int, 2) := by decide +kernel
theorem dX10_init_27 : decode cX10_init 27 = .ok (.putfield 16, 3) := by decide +kernel
theorem dX10_init_30 : decode cX10_init 30 = .ok (.aload_n 0, 1) := by decide +kernel
theorem dX10_init_31 : decode cX10_init 31 = .ok (.bipush 12, 2) := by decide +kernel
theorem dX10_init_33 : decode cX10_init 33 = .ok (.newarray .int, 2) := by decide +kernel
theorem dX10_init_35 : decode cX10_init 35 = .ok (.putfield 19, 3) := by decide +kernel
theorem dX10_init_38 : decode cX10_init 38 = .ok (.aload_n 0, 1) := by decide +kernel
theorem dX10_init_39 : decode cX10_init 39 = .ok (.bipush 12, 2) := by decide +kernel
theorem dX10_init_41 : decode cX10_init 41 = .ok (.newarray .int, 2) := by decide +kernel
theorem dX10_init_43 : decode cX10_init 43 = .ok (.putfield 22, 3) := by decide +kernel
theorem dX10_init_46 : decode cX10_init 46 = .ok (.aload_n 0, 1) := by decide +kernel
theorem dX10_init_47 : decode cX10_init 47 = .ok (.bipush 12, 2) := by decide +kernel
theorem dX10_init_49 : decode cX10_init 49 = .ok (.newarray .int, 2) := by decide +kernel
theorem dX10_init_51 : decode cX10_init 51 = .ok (.putfield 25, 3) := by decide +kernel
theorem dX10_init_54 : decode cX10_init 54 = .ok (.aload_n 0, 1) := by decide +kernel
theorem dX10_init_55 : decode cX10_init 55 = .ok (.bipush 12, 2) := by decide +kernel
theorem dX10_init_57 : decode cX10_init 57 = .ok (.newarray .int, 2) := by decide +kernel
theorem dX10_init_59 : decode cX10_init 59 = .ok (.putfield 28, 3) := by decide +kernel
theorem dX10_init_62 : decode cX10_init 62 = .ok (.aload_n 0, 1) := by decide +kernel
theorem dX10_init_63 : decode cX10_init 63 = .ok (.bipush 12, 2) := by decide +kernel
theorem dX10_init_65 : decode cX10_init 65 = .ok (.newarray .int, 2) := by decide +kernel
theorem dX10_init_67 : decode cX10_init 67 = .ok (.putfield 31, 3) := by decide +kernel
theorem dX10_init_70 : decode cX10_init 70 = .ok (.aload_n 0, 1) := by decide +kernel
theorem dX10_init_71 : decode cX10_init 71 = .ok (.bipush 6, 2) := by decide +kernel
theorem dX10_init_73 : decode cX10_init 73 = .ok (.newarray .int, 2) := by decide +kernel
theorem dX10_init_75 : decode cX10_init 75 = .ok (.putfield 34, 3) := by decide +kernel
theorem dX10_init_78 : decode cX10_init 78 = .ok (.aload_n 0, 1) := by decide +kernel
theorem dX10_init_79 : decode cX10_init 79 = .ok (.bipush 6, 2) := by decide +kernel
theorem dX10_init_81 : decode cX10_init 81 = .ok (.newarray .int, 2) := by decide +kernel
theorem dX10_init_83 : decode cX10_init 83 = .ok (.putfield 37, 3) := by decide +kernel
theorem dX10_init_86 : decode cX10_init 86 = .ok (.aload_n 0, 1) := by decide +kernel
theorem dX10_init_87 : decode cX10_init 87 = .ok (.bipush 12, 2) := by decide +kernel
theorem dX10_init_89 : decode cX10_init 89 = .ok (.newarray .int, 2) := by decide +kernel
theorem dX10_init_91 : decode cX10_init 91 = .ok (.putfield 40, 3) := by decide +kernel
theorem dX10_init_94 : decode cX10_init 94 = .ok (.aload_n 0, 1) := by decide +kernel
theorem dX10_init_95 : decode cX10_init 95 = .ok (.bipush 12, 2) := by decide +kernel
theorem dX10_init_97 : decode cX10_init 97 = .ok (.newarray .int, 2) := by decide +kernel
theorem dX10_init_99 : decode cX10_init 99 = .ok (.putfield 43, 3) := by decide +kernel
theorem dX10_init_102 : decode cX10_init 102 = .ok (.aload_n 0, 1) := by decide +kernel
theorem dX10_init_103 : decode cX10_init 103 = .ok (.bipush 12, 2) := by decide +kernel
theorem dX10_init_105 : decode cX10_init 105 = .ok (.newarray .boolean, 2) := by decide +kernel
theorem dX10_init_107 : decode cX10_init 107 = .ok (.putfield 46, 3) := by decide +kernel
theorem dX10_init_110 : decode cX10_init 110 = .ok (.aload_n 0, 1) := by decide +kernel
theorem dX10_init_111 : decode cX10_init 111 = .ok (.bipush 6, 2) := by decide +kernel
theorem dX10_init_113 : decode cX10_init 113 = .ok (.newarray .int, 2) := by decide +kernel
theorem dX10_init_115 : decode cX10_init 115 = .ok (.putfield 50, 3) := by decide +kernel
theorem dX10_init_118 : decode cX10_init 118 = .ok (.aload_n 0, 1) := by decide +kernel
theorem dX10_init_119 : decode cX10_init 119 = .ok (.bipush 6, 2) := by decide +kernel
theorem dX10_init_121 : decode cX10_init 121 = .ok (.newarray .int, 2) := by decide +kernel
theorem dX10_init_123 : decode cX10_init 123 = .ok (.putfield 53, 3) := by decide +kernel
theorem dX10_init_126 : decode cX10_init 126 = .ok (.aload_n 0, 1) := by decide +kernel
theorem dX10_init_127 : decode cX10_init 127 = .ok (.bipush 6, 2) := by decide +kernel
theorem dX10_init_129 : decode cX10_init 129 = .ok (.newarray .int, 2) := by decide +kernel
theorem dX10_init_131 : decode cX10_init 131 = .ok (.putfield 56, 3) := by decide +kernel
theorem dX10_init_134 : decode cX10_init 134 = .ok (.aload_n 0, 1) := by decide +kernel
theorem dX10_init_135 : decode cX10_init 135 = .ok (.iconst 0, 1) := by decide +kernel
theorem dX10_init_136 : decode cX10_init 136 = .ok (.putfield 59, 3) := by decide +kernel
theorem dX10_init_139 : decode cX10_init 139 = .ok (.return_, 1) := by decide +kernel
theorem dX10_in_0 : decode cX10_in 0 = .ok (.iload_n 0, 1) := by decide +kernel
theorem dX10_in_1 : decode cX10_in 1 = .ok (.iload_n 1, 1) := by decide +kernel
theorem dX10_in_2 : decode cX10_in 2 = .ok (.if_icmp .lt 12, 3) := by decide +kernel
theorem dX10_in_5 : decode cX10_in 5 = .ok (.iload_n 0, 1) := by decide +kernel
theorem dX10_in_6 : decode cX10_in 6 = .ok (.iload_n 2, 1) := by decide +kernel
theorem dX10_in_7 : decode cX10_in 7 = .ok (.if_icmp .gt 7, 3) := by decide +kernel
theorem dX10_in_10 : decode cX10_in 10 = .ok (.iconst 1, 1) := by decide +kernel
theorem dX10_in_11 : decode cX10_in 11 = .ok (.goto 4, 3) := by decide +kernel
theorem dX10_in_14 : decode cX10_in 14 = .ok (.iconst 0, 1) := by decide +kernel
theorem dX10_in_15 : decode cX10_in 15 = .ok (.ireturn, 1) := by decide +kernel
theorem dX10_common_0 : decode cX10_common 0 = .ok (.lload_n 0, 1) := by decide +kernel
theorem dX10_common_1 : decode cX10_common 1 = .ok (.lconst 0, 1) := by decide +kernel
theorem dX10_common_2 : decode cX10_common 2 = .ok (.lcmp, 1) := by decide +kernel
theorem dX10_common_3 : decode cX10_common 3 = .ok (.ifCond .ge 8, 3) := by decide +kernel
theorem dX10_common_6 : decode cX10_common 6 = .ok (.lload_n 0, 1) := by decide +kernel
theorem dX10_common_7 : decode cX10_common 7 = .ok (.lneg, 1) := by decide +kernel
theorem dX10_common_8 : decode cX10_common 8 = .ok (.goto 4, 3) := by decide +kernel
theorem dX10_common_11 : decode cX10_common 11 = .ok (.lload_n 0, 1) := by decide +kernel
theorem dX10_common_12 : decode cX10_common 12 = .ok (.lstore 4, 2) := by decide +kernel
theorem dX10_common_14 : decode cX10_common 14 = .ok (.lload_n 2, 1) := by decide +kernel
theorem dX10_common_15 : decode cX10_common 15 = .ok (.lstore 6, 2) := by decide +kernel
theorem dX10_common_17 : decode cX10_common 17 = .ok (.lload 6, 2) := by decide +kernel
theorem dX10_common_19 : decode cX10_common 19 = .ok (.lconst 0, 1) := by decide +kernel
theorem dX10_common_20 : decode cX10_common 20 = .ok (.lcmp, 1) := by decide +kernel
theorem dX10_common_21 : decode cX10_common 21 = .ok (.ifCond .eq 21, 3) := by decide +kernel
theorem dX10_common_24 : decode cX10_common 24 = .ok (.lload 4, 2) := by decide +kernel
theorem dX10_common_26 : decode cX10_common 26 = .ok (.lload 6, 2) := by decide +kernel
theorem dX10_common_28 : decode cX10_common 28 = .ok (.lrem, 1) := by decide +kernel
theorem dX10_common_29 : decode cX10_common 29 = .ok (.lstore 8, 2) := by decide +kernel
theorem dX10_common_31 : decode cX10_common 31 = .ok (.lload 6, 2) := by decide +kernel
theorem dX10_common_33 : decode cX10_common 33 = .ok (.lstore 4, 2) := by decide +kernel
theorem dX10_common_35 : decode cX10_common 35 = .ok (.lload 8, 2) := by decide +kernel
theorem dX10_common_37 : decode cX10_common 37 = .ok (.lstore 6, 2) := by decide +kernel
theorem dX10_common_39 : decode cX10_common 39 = .ok (.goto (-22), 3) := by decide +kernel
theorem dX10_common_42 : decode cX10_common 42 = .ok (.lload 4, 2) := by decide +kernel
theorem dX10_common_44 : decode cX10_common 44 = .ok (.lreturn, 1) := by decide +kernel
set_option maxRecDepth 20000 in
theorem ggX10_least_X10_common : GoodIn wsX10_least wsX10_common := goodIn_r _ [6] (by decide +kernel) (by decide +kernel)
set_option maxRecDepth 20000 in
theorem gX10_least_X10_common : GoodIn wsX10_least (va_wsS RX10 63 yX10_common wsX10_common) := goodIn_app (goodIn_of _ (by decide +kernel)) ggX10_least_X10_common
theorem dX10_least_0 : decode cX10_least 0 = .ok (.lload_n 1, 1) := by decide +kernel
theorem dX10_least_1 : decode cX10_least 1 = .ok (.lload_n 3, 1) := by decide +kernel
theorem dX10_least_2 : decode cX10_least 2 = .ok (.invokestatic 63, 3) := by decide +kernel
theorem dX10_least_5 : decode cX10_least 5 = .ok (.lstore 5, 2) := by decide +kernel
theorem dX10_least_7 : decode cX10_least 7 = .ok (.aload_n 0, 1) := by decide +kernel
theorem dX10_least_8 : decode cX10_least 8 = .ok (.lload_n 1, 1) := by decide +kernel
theorem dX10_least_9 : decode cX10_least 9 = .ok (.lload 5, 2) := by decide +kernel
theorem dX10_least_11 : decode cX10_least 11 = .ok (.ldiv, 1) := by decide +kernel
theorem dX10_least_12 : decode cX10_least 12 = .ok (.putfield 67, 3) := by decide +kernel
theorem dX10_least_15 : decode cX10_least 15 = .ok (.aload_n 0, 1) := by decide +kernel
theorem dX10_least_16 : decode cX10_least 16 = .ok (.lload_n 3, 1) := by decide +kernel
theorem dX10_least_17 : decode cX10_least 17 = .ok (.lload 5, 2) := by decide +kernel
theorem dX10_least_19 : decode cX10_least 19 = .ok (.ldiv, 1) := by decide +kernel
theorem dX10_least_20 : decode cX10_least 20 = .ok (.putfield 71, 3) := by decide +kernel
theorem dX10_least_23 : decode cX10_least 23 = .ok (.return_, 1) := by decide +kernel
set_option maxRecDepth 20000 in
theorem ggX10_puts_X10_least : GoodIn wsX10_puts wsX10_least := goodIn_r _ [10, 2, 4, 11, 12, 9, 13, 14, 15, 16, 17, 18, 19, 20, 21, 22, 23, 24, 25, 26, 27, 28, 29, 30, 31, 32, 33, 34, 35, 36, 37] (by decide +kernel) (by decide +kernel)
set_option maxRecDepth 20000 in
theorem gX10_puts_X10_least : GoodIn wsX10_puts (wsV RX10 74 RX10 yX10_least wsX10_least) := goodIn_app (goodIn_of _ (by decide +kernel)) ggX10_puts_X10_least
theorem dX10_puts_0 : decode cX10_puts 0 = .ok (.aload_n 0, 1) := by decide +kernel
theorem dX10_puts_1 : decode cX10_puts 1 = .ok (.lload_n 2, 1) := by decide +kernel
theorem dX10_puts_2 : decode cX10_puts 2 = .ok (.lload 4, 2) := by decide +kernel
theorem dX10_puts_4 : decode cX10_puts 4 = .ok (.invokevirtual 74, 3) := by decide +kernel
theorem dX10_puts_7 : decode cX10_puts 7 = .ok (.aload_n 0, 1) := by decide +kernel
theorem dX10_puts_8 : decode cX10_puts 8 = .ok (.getfield 78, 3) := by decide +kernel
theorem dX10_puts_11 : decode cX10_puts 11 = .ok (.istore 6, 2) := by decide +kernel
theorem dX10_puts_13 : decode cX10_puts 13 = .ok (.iload 6, 2) := by decide +kernel
theorem dX10_puts_15 : decode cX10_puts 15 = .ok (.iload_n 1, 1) := by decide +kernel
theorem dX10_puts_16 : decode cX10_puts 16 = .ok (.if_icmp .le 43, 3) := by decide +kernel
theorem dX10_puts_19 : decode cX10_puts 19 = .ok (.aload_n 0, 1) := by decide +kernel
theorem dX10_puts_20 : decode cX10_puts 20 = .ok (.getfield 67, 3) := by decide +kernel
theorem dX10_puts_23 : decode cX10_puts 23 = .ok (.aload_n 0, 1) := by decide +kernel
theorem dX10_puts_24 : decode cX10_puts 24 = .ok (.getfield 13, 3) := by decide +kernel
theorem dX10_puts_27 : decode cX10_puts 27 = .ok (.iload 6, 2) := by decide +kernel
theorem dX10_puts_29 : decode cX10_puts 29 = .ok (.iconst 1, 1) := by decide +kernel
theorem dX10_puts_30 : decode cX10_puts 30 = .ok (.isub, 1) := by decide +kernel
theorem dX10_puts_31 : decode cX10_puts 31 = .ok (.iaload, 1) := by decide +kernel
theorem dX10_puts_32 : decode cX10_puts 32 = .ok (.i2l, 1) := by decide +kernel
theorem dX10_puts_33 : decode cX10_puts 33 = .ok (.lmul, 1) := by decide +kernel
theorem dX10_puts_34 : decode cX10_puts 34 = .ok (.aload_n 0, 1) := by decide +kernel
theorem dX10_puts_35 : decode cX10_puts 35 = .ok (.getfield 71, 3) := by decide +kernel
theorem dX10_puts_38 : decode cX10_puts 38 = .ok (.aload_n 0, 1) := by decide +kernel
theorem dX10_puts_39 : decode cX10_puts 39 = .ok (.getfield 7, 3) := by decide +kernel
theorem dX10_puts_42 : decode cX10_puts 42 = .ok (.iload 6, 2) := by decide +kernel
theorem dX10_puts_44 : decode cX10_puts 44 = .ok (.iconst 1, 1) := by decide +kernel
theorem dX10_puts_45 : decode cX10_puts 45 = .ok (.isub, 1) := by decide +kernel
theorem dX10_puts_46 : decode cX10_puts 46 = .ok (.iaload, 1) := by decide +kernel
theorem dX10_puts_47 : decode cX10_puts 47 = .ok (.i2l, 1) := by decide +kernel
theorem dX10_puts_48 : decode cX10_puts 48 = .ok (.lmul, 1) := by decide +kernel
theorem dX10_puts_49 : decode cX10_puts 49 = .ok (.lcmp, 1) := by decide +kernel
theorem dX10_puts_50 : decode cX10_puts 50 = .ok (.ifCond .ge 9, 3) := by decide +kernel
theorem dX10_puts_53 : decode cX10_puts 53 = .ok (.iinc 6 (-1), 3) := by decide +kernel
theorem dX10_puts_56 : decode cX10_puts 56 = .ok (.goto (-43), 3) := by decide +kernel
theorem dX10_puts_59 : decode cX10_puts 59 = .ok (.iload 6, 2) := by decide +kernel
theorem dX10_puts_61 : decode cX10_puts 61 = .ok (.iload_n 1, 1) := by decide +kernel
theorem dX10_puts_62 : decode cX10_puts 62 = .ok (.if_icmp .le 40, 3) := by decide +kernel
theorem dX10_puts_65 : decode cX10_puts 65 = .ok (.aload_n 0, 1) := by decide +kernel
theorem dX10_puts_66 : decode cX10_puts 66 = .ok (.getfield 67, 3) := by decide +kernel
theorem dX10_puts_69 : decode cX10_puts 69 = .ok (.aload_n 0, 1) := by decide +kernel
theorem dX10_puts_70 : decode cX10_puts 70 = .ok (.getfield 7, 3) := by decide +kernel
theorem dX10_puts_73 : decode cX10_puts 73 = .ok (.iload 6, 2) := by decide +kernel
theorem dX10_puts_75 : decode cX10_puts 75 = .ok (.iconst 1, 1) := by decide +kernel
theorem dX10_puts_76 : decode cX10_puts 76 = .ok (.isub, 1) := by decide +kernel
theorem dX10_puts_77 : decode cX10_puts 77 = .ok (.iaload, 1) := by decide +kernel
theorem dX10_puts_78 : decode cX10_puts 78 = .ok (.i2l, 1) := by decide +kernel
theorem dX10_puts_79 : decode cX10_puts 79 = .ok (.lcmp, 1) := by decide +kernel
theorem dX10_puts_80 : decode cX10_puts 80 = .ok (.ifCond .ne 22, 3) := by decide +kernel
theorem dX10_puts_83 : decode cX10_puts 83 = .ok (.aload_n 0, 1) := by decide +kernel
theorem dX10_puts_84 : decode cX10_puts 84 = .ok (.getfield 71, 3) := by decide +kernel
theorem dX10_puts_87 : decode cX10_puts 87 = .ok (.aload_n 0, 1) := by decide +kernel
theorem dX10_puts_88 : decode cX10_puts 88 = .ok (.getfield 13, 3) := by decide +kernel
theorem dX10_puts_91 : decode cX10_puts 91 = .ok (.iload 6, 2) := by decide +kernel
theorem dX10_puts_93 : decode cX10_puts 93 = .ok (.iconst 1, 1) := by decide +kernel
theorem dX10_puts_94 : decode cX10_puts 94 = .ok (.isub, 1) := by decide +kernel
theorem dX10_puts_95 : decode cX10_puts 95 = .ok (.iaload, 1) := by decide +kernel
theorem dX10_puts_96 : decode cX10_puts 96 = .ok (.i2l, 1) := by decide +kernel
theorem dX10_puts_97 : decode cX10_puts 97 = .ok (.lcmp, 1) := by decide +kernel
theorem dX10_puts_98 : decode cX10_puts 98 = .ok (.ifCond .ne 4, 3) := by decide +kernel
theorem dX10_puts_101 : decode cX10_puts 101 = .ok (.return_, 1) := by decide +kernel
theorem dX10_puts_102 : decode cX10_puts 102 = .ok (.aload_n 0, 1) := by decide +kernel
theorem dX10_puts_103 : decode cX10_puts 103 = .ok (.getfield 78, 3) := by decide +kernel
theorem dX10_puts_106 : decode cX10_puts 106 = .ok (.istore 7, 2) := by decide +kernel
theorem dX10_puts_108 : decode cX10_puts 108 = .ok (.iload 7, 2) := by decide +kernel
theorem dX10_puts_110 : decode cX10_puts 110 = .ok (.iload 6, 2) := by decide +kernel
theorem dX10_puts_112 : decode cX10_puts 112 = .ok (.if_icmp .le 41, 3) := by decide +kernel
theorem dX10_puts_115 : decode cX10_puts 115 = .ok (.aload_n 0, 1) := by decide +kernel
theorem dX10_puts_116 : decode cX10_puts 116 = .ok (.getfield 7, 3) := by decide +kernel
theorem dX10_puts_119 : decode cX10_puts 119 = .ok (.iload 7, 2) := by decide +kernel
theorem dX10_puts_121 : decode cX10_puts 121 = .ok (.aload_n 0, 1) := by decide +kernel
theorem dX10_puts_122 : decode cX10_puts 122 = .ok (.getfield 7, 3) := by decide +kernel
theorem dX10_puts_125 : decode cX10_puts 125 = .ok (.iload 7, 2) := by decide +kernel
theorem dX10_puts_127 : decode cX10_puts 127 = .ok (.iconst 1, 1) := by decide +kernel
theorem dX10_puts_128 : decode cX10_puts 128 = .ok (.isub, 1) := by decide +kernel
theorem dX10_puts_129 : decode cX10_puts 129 = .ok (.iaload, 1) := by decide +kernel
theorem dX10_puts_130 : decode cX10_puts 130 = .ok (.iastore, 1) := by decide +kernel
theorem dX10_puts_131 : decode cX10_puts 131 = .ok (.aload_n 0, 1) := by decide +kernel
theorem dX10_puts_132 : decode cX10_puts 132 = .ok (.getfield 13, 3) := by decide +kernel
theorem dX10_puts_135 : decode cX10_puts 135 = .ok (.iload 7, 2) := by decide +kernel
theorem dX10_puts_137 : decode cX10_puts 137 = .ok (.aload_n 0, 1) := by decide +kernel
theorem dX10_puts_138 : decode cX10_puts 138 = .ok (.getfield 13, 3) := by decide +kernel
theorem dX10_puts_141 : decode cX10_puts 141 = .ok (.iload 7, 2) := by decide +kernel
theorem dX10_puts_143 : decode cX10_puts 143 = .ok (.iconst 1, 1) := by decide +kernel
theorem dX10_puts_144 : decode cX10_puts 144 = .ok (.isub, 1) := by decide +kernel
theorem dX10_puts_145 : decode cX10_puts 145 = .ok (.iaload, 1) := by decide +kernel
theorem dX10_puts_146 : decode cX10_puts 146 = .ok (.iastore, 1) := by decide +kernel
theorem dX10_puts_147 : decode cX10_puts 147 = .ok (.iinc 7 (-1), 3) := by decide +kernel
theorem dX10_puts_150 : decode cX10_puts 150 = .ok (.goto (-42), 3) := by decide +kernel
theorem dX10_puts_153 : decode cX10_puts 153 = .ok (.aload_n 0, 1) := by decide +kernel
theorem dX10_puts_154 : decode cX10_puts 154 = .ok (.getfield 7, 3) := by decide +kernel
theorem dX10_puts_157 : decode cX10_puts 157 = .ok (.iload 6, 2) := by decide +kernel
theorem dX10_puts_159 : decode cX10_puts 159 = .ok (.aload_n 0, 1) := by decide +kernel
theorem dX10_puts_160 : decode cX10_puts 160 = .ok (.getfield 67, 3) := by decide +kernel
theorem dX10_puts_163 : decode cX10_puts 163 = .ok (.l2i, 1) := by decide +kernel
theorem dX10_puts_164 : decode cX10_puts 164 = .ok (.iastore, 1) := by decide +kernel
theorem dX10_puts_165 : decode cX10_puts 165 = .ok (.aload_n 0, 1) := by decide +kernel
theorem dX10_puts_166 : decode cX10_puts 166 = .ok (.getfield 13, 3) := by decide +kernel
theorem dX10_puts_169 : decode cX10_puts 169 = .ok (.iload 6, 2) := by decide +kernel
theorem dX10_puts_171 : decode cX10_puts 171 = .ok (.aload_n 0, 1) := by decide +kernel
theorem dX10_puts_172 : decode cX10_puts 172 = .ok (.getfield 71, 3) := by decide +kernel
theorem dX10_puts_175 : decode cX10_puts 175 = .ok (.l2i, 1) := by decide +kernel
theorem dX10_puts_176 : decode cX10_puts 176 = .ok (.iastore, 1) := by decide +kernel
theorem dX10_puts_177 : decode cX10_puts 177 = .ok (.aload_n 0, 1) := by decide +kernel
theorem dX10_puts_178 : decode cX10_puts 178 = .ok (.dup, 1) := by decide +kernel
theorem dX10_puts_179 : decode cX10_puts 179 = .ok (.getfield 78, 3) := by decide +kernel
theorem dX10_puts_182 : decode cX10_puts 182 = .ok (.iconst 1, 1) := by decide +kernel
theorem dX10_puts_183 : decode cX10_puts 183 = .ok (.iadd, 1) := by decide +kernel
theorem dX10_puts_184 : decode cX10_puts 184 = .ok (.putfield 78, 3) := by decide +kernel
theorem dX10_puts_187 : decode cX10_puts 187 = .ok (.return_, 1) := by decide +kernel
set_option maxRecDepth 20000 in
theorem ggX10_needShares_X10_puts : GoodIn wsX10_needShares wsX10_puts := goodIn_r _ [10, 2, 11, 5, 12, 4, 13, 14, 15, 9, 16, 17, 18, 19, 20, 21, 22, 23, 24, 25, 26, 27, 28, 29, 30, 31, 32, 33, 34, 35, 36, 37, 38, 39, 40, 41, 42, 43] (by decide +kernel) (by decide +kernel)
set_option maxRecDepth 20000 in
theorem gX10_needShares_X10_puts : GoodIn wsX10_needShares (wsV RX10 85 RX10 yX10_puts wsX10_puts) := goodIn_app (goodIn_of _ (by decide +kernel)) ggX10_needShares_X10_puts
theorem dX10_needShares_0 : decode cX10_needShares 0 = .ok (.aload_n 0, 1) := by decide +kernel
theorem dX10_needShares_1 : decode cX10_needShares 1 = .ok (.getfield 81, 3) := by decide +kernel
theorem dX10_needShares_4 : decode cX10_needShares 4 = .ok (.ifCond .eq 4, 3) := by decide +kernel
theorem dX10_needShares_7 : decode cX10_needShares 7 = .ok (.return_, 1) := by decide +kernel
theorem dX10_needShares_8 : decode cX10_needShares 8 = .ok (.aload_n 0, 1) := by decide +kernel
theorem dX10_needShares_9 : decode cX10_needShares 9 = .ok (.iconst 1, 1) := by decide +kernel
theorem dX10_needShares_10 : decode cX10_needShares 10 = .ok (.putfield 81, 3) := by decide +kernel
theorem dX10_needShares_13 : decode cX10_needShares 13 = .ok (.aload_n 0, 1) := by decide +kernel
theorem dX10_needShares_14 : decode cX10_needShares 14 = .ok (.iconst 0, 1) := by decide +kernel
theorem dX10_needShares_15 : decode cX10_needShares 15 = .ok (.putfield 78, 3) := by decide +kernel
theorem dX10_needShares_18 : decode cX10_needShares 18 = .ok (.iconst 1, 1) := by decide +kernel
theorem dX10_needShares_19 : decode cX10_needShares 19 = .ok (.istore_n 1, 1) := by decide +kernel
theorem dX10_needShares_20 : decode cX10_needShares 20 = .ok (.iload_n 1, 1) := by decide +kernel
theorem dX10_needShares_21 : decode cX10_needShares 21 = .ok (.bipush 9, 2) := by decide +kernel
theorem dX10_needShares_23 : decode cX10_needShares 23 = .ok (.if_icmp .gt 205, 3) := by decide +kernel
theorem dX10_needShares_26 : decode cX10_needShares 26 = .ok (.aload_n 0, 1) := by decide +kernel
theorem dX10_needShares_27 : decode cX10_needShares 27 = .ok (.getfield 16, 3) := by decide +kernel
theorem dX10_needShares_30 : decode cX10_needShares 30 = .ok (.iload_n 1, 1) := by decide +kernel
theorem dX10_needShares_31 : decode cX10_needShares 31 = .ok (.aload_n 0, 1) := by decide +kernel
theorem dX10_needShares_32 : decode cX10_needShares 32 = .ok (.getfield 78, 3) := by decide +kernel
theorem dX10_needShares_35 : decode cX10_needShares 35 = .ok (.iastore, 1) := by decide +kernel
theorem dX10_needShares_36 : decode cX10_needShares 36 = .ok (.iload_n 1, 1) := by decide +kernel
theorem dX10_needShares_37 : decode cX10_needShares 37 = .ok (.iconst 1, 1) := by decide +kernel
theorem dX10_needShares_38 : decode cX10_needShares 38 = .ok (.if_icmp .ne 10, 3) := by decide +kernel
theorem dX10_needShares_41 : decode cX10_needShares 41 = .ok (.aload_n 0, 1) := by decide +kernel
theorem dX10_needShares_42 : decode cX10_needShares 42 = .ok (.iconst 0, 1) := by decide +kernel
theorem dX10_needShares_43 : decode cX10_needShares 43 = .ok (.lconst 1, 1) := by decide +kernel
theorem dX10_needShares_44 : decode cX10_needShares 44 = .ok (.lconst 1, 1) := by decide +kernel
theorem dX10_needShares_45 : decode cX10_needShares 45 = .ok (.invokevirtual 85, 3) := by decide +kernel
theorem dX10_needShares_48 : decode cX10_needShares 48 = .ok (.iconst 1, 1) := by decide +kernel
theorem dX10_needShares_49 : decode cX10_needShares 49 = .ok (.istore_n 2, 1) := by decide +kernel
theorem dX10_needShares_50 : decode cX10_needShares 50 = .ok (.iconst 2, 1) := by decide +kernel
theorem dX10_needShares_51 : decode cX10_needShares 51 = .ok (.iload_n 2, 1) := by decide +kernel
theorem dX10_needShares_52 : decode cX10_needShares 52 = .ok (.imul, 1) := by decide +kernel
theorem dX10_needShares_53 : decode cX10_needShares 53 = .ok (.iload_n 1, 1) := by decide +kernel
theorem dX10_needShares_54 : decode cX10_needShares 54 = .ok (.if_icmp .gt 156, 3) := by decide +kernel
theorem dX10_needShares_57 : decode cX10_needShares 57 = .ok (.aload_n 0, 1) := by decide +kernel
theorem dX10_needShares_58 : decode cX10_needShares 58 = .ok (.getfield 16, 3) := by decide +kernel
theorem dX10_needShares_61 : decode cX10_needShares 61 = .ok (.iload_n 2, 1) := by decide +kernel
theorem dX10_needShares_62 : decode cX10_needShares 62 = .ok (.iaload, 1) := by decide +kernel
theorem dX10_needShares_63 : decode cX10_needShares 63 = .ok (.istore_n 3, 1) := by decide +kernel
theorem dX10_needShares_64 : decode cX10_needShares 64 = .ok (.iload_n 3, 1) := by decide +kernel
theorem dX10_needShares_65 : decode cX10_needShares 65 = .ok (.aload_n 0, 1) := by decide +kernel
theorem dX10_needShares_66 : decode cX10_needShares 66 = .ok (.getfield 16, 3) := by decide +kernel
theorem dX10_needShares_69 : decode cX10_needShares 69 = .ok (.iload_n 2, 1) := by decide +kernel
theorem dX10_needShares_70 : decode cX10_needShares 70 = .ok (.iconst 1, 1) := by decide +kernel
theorem dX10_needShares_71 : decode cX10_needShares 71 = .ok (.iadd, 1) := by decide +kernel
theorem dX10_needShares_72 : decode cX10_needShares 72 = .ok (.iaload, 1) := by decide +kernel
theorem dX10_needShares_73 : decode cX10_needShares 73 = .ok (.if_icmp .ge 131, 3) := by decide +kernel
theorem dX10_needShares_76 : decode cX10_needShares 76 = .ok (.aload_n 0, 1) := by decide +kernel
theorem dX10_needShares_77 : decode cX10_needShares 77 = .ok (.getfield 16, 3) := by decide +kernel
theorem dX10_needShares_80 : decode cX10_needShares 80 = .ok (.iload_n 1, 1) := by decide +kernel
theorem dX10_needShares_81 : decode cX10_needShares 81 = .ok (.iload_n 2, 1) := by decide +kernel
theorem dX10_needShares_82 : decode cX10_needShares 82 = .ok (.isub, 1) := by decide +kernel
theorem dX10_needShares_83 : decode cX10_needShares 83 = .ok (.iaload, 1) := by decide +kernel
theorem dX10_needShares_84 : decode cX10_needShares 84 = .ok (.istore 4, 2) := by decide +kernel
theorem dX10_needShares_86 : decode cX10_needShares 86 = .ok (.iload 4, 2) := by decide +kernel
theorem dX10_needShares_88 : decode cX10_needShares 88 = .ok (.aload_n 0, 1) := by decide +kernel
theorem dX10_needShares_89 : decode cX10_needShares 89 = .ok (.getfield 16, 3) := by decide +kernel
theorem dX10_needShares_92 : decode cX10_needShares 92 = .ok (.iload_n 1, 1) := by decide +kernel
theorem dX10_needShares_93 : decode cX10_needShares 93 = .ok (.iload_n 2, 1) := by decide +kernel
theorem dX10_needShares_94 : decode cX10_needShares 94 = .ok (.isub, 1) := by decide +kernel
theorem dX10_needShares_95 : decode cX10_needShares 95 = .ok (.iconst 1, 1) := by decide +kernel
theorem dX10_needShares_96 : decode cX10_needShares 96 = .ok (.iadd, 1) := by decide +kernel
theorem dX10_needShares_97 : decode cX10_needShares 97 = .ok (.iaload, 1) := by decide +kernel
theorem dX10_needShares_98 : decode cX10_needShares 98 = .ok (.if_icmp .ge 100, 3) := by decide +kernel
theorem dX10_needShares_101 : decode cX10_needShares 101 = .ok (.aload_n 0, 1) := by decide +kernel
theorem dX10_needShares_102 : decode cX10_needShares 102 = .ok (.getfield 7, 3) := by decide +kernel
theorem dX10_needShares_105 : decode cX10_needShares 105 = .ok (.iload_n 3, 1) := by decide +kernel
theorem dX10_needShares_106 : decode cX10_needShares 106 = .ok (.iaload, 1) := by decide +kernel
theorem dX10_needShares_107 : decode cX10_needShares 107 = .ok (.i2l, 1) := by decide +kernel
theorem dX10_needShares_108 : decode cX10_needShares 108 = .ok (.aload_n 0, 1) := by decide +kernel
theorem dX10_needShares_109 : decode cX10_needShares 109 = .ok (.getfield 13, 3) := by decide +kernel
theorem dX10_needShares_112 : decode cX10_needShares 112 = .ok (.iload 4, 2) := by decide +kernel
theorem dX10_needShares_114 : decode cX10_needShares 114 = .ok (.iaload, 1) := by decide +kernel
theorem dX10_needShares_115 : decode cX10_needShares 115 = .ok (.i2l, 1) := by decide +kernel
theorem dX10_needShares_116 : decode cX10_needShares 116 = .ok (.lmul, 1) := by decide +kernel
theorem dX10_needShares_117 : decode cX10_needShares 117 = .ok (.aload_n 0, 1) := by decide +kernel
theorem dX10_needShares_118 : decode cX10_needShares 118 = .ok (.getfield 7, 3) := by decide +kernel
theorem dX10_needShares_121 : decode cX10_needShares 121 = .ok (.iload 4, 2) := by decide +kernel
theorem dX10_needShares_123 : decode cX10_needShares 123 = .ok (.iaload, 1) := by decide +kernel
theorem dX10_needShares_124 : decode cX10_needShares 124 = .ok (.i2l, 1) := by decide +kernel
theorem dX10_needShares_125 : decode cX10_needShares 125 = .ok (.aload_n 0, 1) := by decide +kernel
theorem dX10_needShares_126 : decode cX10_needShares 126 = .ok (.getfield 13, 3) := by decide +kernel
theorem dX10_needShares_129 : decode cX10_needShares 129 = .ok (.iload_n 3, 1) := by decide +kernel
theorem dX10_needShares_130 : decode cX10_needShares 130 = .ok (.iaload, 1) := by decide +kernel
theorem dX10_needShares_131 : decode cX10_needShares 131 = .ok (.i2l, 1) := by decide +kernel
theorem dX10_needShares_132 : decode cX10_needShares 132 = .ok (.lmul, 1) := by decide +kernel
theorem dX10_needShares_133 : decode cX10_needShares 133 = .ok (.ladd, 1) := by decide +kernel
theorem dX10_needShares_134 : decode cX10_needShares 134 = .ok (.lstore 5, 2) := by decide +kernel
theorem dX10_needShares_136 : decode cX10_needShares 136 = .ok (.aload_n 0, 1) := by decide +kernel
theorem dX10_needShares_137 : decode cX10_needShares 137 = .ok (.aload_n 0, 1) := by decide +kernel
theorem dX10_needShares_138 : decode cX10_needShares 138 = .ok (.getfield 16, 3) := by decide +kernel
theorem dX10_needShares_141 : decode cX10_needShares 141 = .ok (.iload_n 1, 1) := by decide +kernel
theorem dX10_needShares_142 : decode cX10_needShares 142 = .ok (.iaload, 1) := by decide +kernel
theorem dX10_needShares_143 : decode cX10_needShares 143 = .ok (.lload 5, 2) := by decide +kernel
theorem dX10_needShares_145 : decode cX10_needShares 145 = .ok (.aload_n 0, 1) := by decide +kernel
theorem dX10_needShares_146 : decode cX10_needShares 146 = .ok (.getfield 13, 3) := by decide +kernel
theorem dX10_needShares_149 : decode cX10_needShares 149 = .ok (.iload_n 3, 1) := by decide +kernel
theorem dX10_needShares_150 : decode cX10_needShares 150 = .ok (.iaload, 1) := by decide +kernel
theorem dX10_needShares_151 : decode cX10_needShares 151 = .ok (.i2l, 1) := by decide +kernel
theorem dX10_needShares_152 : decode cX10_needShares 152 = .ok (.aload_n 0, 1) := by decide +kernel
theorem dX10_needShares_153 : decode cX10_needShares 153 = .ok (.getfield 13, 3) := by decide +kernel
theorem dX10_needShares_156 : decode cX10_needShares 156 = .ok (.iload 4, 2) := by decide +kernel
theorem dX10_needShares_158 : decode cX10_needShares 158 = .ok (.iaload, 1) := by decide +kernel
theorem dX10_needShares_159 : decode cX10_needShares 159 = .ok (.i2l, 1) := by decide +kernel
theorem dX10_needShares_160 : decode cX10_needShares 160 = .ok (.lmul, 1) := by decide +kernel
theorem dX10_needShares_161 : decode cX10_needShares 161 = .ok (.invokevirtual 85, 3) := by decide +kernel
theorem dX10_needShares_164 : decode cX10_needShares 164 = .ok (.aload_n 0, 1) := by decide +kernel
theorem dX10_needShares_165 : decode cX10_needShares 165 = .ok (.aload_n 0, 1) := by decide +kernel
theorem dX10_needShares_166 : decode cX10_needShares 166 = .ok (.getfield 16, 3) := by decide +kernel
theorem dX10_needShares_169 : decode cX10_needShares 169 = .ok (.iload_n 1, 1) := by decide +kernel
theorem dX10_needShares_170 : decode cX10_needShares 170 = .ok (.iaload, 1) := by decide +kernel
theorem dX10_needShares_171 : decode cX10_needShares 171 = .ok (.aload_n 0, 1) := by decide +kernel
theorem dX10_needShares_172 : decode cX10_needShares 172 = .ok (.getfield 7, 3) := by decide +kernel
theorem dX10_needShares_175 : decode cX10_needShares 175 = .ok (.iload_n 3, 1) := by decide +kernel
theorem dX10_needShares_176 : decode cX10_needShares 176 = .ok (.iaload, 1) := by decide +kernel
theorem dX10_needShares_177 : decode cX10_needShares 177 = .ok (.i2l, 1) := by decide +kernel
theorem dX10_needShares_178 : decode cX10_needShares 178 = .ok (.aload_n 0, 1) := by decide +kernel
theorem dX10_needShares_179 : decode cX10_needShares 179 = .ok (.getfield 7, 3) := by decide +kernel
theorem dX10_needShares_182 : decode cX10_needShares 182 = .ok (.iload 4, 2) := by decide +kernel
theorem dX10_needShares_184 : decode cX10_needShares 184 = .ok (.iaload, 1) := by decide +kernel
theorem dX10_needShares_185 : decode cX10_needShares 185 = .ok (.i2l, 1) := by decide +kernel
theorem dX10_needShares_186 : decode cX10_needShares 186 = .ok (.lmul, 1) := by decide +kernel
theorem dX10_needShares_187 : decode cX10_needShares 187 = .ok (.lload 5, 2) := by decide +kernel
theorem dX10_needShares_189 : decode cX10_needShares 189 = .ok (.invokevirtual 85, 3) := by decide +kernel
theorem dX10_needShares_192 : decode cX10_needShares 192 = .ok (.iinc 4 1, 3) := by decide +kernel
theorem dX10_needShares_195 : decode cX10_needShares 195 = .ok (.goto (-109), 3) := by decide +kernel
theorem dX10_needShares_198 : decode cX10_needShares 198 = .ok (.iinc 3 1, 3) := by decide +kernel
theorem dX10_needShares_201 : decode cX10_needShares 201 = .ok (.goto (-137), 3) := by decide +kernel
theorem dX10_needShares_204 : decode cX10_needShares 204 = .ok (.iinc 2 1, 3) := by decide +kernel
theorem dX10_needShares_207 : decode cX10_needShares 207 = .ok (.goto (-157), 3) := by decide +kernel
theorem dX10_needShares_210 : decode cX10_needShares 210 = .ok (.aload_n 0, 1) := by decide +kernel
theorem dX10_needShares_211 : decode cX10_needShares 211 = .ok (.getfield 16, 3) := by decide +kernel
theorem dX10_needShares_214 : decode cX10_needShares 214 = .ok (.iload_n 1, 1) := by decide +kernel
theorem dX10_needShares_215 : decode cX10_needShares 215 = .ok (.iconst 1, 1) := by decide +kernel
theorem dX10_needShares_216 : decode cX10_needShares 216 = .ok (.iadd, 1) := by decide +kernel
theorem dX10_needShares_217 : decode cX10_needShares 217 = .ok (.aload_n 0, 1) := by decide +kernel
theorem dX10_needShares_218 : decode cX10_needShares 218 = .ok (.getfield 78, 3) := by decide +kernel
theorem dX10_needShares_221 : decode cX10_needShares 221 = .ok (.iastore, 1) := by decide +kernel
theorem dX10_needShares_222 : decode cX10_needShares 222 = .ok (.iinc 1 1, 3) := by decide +kernel
theorem dX10_needShares_225 : decode cX10_needShares 225 = .ok (.goto (-205), 3) := by decide +kernel
theorem dX10_needShares_228 : decode cX10_needShares 228 = .ok (.return_, 1) := by decide +kernel
set_option maxRecDepth 20000 in
theorem ggX10_isParts_X10_in : GoodIn wsX10_isParts wsX10_in := goodIn_r _ [4] (by decide +kernel) (by decide +kernel)
set_option maxRecDepth 20000 in
theorem gX10_isParts_X10_in : GoodIn wsX10_isParts (va_wsS RX10 89 yX10_in wsX10_in) := goodIn_app (goodIn_of _ (by decide +kernel)) ggX10_isParts_X10_in
theorem dX10_isParts_0 : decode cX10_isParts 0 = .ok (.iload_n 0, 1) := by decide +kernel
theorem dX10_isParts_1 : decode cX10_isParts 1 = .ok (.iconst 1, 1) := by decide +kernel
theorem dX10_isParts_2 : decode cX10_isParts 2 = .ok (.bipush 9, 2) := by decide +kernel
theorem dX10_isParts_4 : decode cX10_isParts 4 = .ok (.invokestatic 89, 3) := by decide +kernel
theorem dX10_isParts_7 : decode cX10_isParts 7 = .ok (.ireturn, 1) := by decide +kernel
set_option maxRecDepth 20000 in
theorem ggX10_countOf_X10_needShares : GoodIn wsX10_countOf wsX10_needShares := goodIn_r _ [6, 7, 8, 1, 9, 10, 11, 12, 13, 5, 14, 15, 16, 17, 18, 19, 20, 21, 22, 23, 24, 25, 26, 27, 28, 29, 30, 31, 32, 33, 34, 35, 36, 37, 38, 39, 40, 41, 42, 43, 44, 45, 46, 47] (by decide +kernel) (by decide +kernel)
set_option maxRecDepth 20000 in
theorem gX10_countOf_X10_needShares : GoodIn wsX10_countOf (wsV RX10 93 RX10 yX10_needShares wsX10_needShares) := goodIn_app (goodIn_of _ (by decide +kernel)) ggX10_countOf_X10_needShares
theorem dX10_countOf_0 : decode cX10_countOf 0 = .ok (.aload_n 0, 1) := by decide +kernel
theorem dX10_countOf_1 : decode cX10_countOf 1 = .ok (.invokevirtual 93, 3) := by decide +kernel
theorem dX10_countOf_4 : decode cX10_countOf 4 = .ok (.aload_n 0, 1) := by decide +kernel
theorem dX10_countOf_5 : decode cX10_countOf 5 = .ok (.getfield 16, 3) := by decide +kernel
theorem dX10_countOf_8 : decode cX10_countOf 8 = .ok (.iload_n 1, 1) := by decide +kernel
theorem dX10_countOf_9 : decode cX10_countOf 9 = .ok (.iconst 1, 1) := by decide +kernel
theorem dX10_countOf_10 : decode cX10_countOf 10 = .ok (.iadd, 1) := by decide +kernel
theorem dX10_countOf_11 : decode cX10_countOf 11 = .ok (.iaload, 1) := by decide +kernel
theorem dX10_countOf_12 : decode cX10_countOf 12 = .ok (.aload_n 0, 1) := by decide +kernel
theorem dX10_countOf_13 : decode cX10_countOf 13 = .ok (.getfield 16, 3) := by decide +kernel
theorem dX10_countOf_16 : decode cX10_countOf 16 = .ok (.iload_n 1, 1) := by decide +kernel
theorem dX10_countOf_17 : decode cX10_countOf 17 = .ok (.iaload, 1) := by decide +kernel
theorem dX10_countOf_18 : decode cX10_countOf 18 = .ok (.isub, 1) := by decide +kernel
theorem dX10_countOf_19 : decode cX10_countOf 19 = .ok (.ireturn, 1) := by decide +kernel
set_option maxRecDepth 20000 in
theorem ggX10_isShare_X10_isParts : GoodIn wsX10_isShare wsX10_isParts := goodIn_r _ [4, 5, 6, 3, 7] (by decide +kernel) (by decide +kernel)
set_option maxRecDepth 20000 in
theorem gX10_isShare_X10_isParts : GoodIn wsX10_isShare (va_wsS RX10 96 yX10_isParts wsX10_isParts) := goodIn_app (goodIn_of _ (by decide +kernel)) ggX10_isShare_X10_isParts
set_option maxRecDepth 20000 in
theorem ggX10_isShare_X10_countOf : GoodIn wsX10_isShare wsX10_countOf := goodIn_r _ [11, 12, 13, 14, 15, 3, 16, 17, 18, 19, 20, 21, 22, 23, 24, 25, 26, 27, 28, 29, 30, 31, 32, 33, 34, 35, 36, 37, 38, 39, 40, 41, 42, 43, 44, 45, 46, 47, 48, 49, 50, 51, 52, 53, 54, 55, 56, 57] (by decide +kernel) (by decide +kernel)
set_option maxRecDepth 20000 in
theorem gX10_isShare_X10_countOf : GoodIn wsX10_isShare (wsV RX10 100 RX10 yX10_countOf wsX10_countOf) := goodIn_app (goodIn_of _ (by decide +kernel)) ggX10_isShare_X10_countOf
set_option maxRecDepth 20000 in
theorem ggX10_isShare_X10_in : GoodIn wsX10_isShare wsX10_in := goodIn_r _ [7] (by decide +kernel) (by decide +kernel)
set_option maxRecDepth 20000 in
theorem gX10_isShare_X10_in : GoodIn wsX10_isShare (va_wsS RX10 89 yX10_in wsX10_in) := goodIn_app (goodIn_of _ (by decide +kernel)) ggX10_isShare_X10_in
theorem dX10_isShare_0 : decode cX10_isShare 0 = .ok (.iload_n 1, 1) := by decide +kernel
theorem dX10_isShare_1 : decode cX10_isShare 1 = .ok (.invokestatic 96, 3) := by decide +kernel
theorem dX10_isShare_4 : decode cX10_isShare 4 = .ok (.ifCond .eq 22, 3) := by decide +kernel
theorem dX10_isShare_7 : decode cX10_isShare 7 = .ok (.iload_n 2, 1) := by decide +kernel
theorem dX10_isShare_8 : decode cX10_isShare 8 = .ok (.iconst 0, 1) := by decide +kernel
theorem dX10_isShare_9 : decode cX10_isShare 9 = .ok (.aload_n 0, 1) := by decide +kernel
theorem dX10_isShare_10 : decode cX10_isShare 10 = .ok (.iload_n 1, 1) := by decide +kernel
theorem dX10_isShare_11 : decode cX10_isShare 11 = .ok (.invokevirtual 100, 3) := by decide +kernel
theorem dX10_isShare_14 : decode cX10_isShare 14 = .ok (.iconst 1, 1) := by decide +kernel
theorem dX10_isShare_15 : decode cX10_isShare 15 = .ok (.isub, 1) := by decide +kernel
theorem dX10_isShare_16 : decode cX10_isShare 16 = .ok (.invokestatic 89, 3) := by decide +kernel
theorem dX10_isShare_19 : decode cX10_isShare 19 = .ok (.ifCond .eq 7, 3) := by decide +kernel
theorem dX10_isShare_22 : decode cX10_isShare 22 = .ok (.iconst 1, 1) := by decide +kernel
theorem dX10_isShare_23 : decode cX10_isShare 23 = .ok (.goto 4, 3) := by decide +kernel
theorem dX10_isShare_26 : decode cX10_isShare 26 = .ok (.iconst 0, 1) := by decide +kernel
theorem dX10_isShare_27 : decode cX10_isShare 27 = .ok (.ireturn, 1) := by decide +kernel
set_option maxRecDepth 20000 in
theorem ggX10_rankOf_X10_needShares : GoodIn wsX10_rankOf wsX10_needShares := goodIn_r _ [8, 9, 10, 1, 3, 2, 11, 12, 13, 7, 14, 15, 16, 17, 18, 19, 20, 21, 22, 23, 24, 25, 26, 27, 28, 29, 30, 31, 32, 33, 34, 35, 36, 37, 38, 39, 40, 41, 42, 43, 44, 45, 46, 47] (by decide +kernel) (by decide +kernel)
set_option maxRecDepth 20000 in
theorem gX10_rankOf_X10_needShares : GoodIn wsX10_rankOf (wsV RX10 93 RX10 yX10_needShares wsX10_needShares) := goodIn_app (goodIn_of _ (by decide +kernel)) ggX10_rankOf_X10_needShares
theorem dX10_rankOf_0 : decode cX10_rankOf 0 = .ok (.aload_n 0, 1) := by decide +kernel
theorem dX10_rankOf_1 : decode cX10_rankOf 1 = .ok (.invokevirtual 93, 3) := by decide +kernel
theorem dX10_rankOf_4 : decode cX10_rankOf 4 = .ok (.aload_n 0, 1) := by decide +kernel
theorem dX10_rankOf_5 : decode cX10_rankOf 5 = .ok (.getfield 16, 3) := by decide +kernel
theorem dX10_rankOf_8 : decode cX10_rankOf 8 = .ok (.iload_n 1, 1) := by decide +kernel
theorem dX10_rankOf_9 : decode cX10_rankOf 9 = .ok (.iaload, 1) := by decide +kernel
theorem dX10_rankOf_10 : decode cX10_rankOf 10 = .ok (.istore 6, 2) := by decide +kernel
theorem dX10_rankOf_12 : decode cX10_rankOf 12 = .ok (.iload 6, 2) := by decide +kernel
theorem dX10_rankOf_14 : decode cX10_rankOf 14 = .ok (.aload_n 0, 1) := by decide +kernel
theorem dX10_rankOf_15 : decode cX10_rankOf 15 = .ok (.getfield 16, 3) := by decide +kernel
theorem dX10_rankOf_18 : decode cX10_rankOf 18 = .ok (.iload_n 1, 1) := by decide +kernel
theorem dX10_rankOf_19 : decode cX10_rankOf 19 = .ok (.iconst 1, 1) := by decide +kernel
theorem dX10_rankOf_20 : decode cX10_rankOf 20 = .ok (.iadd, 1) := by decide +kernel
theorem dX10_rankOf_21 : decode cX10_rankOf 21 = .ok (.iaload, 1) := by decide +kernel
theorem dX10_rankOf_22 : decode cX10_rankOf 22 = .ok (.if_icmp .ge 44, 3) := by decide +kernel
theorem dX10_rankOf_25 : decode cX10_rankOf 25 = .ok (.lload_n 2, 1) := by decide +kernel
theorem dX10_rankOf_26 : decode cX10_rankOf 26 = .ok (.aload_n 0, 1) := by decide +kernel
theorem dX10_rankOf_27 : decode cX10_rankOf 27 = .ok (.getfield 13, 3) := by decide +kernel
theorem dX10_rankOf_30 : decode cX10_rankOf 30 = .ok (.iload 6, 2) := by decide +kernel
theorem dX10_rankOf_32 : decode cX10_rankOf 32 = .ok (.iaload, 1) := by decide +kernel
theorem dX10_rankOf_33 : decode cX10_rankOf 33 = .ok (.i2l, 1) := by decide +kernel
theorem dX10_rankOf_34 : decode cX10_rankOf 34 = .ok (.lmul, 1) := by decide +kernel
theorem dX10_rankOf_35 : decode cX10_rankOf 35 = .ok (.lload 4, 2) := by decide +kernel
theorem dX10_rankOf_37 : decode cX10_rankOf 37 = .ok (.aload_n 0, 1) := by decide +kernel
theorem dX10_rankOf_38 : decode cX10_rankOf 38 = .ok (.getfield 7, 3) := by decide +kernel
theorem dX10_rankOf_41 : decode cX10_rankOf 41 = .ok (.iload 6, 2) := by decide +kernel
theorem dX10_rankOf_43 : decode cX10_rankOf 43 = .ok (.iaload, 1) := by decide +kernel
theorem dX10_rankOf_44 : decode cX10_rankOf 44 = .ok (.i2l, 1) := by decide +kernel
theorem dX10_rankOf_45 : decode cX10_rankOf 45 = .ok (.lmul, 1) := by decide +kernel
theorem dX10_rankOf_46 : decode cX10_rankOf 46 = .ok (.lcmp, 1) := by decide +kernel
theorem dX10_rankOf_47 : decode cX10_rankOf 47 = .ok (.ifCond .ne 13, 3) := by decide +kernel
theorem dX10_rankOf_50 : decode cX10_rankOf 50 = .ok (.iload 6, 2) := by decide +kernel
theorem dX10_rankOf_52 : decode cX10_rankOf 52 = .ok (.aload_n 0, 1) := by decide +kernel
theorem dX10_rankOf_53 : decode cX10_rankOf 53 = .ok (.getfield 16, 3) := by decide +kernel
theorem dX10_rankOf_56 : decode cX10_rankOf 56 = .ok (.iload_n 1, 1) := by decide +kernel
theorem dX10_rankOf_57 : decode cX10_rankOf 57 = .ok (.iaload, 1) := by decide +kernel
theorem dX10_rankOf_58 : decode cX10_rankOf 58 = .ok (.isub, 1) := by decide +kernel
theorem dX10_rankOf_59 : decode cX10_rankOf 59 = .ok (.ireturn, 1) := by decide +kernel
theorem dX10_rankOf_60 : decode cX10_rankOf 60 = .ok (.iinc 6 1, 3) := by decide +kernel
theorem dX10_rankOf_63 : decode cX10_rankOf 63 = .ok (.goto (-51), 3) := by decide +kernel
theorem dX10_rankOf_66 : decode cX10_rankOf 66 = .ok (.bipush (-9), 2) := by decide +kernel
theorem dX10_rankOf_68 : decode cX10_rankOf 68 = .ok (.ireturn, 1) := by decide +kernel
set_option maxRecDepth 20000 in
theorem ggX10_many_X10_isParts : GoodIn wsX10_many wsX10_isParts := goodIn_r _ [5, 6, 7, 4, 8] (by decide +kernel) (by decide +kernel)
set_option maxRecDepth 20000 in
theorem gX10_many_X10_isParts : GoodIn wsX10_many (va_wsS RX10 96 yX10_isParts wsX10_isParts) := goodIn_app (goodIn_of _ (by decide +kernel)) ggX10_many_X10_isParts
set_option maxRecDepth 20000 in
theorem ggX10_many_X10_countOf : GoodIn wsX10_many wsX10_countOf := goodIn_r _ [12, 13, 14, 15, 16, 4, 17, 18, 19, 20, 21, 22, 23, 24, 25, 26, 27, 28, 29, 30, 31, 32, 33, 34, 35, 36, 37, 38, 39, 40, 41, 42, 43, 44, 45, 46, 47, 48, 49, 50, 51, 52, 53, 54, 55, 56, 57, 58] (by decide +kernel) (by decide +kernel)
set_option maxRecDepth 20000 in
theorem gX10_many_X10_countOf : GoodIn wsX10_many (wsV RX10 100 RX10 yX10_countOf wsX10_countOf) := goodIn_app (goodIn_of _ (by decide +kernel)) ggX10_many_X10_countOf
theorem dX10_many_0 : decode cX10_many 0 = .ok (.aload_n 0, 1) := by decide +kernel
theorem dX10_many_1 : decode cX10_many 1 = .ok (.iconst 0, 1) := by decide +kernel
theorem dX10_many_2 : decode cX10_many 2 = .ok (.putfield 59, 3) := by decide +kernel
theorem dX10_many_5 : decode cX10_many 5 = .ok (.iload_n 1, 1) := by decide +kernel
theorem dX10_many_6 : decode cX10_many 6 = .ok (.invokestatic 96, 3) := by decide +kernel
theorem dX10_many_9 : decode cX10_many 9 = .ok (.ifCond .eq 11, 3) := by decide +kernel
theorem dX10_many_12 : decode cX10_many 12 = .ok (.aload_n 0, 1) := by decide +kernel
theorem dX10_many_13 : decode cX10_many 13 = .ok (.iload_n 1, 1) := by decide +kernel
theorem dX10_many_14 : decode cX10_many 14 = .ok (.invokevirtual 100, 3) := by decide +kernel
theorem dX10_many_17 : decode cX10_many 17 = .ok (.goto 4, 3) := by decide +kernel
theorem dX10_many_20 : decode cX10_many 20 = .ok (.iconst (-1), 1) := by decide +kernel
theorem dX10_many_21 : decode cX10_many 21 = .ok (.ireturn, 1) := by decide +kernel
set_option maxRecDepth 20000 in
theorem ggX10_share_X10_isShare : GoodIn wsX10_share wsX10_isShare := goodIn_r _ [9, 10, 11, 8, 12, 13, 14, 15, 16, 17, 18, 19, 3, 20, 21, 22, 23, 24, 25, 2, 4, 26, 27, 28, 29, 30, 31, 32, 33, 34, 35, 36, 37, 38, 39, 40, 41, 42, 43, 44, 45, 46, 47, 48, 49, 50, 51, 52, 53, 54, 55, 56, 57, 58, 59, 60, 61, 62] (by decide +kernel) (by decide +kernel)
set_option maxRecDepth 20000 in
theorem gX10_share_X10_isShare : GoodIn wsX10_share (wsV RX10 104 RX10 yX10_isShare wsX10_isShare) := goodIn_app (goodIn_of _ (by decide +kernel)) ggX10_share_X10_isShare
set_option maxRecDepth 20000 in
theorem ggX10_share_X10_in : GoodIn wsX10_share wsX10_in := goodIn_r _ [15] (by decide +kernel) (by decide +kernel)
set_option maxRecDepth 20000 in
theorem gX10_share_X10_in : GoodIn wsX10_share (va_wsS RX10 89 yX10_in wsX10_in) := goodIn_app (goodIn_of _ (by decide +kernel)) ggX10_share_X10_in
theorem dX10_share_0 : decode cX10_share 0 = .ok (.aload_n 0, 1) := by decide +kernel
theorem dX10_share_1 : decode cX10_share 1 = .ok (.iconst 0, 1) := by decide +kernel
theorem dX10_share_2 : decode cX10_share 2 = .ok (.putfield 59, 3) := by decide +kernel
theorem dX10_share_5 : decode cX10_share 5 = .ok (.aload_n 0, 1) := by decide +kernel
theorem dX10_share_6 : decode cX10_share 6 = .ok (.iload_n 1, 1) := by decide +kernel
theorem dX10_share_7 : decode cX10_share 7 = .ok (.iload_n 2, 1) := by decide +kernel
theorem dX10_share_8 : decode cX10_share 8 = .ok (.invokevirtual 104, 3) := by decide +kernel
theorem dX10_share_11 : decode cX10_share 11 = .ok (.ifCond .eq 12, 3) := by decide +kernel
theorem dX10_share_14 : decode cX10_share 14 = .ok (.iload_n 3, 1) := by decide +kernel
theorem dX10_share_15 : decode cX10_share 15 = .ok (.iconst 0, 1) := by decide +kernel
theorem dX10_share_16 : decode cX10_share 16 = .ok (.iconst 1, 1) := by decide +kernel
theorem dX10_share_17 : decode cX10_share 17 = .ok (.invokestatic 89, 3) := by decide +kernel
theorem dX10_share_20 : decode cX10_share 20 = .ok (.ifCond .ne 5, 3) := by decide +kernel
theorem dX10_share_23 : decode cX10_share 23 = .ok (.iconst (-1), 1) := by decide +kernel
theorem dX10_share_24 : decode cX10_share 24 = .ok (.ireturn, 1) := by decide +kernel
theorem dX10_share_25 : decode cX10_share 25 = .ok (.iload_n 3, 1) := by decide +kernel
theorem dX10_share_26 : decode cX10_share 26 = .ok (.ifCond .ne 19, 3) := by decide +kernel
theorem dX10_share_29 : decode cX10_share 29 = .ok (.aload_n 0, 1) := by decide +kernel
