section
-- ===== PART A: goes FIRST, ahead of the names: the tables' words, and 'selects' of the private methods out of them =====
/-- a private method of a class that the tables say can be made, by its rows of tables_1 -/
def lw_okq (q : MethodName × Nat) : Prop := (q.1.cls ≠ "java/lang/invoke/MethodHandle" ∧ q.1.cls ≠ "java/lang/invoke/VarHandle") ∧ Cond.instantiable q.1.cls q.2 ∈ tables_1 ∧ Cond.privateMethod q.1 ∈ tables_1 ∧ Cond.instanceMethod q.1 ∈ tables_1
theorem lw_p0 : lw_okq (⟨"OhmNets$LikeParts", "fill", "(I)V"⟩, 3) := ⟨⟨by decide +kernel, by decide +kernel⟩, List.mem_of_getElem? (i := 32) (by decide +kernel), List.mem_of_getElem? (i := 198) (by decide +kernel), List.mem_of_getElem? (i := 199) (by decide +kernel)⟩
theorem lw_p1 : lw_okq (⟨"OhmNets$Shares", "placeOf", "(II)I"⟩, 1) := ⟨⟨by decide +kernel, by decide +kernel⟩, List.mem_of_getElem? (i := 60) (by decide +kernel), List.mem_of_getElem? (i := 210) (by decide +kernel), List.mem_of_getElem? (i := 211) (by decide +kernel)⟩
theorem lw_p2 : lw_okq (⟨"OhmNets$Shares", "isAt", "(III)Z"⟩, 1) := ⟨⟨by decide +kernel, by decide +kernel⟩, List.mem_of_getElem? (i := 60) (by decide +kernel), List.mem_of_getElem? (i := 239) (by decide +kernel), List.mem_of_getElem? (i := 240) (by decide +kernel)⟩
theorem lw_p3 : lw_okq (⟨"java/util/ArrayList", "rangeCheckForAdd", "(I)V"⟩, 3) := ⟨⟨by decide +kernel, by decide +kernel⟩, List.mem_of_getElem? (i := 66) (by decide +kernel), List.mem_of_getElem? (i := 291) (by decide +kernel), List.mem_of_getElem? (i := 292) (by decide +kernel)⟩
theorem lw_p4 : lw_okq (⟨"java/util/ArrayList", "grow", "()[Ljava/lang/Object;"⟩, 3) := ⟨⟨by decide +kernel, by decide +kernel⟩, List.mem_of_getElem? (i := 66) (by decide +kernel), List.mem_of_getElem? (i := 295) (by decide +kernel), List.mem_of_getElem? (i := 296) (by decide +kernel)⟩
theorem lw_p5 : lw_okq (⟨"java/util/ArrayList", "grow", "(I)[Ljava/lang/Object;"⟩, 3) := ⟨⟨by decide +kernel, by decide +kernel⟩, List.mem_of_getElem? (i := 66) (by decide +kernel), List.mem_of_getElem? (i := 299) (by decide +kernel), List.mem_of_getElem? (i := 300) (by decide +kernel)⟩
theorem lw_p6 : lw_okq (⟨"OhmNets$LikeParts", "offerPairs", "(III)V"⟩, 3) := ⟨⟨by decide +kernel, by decide +kernel⟩, List.mem_of_getElem? (i := 32) (by decide +kernel), List.mem_of_getElem? (i := 347) (by decide +kernel), List.mem_of_getElem? (i := 348) (by decide +kernel)⟩
theorem lw_p7 : lw_okq (⟨"OhmNets$LikeParts", "join", "(LOhmNets$Share;LOhmNets$Share;I)Z"⟩, 3) := ⟨⟨by decide +kernel, by decide +kernel⟩, List.mem_of_getElem? (i := 32) (by decide +kernel), List.mem_of_getElem? (i := 359) (by decide +kernel), List.mem_of_getElem? (i := 360) (by decide +kernel)⟩
theorem lw_p8 : lw_okq (⟨"OhmNets", "shareAt", "(II)LOhmNets$Share;"⟩, 5) := ⟨⟨by decide +kernel, by decide +kernel⟩, List.mem_of_getElem? (i := 24) (by decide +kernel), List.mem_of_getElem? (i := 368) (by decide +kernel), List.mem_of_getElem? (i := 369) (by decide +kernel)⟩
theorem lw_p9 : lw_okq (⟨"OhmNets$Net", "flowOf", "(LOhmNets$OneWire;)J"⟩, 8) := ⟨⟨by decide +kernel, by decide +kernel⟩, List.mem_of_getElem? (i := 106) (by decide +kernel), List.mem_of_getElem? (i := 466) (by decide +kernel), List.mem_of_getElem? (i := 467) (by decide +kernel)⟩
theorem lw_p10 : lw_okq (⟨"OhmNets$Net", "reachedFrom", "(I)I"⟩, 8) := ⟨⟨by decide +kernel, by decide +kernel⟩, List.mem_of_getElem? (i := 106) (by decide +kernel), List.mem_of_getElem? (i := 520) (by decide +kernel), List.mem_of_getElem? (i := 521) (by decide +kernel)⟩
theorem lw_p11 : lw_okq (⟨"OhmNets$Net", "solve", "(II)J"⟩, 8) := ⟨⟨by decide +kernel, by decide +kernel⟩, List.mem_of_getElem? (i := 106) (by decide +kernel), List.mem_of_getElem? (i := 537) (by decide +kernel), List.mem_of_getElem? (i := 538) (by decide +kernel)⟩
theorem lw_p12 : lw_okq (⟨"OhmNets$Net", "layLines", "(IIZ)V"⟩, 8) := ⟨⟨by decide +kernel, by decide +kernel⟩, List.mem_of_getElem? (i := 106) (by decide +kernel), List.mem_of_getElem? (i := 541) (by decide +kernel), List.mem_of_getElem? (i := 542) (by decide +kernel)⟩
theorem lw_p13 : lw_okq (⟨"OhmNets$Net", "numberLines", "(I)V"⟩, 8) := ⟨⟨by decide +kernel, by decide +kernel⟩, List.mem_of_getElem? (i := 106) (by decide +kernel), List.mem_of_getElem? (i := 545) (by decide +kernel), List.mem_of_getElem? (i := 546) (by decide +kernel)⟩
theorem lw_p14 : lw_okq (⟨"OhmNets$Net", "layEnd", "(IIJ)V"⟩, 8) := ⟨⟨by decide +kernel, by decide +kernel⟩, List.mem_of_getElem? (i := 106) (by decide +kernel), List.mem_of_getElem? (i := 549) (by decide +kernel), List.mem_of_getElem? (i := 550) (by decide +kernel)⟩
theorem lw_p15 : lw_okq (⟨"OhmNets$Net", "eliminate", "()J"⟩, 8) := ⟨⟨by decide +kernel, by decide +kernel⟩, List.mem_of_getElem? (i := 106) (by decide +kernel), List.mem_of_getElem? (i := 553) (by decide +kernel), List.mem_of_getElem? (i := 554) (by decide +kernel)⟩
def lw_privs_1 : List (MethodName × Nat) := [(⟨"OhmNets$LikeParts", "fill", "(I)V"⟩, 3), (⟨"OhmNets$Shares", "placeOf", "(II)I"⟩, 1), (⟨"OhmNets$Shares", "isAt", "(III)Z"⟩, 1), (⟨"java/util/ArrayList", "rangeCheckForAdd", "(I)V"⟩, 3), (⟨"java/util/ArrayList", "grow", "()[Ljava/lang/Object;"⟩, 3), (⟨"java/util/ArrayList", "grow", "(I)[Ljava/lang/Object;"⟩, 3), (⟨"OhmNets$LikeParts", "offerPairs", "(III)V"⟩, 3), (⟨"OhmNets$LikeParts", "join", "(LOhmNets$Share;LOhmNets$Share;I)Z"⟩, 3), (⟨"OhmNets", "shareAt", "(II)LOhmNets$Share;"⟩, 5), (⟨"OhmNets$Net", "flowOf", "(LOhmNets$OneWire;)J"⟩, 8), (⟨"OhmNets$Net", "reachedFrom", "(I)I"⟩, 8), (⟨"OhmNets$Net", "solve", "(II)J"⟩, 8), (⟨"OhmNets$Net", "layLines", "(IIZ)V"⟩, 8), (⟨"OhmNets$Net", "numberLines", "(I)V"⟩, 8), (⟨"OhmNets$Net", "layEnd", "(IIJ)V"⟩, 8), (⟨"OhmNets$Net", "eliminate", "()J"⟩, 8)]
theorem lw_r1 : ∀ q ∈ lw_privs_1, lw_okq q := List.forall_mem_cons.mpr ⟨lw_p0, List.forall_mem_cons.mpr ⟨lw_p1, List.forall_mem_cons.mpr ⟨lw_p2, List.forall_mem_cons.mpr ⟨lw_p3, List.forall_mem_cons.mpr ⟨lw_p4, List.forall_mem_cons.mpr ⟨lw_p5, List.forall_mem_cons.mpr ⟨lw_p6, List.forall_mem_cons.mpr ⟨lw_p7, List.forall_mem_cons.mpr ⟨lw_p8, List.forall_mem_cons.mpr ⟨lw_p9, List.forall_mem_cons.mpr ⟨lw_p10, List.forall_mem_cons.mpr ⟨lw_p11, List.forall_mem_cons.mpr ⟨lw_p12, List.forall_mem_cons.mpr ⟨lw_p13, List.forall_mem_cons.mpr ⟨lw_p14, List.forall_mem_cons.mpr ⟨lw_p15, fun _ h => absurd h List.not_mem_nil⟩⟩⟩⟩⟩⟩⟩⟩⟩⟩⟩⟩⟩⟩⟩⟩
theorem lw_p16 : lw_okq (⟨"OhmNets$Net", "subtract", "(IIJ)V"⟩, 8) := ⟨⟨by decide +kernel, by decide +kernel⟩, List.mem_of_getElem? (i := 106) (by decide +kernel), List.mem_of_getElem? (i := 557) (by decide +kernel), List.mem_of_getElem? (i := 558) (by decide +kernel)⟩
theorem lw_p17 : lw_okq (⟨"OhmNets$Net", "numberOf", "(I)J"⟩, 8) := ⟨⟨by decide +kernel, by decide +kernel⟩, List.mem_of_getElem? (i := 106) (by decide +kernel), List.mem_of_getElem? (i := 561) (by decide +kernel), List.mem_of_getElem? (i := 562) (by decide +kernel)⟩
theorem lw_p18 : lw_okq (⟨"OhmNets$Net", "layNeighbours", "(I)V"⟩, 8) := ⟨⟨by decide +kernel, by decide +kernel⟩, List.mem_of_getElem? (i := 106) (by decide +kernel), List.mem_of_getElem? (i := 599) (by decide +kernel), List.mem_of_getElem? (i := 600) (by decide +kernel)⟩
theorem lw_p19 : lw_okq (⟨"OhmNets$Net", "link", "(II)V"⟩, 8) := ⟨⟨by decide +kernel, by decide +kernel⟩, List.mem_of_getElem? (i := 106) (by decide +kernel), List.mem_of_getElem? (i := 603) (by decide +kernel), List.mem_of_getElem? (i := 604) (by decide +kernel)⟩
theorem lw_p20 : lw_okq (⟨"OhmNets$Net", "takeAway", "(I)V"⟩, 8) := ⟨⟨by decide +kernel, by decide +kernel⟩, List.mem_of_getElem? (i := 106) (by decide +kernel), List.mem_of_getElem? (i := 613) (by decide +kernel), List.mem_of_getElem? (i := 614) (by decide +kernel)⟩
theorem lw_p21 : lw_okq (⟨"OhmNets$Shop", "isTriedBetter", "(IIII)Z"⟩, 5) := ⟨⟨by decide +kernel, by decide +kernel⟩, List.mem_of_getElem? (i := 145) (by decide +kernel), List.mem_of_getElem? (i := 655) (by decide +kernel), List.mem_of_getElem? (i := 656) (by decide +kernel)⟩
theorem lw_p22 : lw_okq (⟨"OhmNetsModel", "countOf", "(I)I"⟩, 24) := ⟨⟨by decide +kernel, by decide +kernel⟩, List.mem_of_getElem? (i := 684) (by decide +kernel), List.mem_of_getElem? (i := 774) (by decide +kernel), List.mem_of_getElem? (i := 775) (by decide +kernel)⟩
theorem lw_p23 : lw_okq (⟨"OhmNetsModel", "needShares", "()V"⟩, 24) := ⟨⟨by decide +kernel, by decide +kernel⟩, List.mem_of_getElem? (i := 684) (by decide +kernel), List.mem_of_getElem? (i := 778) (by decide +kernel), List.mem_of_getElem? (i := 779) (by decide +kernel)⟩
theorem lw_p24 : lw_okq (⟨"OhmNetsModel", "puts", "(IJJ)V"⟩, 24) := ⟨⟨by decide +kernel, by decide +kernel⟩, List.mem_of_getElem? (i := 684) (by decide +kernel), List.mem_of_getElem? (i := 782) (by decide +kernel), List.mem_of_getElem? (i := 783) (by decide +kernel)⟩
theorem lw_p25 : lw_okq (⟨"OhmNetsModel", "least", "(JJ)V"⟩, 24) := ⟨⟨by decide +kernel, by decide +kernel⟩, List.mem_of_getElem? (i := 684) (by decide +kernel), List.mem_of_getElem? (i := 786) (by decide +kernel), List.mem_of_getElem? (i := 787) (by decide +kernel)⟩
theorem lw_p26 : lw_okq (⟨"OhmNetsModel", "isShare", "(II)Z"⟩, 24) := ⟨⟨by decide +kernel, by decide +kernel⟩, List.mem_of_getElem? (i := 684) (by decide +kernel), List.mem_of_getElem? (i := 797) (by decide +kernel), List.mem_of_getElem? (i := 798) (by decide +kernel)⟩
theorem lw_p27 : lw_okq (⟨"OhmNetsModel", "rankOf", "(IJJ)I"⟩, 24) := ⟨⟨by decide +kernel, by decide +kernel⟩, List.mem_of_getElem? (i := 684) (by decide +kernel), List.mem_of_getElem? (i := 809) (by decide +kernel), List.mem_of_getElem? (i := 810) (by decide +kernel)⟩
theorem lw_p28 : lw_okq (⟨"OhmNetsModel", "isWire", "(I)Z"⟩, 24) := ⟨⟨by decide +kernel, by decide +kernel⟩, List.mem_of_getElem? (i := 684) (by decide +kernel), List.mem_of_getElem? (i := 840) (by decide +kernel), List.mem_of_getElem? (i := 841) (by decide +kernel)⟩
theorem lw_p29 : lw_okq (⟨"OhmNetsModel", "hang", "(II)Z"⟩, 24) := ⟨⟨by decide +kernel, by decide +kernel⟩, List.mem_of_getElem? (i := 684) (by decide +kernel), List.mem_of_getElem? (i := 855) (by decide +kernel), List.mem_of_getElem? (i := 856) (by decide +kernel)⟩
theorem lw_p30 : lw_okq (⟨"OhmNetsModel", "joins", "(I)Z"⟩, 24) := ⟨⟨by decide +kernel, by decide +kernel⟩, List.mem_of_getElem? (i := 684) (by decide +kernel), List.mem_of_getElem? (i := 859) (by decide +kernel), List.mem_of_getElem? (i := 860) (by decide +kernel)⟩
theorem lw_p31 : lw_okq (⟨"OhmNetsModel", "sizeOf", "(I)I"⟩, 24) := ⟨⟨by decide +kernel, by decide +kernel⟩, List.mem_of_getElem? (i := 684) (by decide +kernel), List.mem_of_getElem? (i := 864) (by decide +kernel), List.mem_of_getElem? (i := 865) (by decide +kernel)⟩
def lw_privs_2 : List (MethodName × Nat) := [(⟨"OhmNets$Net", "subtract", "(IIJ)V"⟩, 8), (⟨"OhmNets$Net", "numberOf", "(I)J"⟩, 8), (⟨"OhmNets$Net", "layNeighbours", "(I)V"⟩, 8), (⟨"OhmNets$Net", "link", "(II)V"⟩, 8), (⟨"OhmNets$Net", "takeAway", "(I)V"⟩, 8), (⟨"OhmNets$Shop", "isTriedBetter", "(IIII)Z"⟩, 5), (⟨"OhmNetsModel", "countOf", "(I)I"⟩, 24), (⟨"OhmNetsModel", "needShares", "()V"⟩, 24), (⟨"OhmNetsModel", "puts", "(IJJ)V"⟩, 24), (⟨"OhmNetsModel", "least", "(JJ)V"⟩, 24), (⟨"OhmNetsModel", "isShare", "(II)Z"⟩, 24), (⟨"OhmNetsModel", "rankOf", "(IJJ)I"⟩, 24), (⟨"OhmNetsModel", "isWire", "(I)Z"⟩, 24), (⟨"OhmNetsModel", "hang", "(II)Z"⟩, 24), (⟨"OhmNetsModel", "joins", "(I)Z"⟩, 24), (⟨"OhmNetsModel", "sizeOf", "(I)I"⟩, 24)]
theorem lw_r2 : ∀ q ∈ lw_privs_2, lw_okq q := List.forall_mem_cons.mpr ⟨lw_p16, List.forall_mem_cons.mpr ⟨lw_p17, List.forall_mem_cons.mpr ⟨lw_p18, List.forall_mem_cons.mpr ⟨lw_p19, List.forall_mem_cons.mpr ⟨lw_p20, List.forall_mem_cons.mpr ⟨lw_p21, List.forall_mem_cons.mpr ⟨lw_p22, List.forall_mem_cons.mpr ⟨lw_p23, List.forall_mem_cons.mpr ⟨lw_p24, List.forall_mem_cons.mpr ⟨lw_p25, List.forall_mem_cons.mpr ⟨lw_p26, List.forall_mem_cons.mpr ⟨lw_p27, List.forall_mem_cons.mpr ⟨lw_p28, List.forall_mem_cons.mpr ⟨lw_p29, List.forall_mem_cons.mpr ⟨lw_p30, List.forall_mem_cons.mpr ⟨lw_p31, fun _ h => absurd h List.not_mem_nil⟩⟩⟩⟩⟩⟩⟩⟩⟩⟩⟩⟩⟩⟩⟩⟩
theorem lw_p32 : lw_okq (⟨"OhmNetsModel", "isOf", "(II)Z"⟩, 24) := ⟨⟨by decide +kernel, by decide +kernel⟩, List.mem_of_getElem? (i := 684) (by decide +kernel), List.mem_of_getElem? (i := 871) (by decide +kernel), List.mem_of_getElem? (i := 872) (by decide +kernel)⟩
theorem lw_p33 : lw_okq (⟨"OhmNetsModel", "weight", "(I)J"⟩, 24) := ⟨⟨by decide +kernel, by decide +kernel⟩, List.mem_of_getElem? (i := 684) (by decide +kernel), List.mem_of_getElem? (i := 875) (by decide +kernel), List.mem_of_getElem? (i := 876) (by decide +kernel)⟩
theorem lw_p34 : lw_okq (⟨"OhmNetsModel", "goes", "(IIII)I"⟩, 24) := ⟨⟨by decide +kernel, by decide +kernel⟩, List.mem_of_getElem? (i := 684) (by decide +kernel), List.mem_of_getElem? (i := 885) (by decide +kernel), List.mem_of_getElem? (i := 886) (by decide +kernel)⟩
theorem lw_p35 : lw_okq (⟨"OhmNetsModel", "knots", "()I"⟩, 24) := ⟨⟨by decide +kernel, by decide +kernel⟩, List.mem_of_getElem? (i := 684) (by decide +kernel), List.mem_of_getElem? (i := 893) (by decide +kernel), List.mem_of_getElem? (i := 894) (by decide +kernel)⟩
theorem lw_p36 : lw_okq (⟨"OhmNetsModel", "hasWire", "(I)Z"⟩, 24) := ⟨⟨by decide +kernel, by decide +kernel⟩, List.mem_of_getElem? (i := 684) (by decide +kernel), List.mem_of_getElem? (i := 897) (by decide +kernel), List.mem_of_getElem? (i := 898) (by decide +kernel)⟩
theorem lw_p37 : lw_okq (⟨"OhmNetsModel", "lessens", "(II)Z"⟩, 24) := ⟨⟨by decide +kernel, by decide +kernel⟩, List.mem_of_getElem? (i := 684) (by decide +kernel), List.mem_of_getElem? (i := 905) (by decide +kernel), List.mem_of_getElem? (i := 906) (by decide +kernel)⟩
theorem lw_p38 : lw_okq (⟨"OhmNetsModel", "wiresAt", "(I)I"⟩, 24) := ⟨⟨by decide +kernel, by decide +kernel⟩, List.mem_of_getElem? (i := 684) (by decide +kernel), List.mem_of_getElem? (i := 909) (by decide +kernel), List.mem_of_getElem? (i := 910) (by decide +kernel)⟩
theorem lw_p39 : lw_okq (⟨"OhmNetsModel", "links", "(I)V"⟩, 24) := ⟨⟨by decide +kernel, by decide +kernel⟩, List.mem_of_getElem? (i := 684) (by decide +kernel), List.mem_of_getElem? (i := 913) (by decide +kernel), List.mem_of_getElem? (i := 914) (by decide +kernel)⟩
theorem lw_p40 : lw_okq (⟨"OhmNetsModel", "isChoice", "(I)Z"⟩, 24) := ⟨⟨by decide +kernel, by decide +kernel⟩, List.mem_of_getElem? (i := 684) (by decide +kernel), List.mem_of_getElem? (i := 925) (by decide +kernel), List.mem_of_getElem? (i := 926) (by decide +kernel)⟩
theorem lw_p41 : lw_okq (⟨"OhmNetsModel", "looks", "(I)I"⟩, 24) := ⟨⟨by decide +kernel, by decide +kernel⟩, List.mem_of_getElem? (i := 684) (by decide +kernel), List.mem_of_getElem? (i := 929) (by decide +kernel), List.mem_of_getElem? (i := 930) (by decide +kernel)⟩
def lw_privs_3 : List (MethodName × Nat) := [(⟨"OhmNetsModel", "isOf", "(II)Z"⟩, 24), (⟨"OhmNetsModel", "weight", "(I)J"⟩, 24), (⟨"OhmNetsModel", "goes", "(IIII)I"⟩, 24), (⟨"OhmNetsModel", "knots", "()I"⟩, 24), (⟨"OhmNetsModel", "hasWire", "(I)Z"⟩, 24), (⟨"OhmNetsModel", "lessens", "(II)Z"⟩, 24), (⟨"OhmNetsModel", "wiresAt", "(I)I"⟩, 24), (⟨"OhmNetsModel", "links", "(I)V"⟩, 24), (⟨"OhmNetsModel", "isChoice", "(I)Z"⟩, 24), (⟨"OhmNetsModel", "looks", "(I)I"⟩, 24)]
theorem lw_r3 : ∀ q ∈ lw_privs_3, lw_okq q := List.forall_mem_cons.mpr ⟨lw_p32, List.forall_mem_cons.mpr ⟨lw_p33, List.forall_mem_cons.mpr ⟨lw_p34, List.forall_mem_cons.mpr ⟨lw_p35, List.forall_mem_cons.mpr ⟨lw_p36, List.forall_mem_cons.mpr ⟨lw_p37, List.forall_mem_cons.mpr ⟨lw_p38, List.forall_mem_cons.mpr ⟨lw_p39, List.forall_mem_cons.mpr ⟨lw_p40, List.forall_mem_cons.mpr ⟨lw_p41, fun _ h => absurd h List.not_mem_nil⟩⟩⟩⟩⟩⟩⟩⟩⟩⟩
def lw_privs : List (MethodName × Nat) := lw_privs_1 ++ (lw_privs_2 ++ (lw_privs_3))
def lw_tbl : List Cond := k2_sels lw_privs ++ tables_1
theorem lw_privs_ok : ∀ q ∈ lw_privs, lw_okq q := by
  show ∀ q ∈ lw_privs_1 ++ (lw_privs_2 ++ (lw_privs_3)), lw_okq q
  exact List.forall_mem_append.mpr ⟨lw_r1, List.forall_mem_append.mpr ⟨lw_r2, lw_r3⟩⟩
-- ===== end of PART A; then your names; then what follows =====
end
section
/-! ===== BEGIN words of one list among another's, by their places ===== -/
theorem goodIn_r {big : List Cond} (ws : List Cond) (ps : List Nat) (hp : ws = ps.filterMap (fun i => big[i]?)) (h : ws.all goodWord = true) : GoodIn big ws := by
  intro w hw
  have h1 := List.all_eq_true.mp h w hw
  rw [hp] at hw
  obtain ⟨i, -, hi⟩ := List.mem_filterMap.mp hw
  have hm : w ∈ big := by first | exact List.mem_of_getElem? hi | exact List.getElem?_mem hi
  exact ⟨hm, good_of_word h1⟩
theorem goodIn_app {big a b : List Cond} (ha : GoodIn big a) (hb : GoodIn big b) : GoodIn big (a ++ b) := fun w h => (List.mem_append.mp h).elim (ha w) (hb w)
theorem goodIn_ca {big a b : List Cond} {c : Cond} (ha : GoodIn big (c :: a)) (hb : GoodIn big b) : GoodIn big (c :: (a ++ b)) := fun w h => (List.mem_cons.mp h).elim (fun e => ha w (List.mem_cons.mpr (Or.inl e))) (fun h => (List.mem_append.mp h).elim (fun h => ha w (List.mem_cons.mpr (Or.inr h))) (hb w))
theorem goodIn_sub {big ws : List Cond} (hm : ∀ w ∈ ws, w ∈ big) (h : ws.all goodWord = true) : GoodIn big ws := fun w hw => ⟨hm w hw, good_of_word (List.all_eq_true.mp h w hw)⟩
/-! ===== END ===== -/

/-! ===== BEGIN new T[n][m]: the outer array a place, the inner ones among the pooled ===== -/
/-- f, but v at every address of l -/
def vr_up {α : Type} (f : Nat → α) (l : List Nat) (v : α) : Nat → α := fun a => if a ∈ l then v else f a
theorem vr_up_in {α : Type} {f : Nat → α} {l : List Nat} {v : α} {a : Nat} (h : a ∈ l) : vr_up f l v a = v := if_pos h
theorem vr_up_ne {α : Type} {f : Nat → α} {l : List Nat} {v : α} {a : Nat} (h : a ∉ l) : vr_up f l v a = f a := if_neg h
theorem vr_rows {L l : List Nat} {f : Nat → va_E} {e : va_E} (h : ∀ a, a ∈ l → a ∉ L) : va_pl L f ++ l.map (fun a => (a, e)) = va_pl (L ++ l) (vr_up f l e) := by
  unfold va_pl
  rw [List.map_append]
  congr 1
  · apply List.map_congr_left
    intro a ha
    rw [vr_up_ne (fun q => h a q ha)]
  · apply List.map_congr_left
    intro a ha
    rw [vr_up_in ha]
theorem vr_lay {X rows : va_W} {x : Nat × va_E} {pl : va_W} {D : va_G} {cl : List vw_C} {H : Heap} (hP : va_P D cl (((X ++ pl) ++ [x]) ++ rows) H) : va_P D cl ((X ++ [x]) ++ (pl ++ rows)) H := by
  rw [List.append_assoc (X ++ pl)] at hP
  have h := va_P.swap hP
  rw [← List.append_assoc X] at h
  have h2 := va_P.swap h
  rw [List.append_assoc (X ++ [x])] at h2
  exact h2
theorem vr_layD {X rows : va_W} {x : Nat × va_E} {pl : va_W} {A : Nat → Prop} (hD : va_D A (((X ++ pl) ++ [x]) ++ rows)) : va_D A ((X ++ [x]) ++ (pl ++ rows)) := by
  rw [List.append_assoc (X ++ pl)] at hD
  have h := va_D.swap hD
  rw [← List.append_assoc X] at h
  have h2 := va_D.swap h
  rw [List.append_assoc (X ++ [x])] at h2
  exact h2
theorem vr_outer (c : ClassId) (N h0 : Nat) : ∀ i : Nat, Jvm.Free.Multi.outerC c N h0 i = arrV c N (fun j => va_rf (if j < i then some (h0 + 1 + j) else none))
  | 0 => by
    show ({ cls := c, slots := Array.replicate N .null, vm := .none } : Cell) = _
    rw [arrV_new]
    refine congrArg (arrV c N) (funext fun j => ?_)
    simp [va_rf]
  | i + 1 => by
    show (Jvm.Free.Multi.outerC c N h0 i).setSlot i (.ref (h0 + 1 + i)) = _
    rw [vr_outer c N h0 i, arrV_store]
    refine congrArg (arrV c N) (funext fun j => ?_)
    by_cases e : j = i
    · subst e
      simp [updV, va_rf]
    · by_cases h : j < i
      · simp [updV, e, h, Nat.lt_succ_of_lt h]
      · simp [updV, e, h, show ¬ j < i + 1 by omega]
def va_AOA (ty : FieldType) (U : State) : Prop := (Cond.arrayOver (.array ty)).before #[] U = true
theorem va_AOA.use {ty : FieldType} {A : Array Value} {U : State} (h : va_AOA ty U) : (Cond.arrayOver (.array ty)).before A U = true := h
section VGM
variable {p : Program} {l : Launch} {e : Env} {R : Room} {s : State} {m : MethodId} {args : Array Value} {below : List Frame} {meth : Method} {c : Code} {H : Heap} {locs : List Loc} {cells slots : Nat} {Q : State → Prop}
variable {cc : ByteArray} {pc : Nat} {ls : Array Slot} {rest : List Value} {D : va_G} {cl : List vw_C} {A : Nat → Prop} {a : Nat} {tys : List (ClassId × FieldType)} {ws : va_W} {H0 : Heap}
theorem va_mna {X : va_W} {L : List Nat} {f : Nat → va_E} {cc : ByteArray} (hexec : p.tables.exec = Jvm.exec) (hb : c.code = cc) {own : String} {index : Nat} {ty : FieldType} {cy : ClassId} (hown : s.vm.findClass own = some m.cls) (hclink : (Cond.classLink own index ("[" ++ (FieldType.array ty).toString)).before args s = true) (hover : va_AOA ty s) (harr : (Cond.arrayClass ty).before args s = true) (hcy : s.vm.findClass (FieldType.array ty).toString = some cy)
    (hK : va_K D cl tys s) (hP : va_P D cl (X ++ va_pl L f) H) (hD : va_D A (X ++ va_pl L f)) (hS : va_S A H0 H locs) (hA : ∀ q, H0.size ≤ q → A q) {n k : Int32} {N' K' : Nat} {z : vp_A} (hn : ¬ n < 0) (hk : ¬ k < 0) (hN : n.toNatClampNeg = N') (hM : k.toNatClampNeg = K')
    (hb1 : N' * 4 ≤ 536870912) (hb2 : K' * componentBytes ty ≤ 536870912) (hb3 : K' ≤ 536870912) (hdf : fits ty (defaultValue ty) = true) (hdd : (defaultValue ty).isDefault = true) (hcells : cells + (1 + N') ≤ R.cells) (hslots : slots + (N' + N' * K') ≤ R.slots) (hz : ∀ c : ClassId, Jvm.Free.Multi.innerC c K' (defaultValue ty) = vp_cell c z) (hdg : decode cc pc = .ok (.multianewarray index 2, 4))
    (kk : ∀ (q : Nat) (r : Nat → Nat) (cA : ClassId) (H1 : Heap), (∀ i j : Nat, i < N' → j < N' → r i = r j → i = j) → (∀ i : Nat, i < N' → r i ∉ L) → va_K D cl (tys ++ [(cA, .array ty)]) s →
      va_P D cl ((X ++ [(q, .inl (cA, N', .inr (.inr (.inr (.inr (fun i => if i < N' then some (r i) else none))))))]) ++ va_pl (L ++ (List.range N').map r) (vr_up f ((List.range N').map r) (.inl (cy, z)))) H1 → va_D A ((X ++ [(q, .inl (cA, N', .inr (.inr (.inr (.inr (fun i => if i < N' then some (r i) else none))))))]) ++ va_pl (L ++ (List.range N').map r) (vr_up f ((List.range N').map r) (.inl (cy, z)))) → va_S A H0 H1 locs →
      W p l e R s m args below meth c H1 locs (cells + 1 + N') (slots + N' + N' * K') Q (F0 m (pc + 4) ls (.ref q :: rest))) : W p l e R s m args below meth c H locs cells slots Q (F0 m pc ls (.int k :: .int n :: rest)) := by
  subst hN
  subst hM
  intro T hT Xs
  obtain ⟨vm₁, cA, comp, -, fA, fC, hO, -, X', step⟩ := Xs.multianewarray2F hexec hown hclink (va_AOA.use hover) harr (g := F0 m pc ls (.int k :: .int n :: rest)) rfl (by rw [hb]; exact hdg) rfl hn hk hb1 hb2 hb3 hdf hdd hcells hslots
  have ec : some cy = some comp := hcy.symm.trans fC
  cases ec
  generalize hF : Jvm.Free.Multi.fill (T.setVm vm₁) cA cy n.toNatClampNeg k.toNatClampNeg (defaultValue ty) n.toNatClampNeg = F at X' step
  have hTh : (T.setVm vm₁).heap = H := hT
  obtain ⟨f1, f2, -, -⟩ := Jvm.Free.Multi.fill_facts (T.setVm vm₁) cA cy n.toNatClampNeg k.toNatClampNeg (defaultValue ty) n.toNatClampNeg
  rw [hF, hTh] at f1 f2
  have hold : ∀ x : Nat, x < H.size → F.heap[x]? = H[x]? := fun x hx => by
    have := Jvm.Free.Multi.fill_old (T.setVm vm₁) cA cy n.toNatClampNeg k.toNatClampNeg (defaultValue ty) (a := x) (by rw [hTh]; exact hx) n.toNatClampNeg
    rw [hF, hTh] at this
    exact this
  have hrow : ∀ j : Nat, j < n.toNatClampNeg → F.heap[H.size + 1 + j]? = some (vp_cell cy z) := fun j hj => by
    have := Jvm.Free.Multi.fill_inner (T.setVm vm₁) cA cy n.toNatClampNeg k.toNatClampNeg (defaultValue ty) n.toNatClampNeg j hj
    rw [hF, hTh, hz] at this
    exact this
  have hout : Jvm.Free.Multi.outerC cA n.toNatClampNeg H.size n.toNatClampNeg = vp_cell cA (n.toNatClampNeg, .inr (.inr (.inr (.inr (fun i => if i < n.toNatClampNeg then some (H.size + 1 + i) else none))))) := by
    rw [vp_cell_q]
    exact vr_outer cA n.toNatClampNeg H.size n.toNatClampNeg
  rw [hout] at f2
  have hlt : ∀ a, a ∈ L → a < H.size := fun a ha => by
    obtain ⟨k9, hk9⟩ := va_pl_get (X := X) (f := f) ha
    exact (hP k9 _ hk9).lt
  have hnl : ∀ i : Nat, i < n.toNatClampNeg → H.size + 1 + i ∉ L := fun i _ h => by
    have := hlt _ h
    omega
  have hnm : ∀ a, a ∈ (List.range n.toNatClampNeg).map (fun i => H.size + 1 + i) → a ∉ L := fun a ha h => by
    obtain ⟨i, -, rfl⟩ := List.mem_map.mp ha
    have := hlt _ h
    omega
  have hP0 : va_P D cl (X ++ va_pl L f) F.heap := hP.kept (fun k9 x hx => hold x.1 ((hP k9 x hx).lt))
  have hP1 : va_P D cl ((X ++ va_pl L f) ++ [(H.size, .inl (cA, n.toNatClampNeg, .inr (.inr (.inr (.inr (fun i => if i < n.toNatClampNeg then some (H.size + 1 + i) else none))))))]) F.heap := hP0.app (fun k9 x hx => by
    have h0 : k9 < 1 := (List.getElem?_eq_some_iff.mp hx).1
    rw [show k9 = 0 by omega] at hx
    cases hx
    exact f2)
  have hP2 : va_P D cl (((X ++ va_pl L f) ++ [(H.size, .inl (cA, n.toNatClampNeg, .inr (.inr (.inr (.inr (fun i => if i < n.toNatClampNeg then some (H.size + 1 + i) else none))))))]) ++ ((List.range n.toNatClampNeg).map (fun i => H.size + 1 + i)).map (fun a => (a, .inl (cy, z)))) F.heap := hP1.app (fun k9 x hx => by
    obtain ⟨a, ha, rfl⟩ := List.mem_map.mp (List.mem_of_getElem? hx)
    obtain ⟨i, hi, rfl⟩ := List.mem_map.mp ha
    exact hrow i (List.mem_range.mp hi))
  have hD2 : va_D A (((X ++ va_pl L f) ++ [(H.size, .inl (cA, n.toNatClampNeg, .inr (.inr (.inr (.inr (fun i => if i < n.toNatClampNeg then some (H.size + 1 + i) else none))))))]) ++ ((List.range n.toNatClampNeg).map (fun i => H.size + 1 + i)).map (fun a => (a, .inl (cy, z)))) := by
    have hD1 := hD.push (e := .inl (cA, n.toNatClampNeg, .inr (.inr (.inr (.inr (fun i => if i < n.toNatClampNeg then some (H.size + 1 + i) else none)))))) hP rfl (hA _ hS.1)
    generalize hW1 : (X ++ va_pl L f) ++ [(H.size, .inl (cA, n.toNatClampNeg, .inr (.inr (.inr (.inr (fun i => if i < n.toNatClampNeg then some (H.size + 1 + i) else none))))))] = W1 at hD1 hP1 ⊢
    have hle : ∀ (k9 : Nat) (x : Nat × va_E), W1[k9]? = some x → x.1 ≤ H.size := fun k9 x hx => by
      rw [← hW1] at hx
      by_cases hl : k9 < (X ++ va_pl L f).length
      · rw [List.getElem?_append_left hl] at hx
        exact Nat.le_of_lt ((hP k9 x hx).lt)
      · rw [List.getElem?_append_right (by omega)] at hx
        have h0 : k9 - (X ++ va_pl L f).length < 1 := (List.getElem?_eq_some_iff.mp hx).1
        rw [show k9 - (X ++ va_pl L f).length = 0 by omega] at hx
        cases hx
        exact Nat.le_refl _
    have hr : ∀ (k9 : Nat) (x : Nat × va_E), (((List.range n.toNatClampNeg).map (fun i => H.size + 1 + i)).map (fun a => ((a, .inl (cy, z)) : Nat × va_E)))[k9]? = some x → x.1 = H.size + 1 + k9 := fun k9 x hx => by
      rw [List.getElem?_map, List.getElem?_map] at hx
      by_cases h9 : k9 < n.toNatClampNeg
      · rw [List.getElem?_range h9] at hx
        cases hx
        rfl
      · have hn0 : (List.range n.toNatClampNeg)[k9]? = none := List.getElem?_eq_none (by rw [List.length_range]; omega)
        rw [hn0] at hx
        cases hx
    refine ⟨fun i j x y hi hj hxy => ?_, fun k9 x hx => ?_⟩
    · by_cases h1 : i < W1.length <;> by_cases h2 : j < W1.length
      · rw [List.getElem?_append_left h1] at hi
        rw [List.getElem?_append_left h2] at hj
        exact hD1.1 i j x y hi hj hxy
      · rw [List.getElem?_append_left h1] at hi
        rw [List.getElem?_append_right (by omega)] at hj
        have := hle _ _ hi
        have := hr _ _ hj
        omega
      · rw [List.getElem?_append_right (by omega)] at hi
        rw [List.getElem?_append_left h2] at hj
        have := hle _ _ hj
        have := hr _ _ hi
        omega
      · rw [List.getElem?_append_right (by omega)] at hi hj
        have := hr _ _ hi
        have := hr _ _ hj
        omega
    · by_cases h1 : k9 < W1.length
      · rw [List.getElem?_append_left h1] at hx
        exact hD1.2 k9 x hx
      · rw [List.getElem?_append_right (by omega)] at hx
        have := hr _ _ hx
        exact hA _ (by have := hS.1; omega)
  have hAr : ArrOfT s cA (.array ty) := fun N9 z9 => by
    obtain ⟨-, k9, hk9, cm9, hkk9⟩ := (hO 0 0 0).1
    exact ⟨(fun q hq => by cases hq), k9, hk9, cm9, hkk9⟩
  have hK2 : va_K D cl (tys ++ [(cA, .array ty)]) s := ⟨hK.1, fun k9 x hx => by
    by_cases hl : k9 < tys.length
    · rw [List.getElem?_append_left hl] at hx
      exact hK.2 k9 x hx
    · rw [List.getElem?_append_right (by omega)] at hx
      have h0 : k9 - tys.length < 1 := (List.getElem?_eq_some_iff.mp hx).1
      rw [show k9 - tys.length = 0 by omega] at hx
      cases hx
      exact ⟨hAr, fA⟩⟩
  obtain ⟨t, a1, b1⟩ := kk H.size (fun i => H.size + 1 + i) cA F.heap (fun i j _ _ h => by have h9 : H.size + 1 + i = H.size + 1 + j := h; omega) hnl hK2 (by rw [← vr_rows hnm]; exact vr_lay hP2) (by rw [← vr_rows hnm]; exact vr_layD hD2) ⟨by rw [f1]; have := hS.1; omega, fun x h1 h2 => (hold x (Nat.lt_of_lt_of_le h1 hS.1)).trans (hS.2.1 x h1 h2), hS.2.2⟩ F rfl X'
  refine ⟨t, step t ?_, b1⟩
  have e : T.heap.size = H.size := by rw [hT]
  rw [e]
  exact a1
end VGM
/-! ===== END ===== -/

/-! ===== BEGIN printed: names, fields, word lists, decode rows ===== -/
def RX0 : String := "OhmNets$Fraction"
def TX0 : u_T := fun k => match k with
  | 0 => ("OhmNets$Fraction", "upper", "J", false)
  | _ => ("OhmNets$Fraction", "lower", "J", false)
def tyX0 : Nat → FieldType := fun k => match k with
  | 0 => .long
  | _ => .long
abbrev wsX00 : List Cond := u_ws RX0 TX0 2
theorem nmX0 : ∀ a, a < 2 → ∀ b, b < 2 → a ≠ b → (TX0 a).2.1 ≠ (TX0 b).2.1 := by decide +kernel
theorem tyX0_ok : ∀ k, k < 2 → parseFieldDescriptor (TX0 k).2.2.1 = some (tyX0 k) := by decide +kernel
abbrev cX0_init : ByteArray := prog_2_method_1_code
def yX0_init : MethodName := ⟨RX0, "<init>", "()V"⟩
abbrev cX0_set : ByteArray := prog_2_method_2_code
def yX0_set : MethodName := ⟨RX0, "set", "(JJ)V"⟩
abbrev cX0_reduce : ByteArray := prog_2_method_3_code
def yX0_reduce : MethodName := ⟨RX0, "reduce", "()V"⟩
abbrev cX0_part : ByteArray := prog_2_method_4_code
def yX0_part : MethodName := ⟨RX0, "part", "(I)J"⟩
abbrev cX0_commonDivisor : ByteArray := prog_2_method_5_code
def yX0_commonDivisor : MethodName := ⟨RX0, "commonDivisor", "(JJ)J"⟩
def RX1 : String := "OhmNets$LikeParts"
def TX1 : u_T := fun k => match k with
  | 0 => ("OhmNets$LikeParts", "byParts", "[LOhmNets$Shares;", true)
  | 1 => ("OhmNets$LikeParts", "value", "LOhmNets$Fraction;", true)
  | _ => ("OhmNets$LikeParts", "known", "I", false)
def tyX1 : Nat → FieldType := fun k => match k with
  | 0 => .array (.object "OhmNets$Shares")
  | 1 => .object "OhmNets$Fraction"
  | _ => .int
abbrev wsX10 : List Cond := u_ws RX1 TX1 3
theorem nmX1 : ∀ a, a < 3 → ∀ b, b < 3 → a ≠ b → (TX1 a).2.1 ≠ (TX1 b).2.1 := by decide +kernel
theorem tyX1_ok : ∀ k, k < 3 → parseFieldDescriptor (TX1 k).2.2.1 = some (tyX1 k) := by decide +kernel
abbrev cX1_init : ByteArray := prog_3_method_1_code
def yX1_init : MethodName := ⟨RX1, "<init>", "()V"⟩
abbrev cX1_sharesOf : ByteArray := prog_3_method_2_code
def yX1_sharesOf : MethodName := ⟨RX1, "sharesOf", "(I)LOhmNets$Shares;"⟩
abbrev cX1_fill : ByteArray := prog_3_method_3_code
def yX1_fill : MethodName := ⟨RX1, "fill", "(I)V"⟩
abbrev cX1_offerPairs : ByteArray := prog_3_method_4_code
def yX1_offerPairs : MethodName := ⟨RX1, "offerPairs", "(III)V"⟩
abbrev cX1_join : ByteArray := prog_3_method_5_code
def yX1_join : MethodName := ⟨RX1, "join", "(LOhmNets$Share;LOhmNets$Share;I)Z"⟩
def RX2 : String := "OhmNets$LongWire"
def TX2 : u_T := fun k => match k with
  | 0 => ("OhmNets$OneWire", "kind", "I", true)
  | 1 => ("OhmNets$OneWire", "first", "I", true)
  | 2 => ("OhmNets$OneWire", "second", "I", true)
  | _ => ("OhmNets$LongWire", "k", "I", true)
def tyX2 : Nat → FieldType := fun k => match k with
  | 0 => .int
  | 1 => .int
  | 2 => .int
  | _ => .int
abbrev wsX20 : List Cond := u_ws RX2 TX2 4
theorem nmX2 : ∀ a, a < 4 → ∀ b, b < 4 → a ≠ b → (TX2 a).2.1 ≠ (TX2 b).2.1 := by decide +kernel
theorem tyX2_ok : ∀ k, k < 4 → parseFieldDescriptor (TX2 k).2.2.1 = some (tyX2 k) := by decide +kernel
abbrev cX2_init : ByteArray := prog_4_method_1_code
def yX2_init : MethodName := ⟨RX2, "<init>", "(IIII)V"⟩
abbrev cX2_measure : ByteArray := prog_4_method_2_code
def yX2_measure : MethodName := ⟨RX2, "measure", "(LOhmNets$Fraction;)I"⟩
def RX3 : String := "OhmNets$Net"
def TX3 : u_T := fun k => match k with
  | 0 => ("OhmNets$Net", "wires", "[LOhmNets$OneWire;", true)
  | 1 => ("OhmNets$Net", "flows", "[J", true)
  | 2 => ("OhmNets$Net", "size", "I", false)
  | 3 => ("OhmNets$Net", "measured", "LOhmNets$Fraction;", true)
  | 4 => ("OhmNets$Net", "neighbours", "[I", true)
  | 5 => ("OhmNets$Net", "lines", "[[J", true)
  | 6 => ("OhmNets$Net", "lineOf", "[I", true)
  | _ => ("OhmNets$Net", "lineCount", "I", false)
def tyX3 : Nat → FieldType := fun k => match k with
  | 0 => .array (.object "OhmNets$OneWire")
  | 1 => .array .long
  | 2 => .int
  | 3 => .object "OhmNets$Fraction"
  | 4 => .array .int
  | 5 => .array (.array .long)
  | 6 => .array .int
  | _ => .int
abbrev wsX30 : List Cond := u_ws RX3 TX3 8
theorem nmX3 : ∀ a, a < 8 → ∀ b, b < 8 → a ≠ b → (TX3 a).2.1 ≠ (TX3 b).2.1 := by decide +kernel
theorem tyX3_ok : ∀ k, k < 8 → parseFieldDescriptor (TX3 k).2.2.1 = some (tyX3 k) := by decide +kernel
abbrev cX3_init : ByteArray := prog_5_method_1_code
def yX3_init : MethodName := ⟨RX3, "<init>", "()V"⟩
abbrev cX3_size : ByteArray := prog_5_method_2_code
def yX3_size : MethodName := ⟨RX3, "size", "()I"⟩
abbrev cX3_at : ByteArray := prog_5_method_3_code
def yX3_at : MethodName := ⟨RX3, "at", "(I)LOhmNets$OneWire;"⟩
abbrev cX3_add : ByteArray := prog_5_method_4_code
def yX3_add : MethodName := ⟨RX3, "add", "(LOhmNets$OneWire;)I"⟩
abbrev cX3_flowOf : ByteArray := prog_5_method_5_code
def yX3_flowOf : MethodName := ⟨RX3, "flowOf", "(LOhmNets$OneWire;)J"⟩
abbrev cX3_removeLatest : ByteArray := prog_5_method_6_code
def yX3_removeLatest : MethodName := ⟨RX3, "removeLatest", "()I"⟩
abbrev cX3_knotsWithWires : ByteArray := prog_5_method_7_code
def yX3_knotsWithWires : MethodName := ⟨RX3, "knotsWithWires", "()I"⟩
abbrev cX3_hangTogether : ByteArray := prog_5_method_8_code
def yX3_hangTogether : MethodName := ⟨RX3, "hangTogether", "(II)Z"⟩
abbrev cX3_reachedFrom : ByteArray := prog_5_method_9_code
def yX3_reachedFrom : MethodName := ⟨RX3, "reachedFrom", "(I)I"⟩
abbrev cX3_solveBetween : ByteArray := prog_5_method_10_code
def yX3_solveBetween : MethodName := ⟨RX3, "solveBetween", "(IILOhmNets$Fraction;)V"⟩
abbrev cX3_solveThrough : ByteArray := prog_5_method_11_code
def yX3_solveThrough : MethodName := ⟨RX3, "solveThrough", "(IIILOhmNets$Fraction;)V"⟩
abbrev cX3_solve : ByteArray := prog_5_method_12_code
def yX3_solve : MethodName := ⟨RX3, "solve", "(II)J"⟩
abbrev cX3_numberOf : ByteArray := prog_5_method_13_code
def yX3_numberOf : MethodName := ⟨RX3, "numberOf", "(I)J"⟩
abbrev cX3_countTrees : ByteArray := prog_5_method_14_code
def yX3_countTrees : MethodName := ⟨RX3, "countTrees", "()I"⟩
abbrev cX3_layLines : ByteArray := prog_5_method_15_code
def yX3_layLines : MethodName := ⟨RX3, "layLines", "(IIZ)V"⟩
abbrev cX3_numberLines : ByteArray := prog_5_method_16_code
def yX3_numberLines : MethodName := ⟨RX3, "numberLines", "(I)V"⟩
abbrev cX3_layEnd : ByteArray := prog_5_method_17_code
def yX3_layEnd : MethodName := ⟨RX3, "layEnd", "(IIJ)V"⟩
abbrev cX3_eliminate : ByteArray := prog_5_method_18_code
def yX3_eliminate : MethodName := ⟨RX3, "eliminate", "()J"⟩
abbrev cX3_subtract : ByteArray := prog_5_method_19_code
def yX3_subtract : MethodName := ⟨RX3, "subtract", "(IIJ)V"⟩
abbrev cX3_fallsTogether : ByteArray := prog_5_method_20_code
def yX3_fallsTogether : MethodName := ⟨RX3, "fallsTogether", "(II)Z"⟩
abbrev cX3_layNeighbours : ByteArray := prog_5_method_21_code
def yX3_layNeighbours : MethodName := ⟨RX3, "layNeighbours", "(I)V"⟩
abbrev cX3_link : ByteArray := prog_5_method_22_code
def yX3_link : MethodName := ⟨RX3, "link", "(II)V"⟩
abbrev cX3_takeAway : ByteArray := prog_5_method_23_code
def yX3_takeAway : MethodName := ⟨RX3, "takeAway", "(I)V"⟩
def RX4 : String := "OhmNets$OneWire"
def TX4 : u_T := fun k => match k with
  | 0 => ("OhmNets$OneWire", "kind", "I", true)
  | 1 => ("OhmNets$OneWire", "first", "I", true)
  | _ => ("OhmNets$OneWire", "second", "I", true)
def tyX4 : Nat → FieldType := fun k => match k with
  | 0 => .int
  | 1 => .int
  | _ => .int
abbrev wsX40 : List Cond := u_ws RX4 TX4 3
theorem nmX4 : ∀ a, a < 3 → ∀ b, b < 3 → a ≠ b → (TX4 a).2.1 ≠ (TX4 b).2.1 := by decide +kernel
theorem tyX4_ok : ∀ k, k < 3 → parseFieldDescriptor (TX4 k).2.2.1 = some (tyX4 k) := by decide +kernel
abbrev cX4_init : ByteArray := prog_6_method_1_code
def yX4_init : MethodName := ⟨RX4, "<init>", "(III)V"⟩
abbrev cX4_measure : ByteArray := prog_6_method_2_code
def yX4_measure : MethodName := ⟨RX4, "measure", "(LOhmNets$Fraction;)I"⟩
abbrev cX4_touches : ByteArray := prog_6_method_3_code
def yX4_touches : MethodName := ⟨RX4, "touches", "(I)Z"⟩
def RX5 : String := "OhmNets$Share"
def TX5 : u_T := fun k => match k with
  | 0 => ("OhmNets$Share", "upper", "I", true)
  | 1 => ("OhmNets$Share", "lower", "I", true)
  | 2 => ("OhmNets$Share", "how", "I", true)
  | 3 => ("OhmNets$Share", "firstParts", "I", true)
  | 4 => ("OhmNets$Share", "firstRank", "I", true)
  | _ => ("OhmNets$Share", "secondRank", "I", true)
def tyX5 : Nat → FieldType := fun k => match k with
  | 0 => .int
  | 1 => .int
  | 2 => .int
  | 3 => .int
  | 4 => .int
  | _ => .int
abbrev wsX50 : List Cond := u_ws RX5 TX5 6
theorem nmX5 : ∀ a, a < 6 → ∀ b, b < 6 → a ≠ b → (TX5 a).2.1 ≠ (TX5 b).2.1 := by decide +kernel
theorem tyX5_ok : ∀ k, k < 6 → parseFieldDescriptor (TX5 k).2.2.1 = some (tyX5 k) := by decide +kernel
abbrev cX5_init : ByteArray := prog_7_method_1_code
def yX5_init : MethodName := ⟨RX5, "<init>", "(IIIIII)V"⟩
def RX6 : String := "OhmNets$Shares"
def TX6 : u_T := fun k => match k with
  | _ => ("OhmNets$Shares", "inOrder", "Ljava/util/ArrayList;", true)
def tyX6 : Nat → FieldType := fun k => match k with
  | _ => .object "java/util/ArrayList"
abbrev wsX60 : List Cond := u_ws RX6 TX6 1
theorem nmX6 : ∀ a, a < 1 → ∀ b, b < 1 → a ≠ b → (TX6 a).2.1 ≠ (TX6 b).2.1 := by decide +kernel
theorem tyX6_ok : ∀ k, k < 1 → parseFieldDescriptor (TX6 k).2.2.1 = some (tyX6 k) := by decide +kernel
abbrev cX6_init : ByteArray := prog_8_method_1_code
def yX6_init : MethodName := ⟨RX6, "<init>", "()V"⟩
abbrev cX6_size : ByteArray := prog_8_method_2_code
def yX6_size : MethodName := ⟨RX6, "size", "()I"⟩
abbrev cX6_at : ByteArray := prog_8_method_3_code
def yX6_at : MethodName := ⟨RX6, "at", "(I)LOhmNets$Share;"⟩
abbrev cX6_find : ByteArray := prog_8_method_4_code
def yX6_find : MethodName := ⟨RX6, "find", "(II)I"⟩
abbrev cX6_offer : ByteArray := prog_8_method_5_code
def yX6_offer : MethodName := ⟨RX6, "offer", "(LOhmNets$Fraction;IIII)V"⟩
abbrev cX6_placeOf : ByteArray := prog_8_method_6_code
def yX6_placeOf : MethodName := ⟨RX6, "placeOf", "(II)I"⟩
abbrev cX6_isAt : ByteArray := prog_8_method_7_code
def yX6_isAt : MethodName := ⟨RX6, "isAt", "(III)Z"⟩
abbrev cX6_compare : ByteArray := prog_8_method_8_code
def yX6_compare : MethodName := ⟨RX6, "compare", "(LOhmNets$Share;II)I"⟩
def RX7 : String := "OhmNets$Shop"
def TX7 : u_T := fun k => match k with
  | 0 => ("OhmNets$Shop", "sortOhms", "[I", true)
  | 1 => ("OhmNets$Shop", "sortPrices", "[I", true)
  | 2 => ("OhmNets$Shop", "size", "I", false)
  | 3 => ("OhmNets$Shop", "tried", "LOhmNets$Fraction;", true)
  | _ => ("OhmNets$Shop", "kept", "LOhmNets$Fraction;", true)
def tyX7 : Nat → FieldType := fun k => match k with
  | 0 => .array .int
  | 1 => .array .int
  | 2 => .int
  | 3 => .object "OhmNets$Fraction"
  | _ => .object "OhmNets$Fraction"
abbrev wsX70 : List Cond := u_ws RX7 TX7 5
theorem nmX7 : ∀ a, a < 5 → ∀ b, b < 5 → a ≠ b → (TX7 a).2.1 ≠ (TX7 b).2.1 := by decide +kernel
theorem tyX7_ok : ∀ k, k < 5 → parseFieldDescriptor (TX7 k).2.2.1 = some (tyX7 k) := by decide +kernel
abbrev cX7_init : ByteArray := prog_9_method_1_code
def yX7_init : MethodName := ⟨RX7, "<init>", "()V"⟩
abbrev cX7_size : ByteArray := prog_9_method_2_code
def yX7_size : MethodName := ⟨RX7, "size", "()I"⟩
abbrev cX7_add : ByteArray := prog_9_method_3_code
def yX7_add : MethodName := ⟨RX7, "add", "(II)I"⟩
abbrev cX7_has : ByteArray := prog_9_method_4_code
def yX7_has : MethodName := ⟨RX7, "has", "(I)Z"⟩
abbrev cX7_isOneSort : ByteArray := prog_9_method_5_code
def yX7_isOneSort : MethodName := ⟨RX7, "isOneSort", "(I)Z"⟩
abbrev cX7_firstOf : ByteArray := prog_9_method_6_code
def yX7_firstOf : MethodName := ⟨RX7, "firstOf", "(I)I"⟩
abbrev cX7_secondOf : ByteArray := prog_9_method_7_code
def yX7_secondOf : MethodName := ⟨RX7, "secondOf", "(I)I"⟩
abbrev cX7_priceOf : ByteArray := prog_9_method_8_code
def yX7_priceOf : MethodName := ⟨RX7, "priceOf", "(I)I"⟩
abbrev cX7_measure : ByteArray := prog_9_method_9_code
def yX7_measure : MethodName := ⟨RX7, "measure", "(ILOhmNets$Fraction;)V"⟩
abbrev cX7_nearestTo : ByteArray := prog_9_method_10_code
def yX7_nearestTo : MethodName := ⟨RX7, "nearestTo", "(II)I"⟩
abbrev cX7_isTriedBetter : ByteArray := prog_9_method_11_code
def yX7_isTriedBetter : MethodName := ⟨RX7, "isTriedBetter", "(IIII)Z"⟩
abbrev cX7_gap : ByteArray := prog_9_method_12_code
def yX7_gap : MethodName := ⟨RX7, "gap", "(LOhmNets$Fraction;II)J"⟩
def RX8 : String := "OhmNets$ThickWire"
def TX8 : u_T := fun k => match k with
  | 0 => ("OhmNets$LongWire", "k", "I", true)
  | 1 => ("OhmNets$OneWire", "kind", "I", true)
  | 2 => ("OhmNets$OneWire", "first", "I", true)
  | 3 => ("OhmNets$OneWire", "second", "I", true)
  | _ => ("OhmNets$ThickWire", "m", "I", true)
def tyX8 : Nat → FieldType := fun k => match k with
  | 0 => .int
  | 1 => .int
  | 2 => .int
  | 3 => .int
  | _ => .int
abbrev wsX80 : List Cond := u_ws RX8 TX8 5
theorem nmX8 : ∀ a, a < 5 → ∀ b, b < 5 → a ≠ b → (TX8 a).2.1 ≠ (TX8 b).2.1 := by decide +kernel
theorem tyX8_ok : ∀ k, k < 5 → parseFieldDescriptor (TX8 k).2.2.1 = some (tyX8 k) := by decide +kernel
abbrev cX8_init : ByteArray := prog_10_method_1_code
def yX8_init : MethodName := ⟨RX8, "<init>", "(IIIII)V"⟩
abbrev cX8_measure : ByteArray := prog_10_method_2_code
def yX8_measure : MethodName := ⟨RX8, "measure", "(LOhmNets$Fraction;)I"⟩
def RX9 : String := "OhmNets"
def TX9 : u_T := fun k => match k with
  | 0 => ("OhmNets", "likeParts", "LOhmNets$LikeParts;", true)
  | 1 => ("OhmNets", "net", "LOhmNets$Net;", true)
  | 2 => ("OhmNets", "shop", "LOhmNets$Shop;", true)
  | 3 => ("OhmNets", "answer", "LOhmNets$Fraction;", true)
  | _ => ("OhmNets", "traced", "J", false)
def tyX9 : Nat → FieldType := fun k => match k with
  | 0 => .object "OhmNets$LikeParts"
  | 1 => .object "OhmNets$Net"
  | 2 => .object "OhmNets$Shop"
  | 3 => .object "OhmNets$Fraction"
  | _ => .long
abbrev wsX90 : List Cond := u_ws RX9 TX9 5
theorem nmX9 : ∀ a, a < 5 → ∀ b, b < 5 → a ≠ b → (TX9 a).2.1 ≠ (TX9 b).2.1 := by decide +kernel
theorem tyX9_ok : ∀ k, k < 5 → parseFieldDescriptor (TX9 k).2.2.1 = some (tyX9 k) := by decide +kernel
abbrev cX9_init : ByteArray := prog_1_method_1_code
def yX9_init : MethodName := ⟨RX9, "<init>", "()V"⟩
abbrev cX9_many : ByteArray := prog_1_method_2_code
def yX9_many : MethodName := ⟨RX9, "many", "(I)I"⟩
abbrev cX9_share : ByteArray := prog_1_method_3_code
def yX9_share : MethodName := ⟨RX9, "share", "(III)I"⟩
abbrev cX9_rank : ByteArray := prog_1_method_4_code
def yX9_rank : MethodName := ⟨RX9, "rank", "(III)I"⟩
abbrev cX9_fewest : ByteArray := prog_1_method_5_code
def yX9_fewest : MethodName := ⟨RX9, "fewest", "(II)I"⟩
abbrev cX9_made : ByteArray := prog_1_method_6_code
def yX9_made : MethodName := ⟨RX9, "made", "(III)I"⟩
abbrev cX9_turned : ByteArray := prog_1_method_7_code
def yX9_turned : MethodName := ⟨RX9, "turned", "(II)I"⟩
abbrev cX9_shareAt : ByteArray := prog_1_method_8_code
def yX9_shareAt : MethodName := ⟨RX9, "shareAt", "(II)LOhmNets$Share;"⟩
abbrev cX9_wire : ByteArray := prog_1_method_9_code
def yX9_wire : MethodName := ⟨RX9, "wire", "(IIIII)I"⟩
abbrev cX9_newWire : ByteArray := prog_1_method_10_code
def yX9_newWire : MethodName := ⟨RX9, "newWire", "(IIIII)LOhmNets$OneWire;"⟩
abbrev cX9_cut : ByteArray := prog_1_method_11_code
def yX9_cut : MethodName := ⟨RX9, "cut", "()I"⟩
abbrev cX9_ohms : ByteArray := prog_1_method_12_code
def yX9_ohms : MethodName := ⟨RX9, "ohms", "(II)I"⟩
abbrev cX9_about : ByteArray := prog_1_method_13_code
def yX9_about : MethodName := ⟨RX9, "about", "(II)I"⟩
abbrev cX9_between : ByteArray := prog_1_method_14_code
def yX9_between : MethodName := ⟨RX9, "between", "(III)J"⟩
abbrev cX9_through : ByteArray := prog_1_method_15_code
def yX9_through : MethodName := ⟨RX9, "through", "(IIII)J"⟩
abbrev cX9_trees : ByteArray := prog_1_method_16_code
def yX9_trees : MethodName := ⟨RX9, "trees", "()I"⟩
abbrev cX9_falls : ByteArray := prog_1_method_17_code
def yX9_falls : MethodName := ⟨RX9, "falls", "(II)I"⟩
abbrev cX9_sort : ByteArray := prog_1_method_18_code
def yX9_sort : MethodName := ⟨RX9, "sort", "(II)I"⟩
abbrev cX9_nearest : ByteArray := prog_1_method_19_code
def yX9_nearest : MethodName := ⟨RX9, "nearest", "(II)I"⟩
abbrev cX9_choice : ByteArray := prog_1_method_20_code
def yX9_choice : MethodName := ⟨RX9, "choice", "(II)I"⟩
abbrev cX9_count : ByteArray := prog_1_method_21_code
def yX9_count : MethodName := ⟨RX9, "count", "(I)I"⟩
abbrev cX9_trace : ByteArray := prog_1_method_22_code
def yX9_trace : MethodName := ⟨RX9, "trace", "()J"⟩
abbrev cX9_isWithin : ByteArray := prog_1_method_23_code
def yX9_isWithin : MethodName := ⟨RX9, "isWithin", "(III)Z"⟩
abbrev cX9_isTold : ByteArray := prog_1_method_24_code
def yX9_isTold : MethodName := ⟨RX9, "isTold", "(III)Z"⟩
abbrev cX9_isKnot : ByteArray := prog_1_method_25_code
def yX9_isKnot : MethodName := ⟨RX9, "isKnot", "(I)Z"⟩
abbrev cX9_areTwoKnots : ByteArray := prog_1_method_26_code
def yX9_areTwoKnots : MethodName := ⟨RX9, "areTwoKnots", "(II)Z"⟩
def RX10 : String := "OhmNetsModel"
def TX10 : u_T := fun k => match k with
  | 0 => ("OhmNetsModel", "thrown", "I", false)
  | 1 => ("OhmNetsModel", "trace", "J", false)
  | 2 => ("OhmNetsModel", "upper", "[I", true)
  | 3 => ("OhmNetsModel", "lower", "[I", true)
  | 4 => ("OhmNetsModel", "begins", "[I", true)
  | 5 => ("OhmNetsModel", "size", "I", false)
  | 6 => ("OhmNetsModel", "hasShares", "Z", false)
  | 7 => ("OhmNetsModel", "wires", "I", false)
  | 8 => ("OhmNetsModel", "kind", "[I", true)
  | 9 => ("OhmNetsModel", "first", "[I", true)
  | 10 => ("OhmNetsModel", "second", "[I", true)
  | 11 => ("OhmNetsModel", "times", "[I", true)
  | 12 => ("OhmNetsModel", "by", "[I", true)
  | 13 => ("OhmNetsModel", "group", "[I", true)
  | 14 => ("OhmNetsModel", "whole", "[I", true)
  | 15 => ("OhmNetsModel", "from", "[I", true)
  | 16 => ("OhmNetsModel", "to", "[I", true)
  | 17 => ("OhmNetsModel", "isThere", "[Z", true)
  | 18 => ("OhmNetsModel", "way", "[I", true)
  | 19 => ("OhmNetsModel", "sorts", "I", false)
  | 20 => ("OhmNetsModel", "ohms", "[I", true)
  | 21 => ("OhmNetsModel", "price", "[I", true)
  | 22 => ("OhmNetsModel", "above", "J", false)
  | _ => ("OhmNetsModel", "below", "J", false)
def tyX10 : Nat → FieldType := fun k => match k with
  | 0 => .int
  | 1 => .long
  | 2 => .array .int
  | 3 => .array .int
  | 4 => .array .int
  | 5 => .int
  | 6 => .boolean
  | 7 => .int
  | 8 => .array .int
  | 9 => .array .int
  | 10 => .array .int
  | 11 => .array .int
  | 12 => .array .int
  | 13 => .array .int
  | 14 => .array .int
  | 15 => .array .int
  | 16 => .array .int
  | 17 => .array .boolean
  | 18 => .array .int
  | 19 => .int
  | 20 => .array .int
  | 21 => .array .int
  | 22 => .long
  | _ => .long
abbrev wsX100 : List Cond := u_ws RX10 TX10 24
theorem nmX10 : ∀ a, a < 24 → ∀ b, b < 24 → a ≠ b → (TX10 a).2.1 ≠ (TX10 b).2.1 := by decide +kernel
theorem tyX10_ok : ∀ k, k < 24 → parseFieldDescriptor (TX10 k).2.2.1 = some (tyX10 k) := by decide +kernel
abbrev cX10_init : ByteArray := prog_12_method_1_code
def yX10_init : MethodName := ⟨RX10, "<init>", "()V"⟩
abbrev cX10_in : ByteArray := prog_12_method_3_code
def yX10_in : MethodName := ⟨RX10, "in", "(III)Z"⟩
abbrev cX10_common : ByteArray := prog_12_method_4_code
def yX10_common : MethodName := ⟨RX10, "common", "(JJ)J"⟩
abbrev cX10_least : ByteArray := prog_12_method_5_code
def yX10_least : MethodName := ⟨RX10, "least", "(JJ)V"⟩
abbrev cX10_puts : ByteArray := prog_12_method_6_code
def yX10_puts : MethodName := ⟨RX10, "puts", "(IJJ)V"⟩
abbrev cX10_needShares : ByteArray := prog_12_method_7_code
def yX10_needShares : MethodName := ⟨RX10, "needShares", "()V"⟩
abbrev cX10_isParts : ByteArray := prog_12_method_8_code
def yX10_isParts : MethodName := ⟨RX10, "isParts", "(I)Z"⟩
abbrev cX10_countOf : ByteArray := prog_12_method_9_code
def yX10_countOf : MethodName := ⟨RX10, "countOf", "(I)I"⟩
abbrev cX10_isShare : ByteArray := prog_12_method_10_code
def yX10_isShare : MethodName := ⟨RX10, "isShare", "(II)Z"⟩
abbrev cX10_rankOf : ByteArray := prog_12_method_11_code
def yX10_rankOf : MethodName := ⟨RX10, "rankOf", "(IJJ)I"⟩
abbrev cX10_many : ByteArray := prog_12_method_12_code
def yX10_many : MethodName := ⟨RX10, "many", "(I)I"⟩
abbrev cX10_share : ByteArray := prog_12_method_13_code
def yX10_share : MethodName := ⟨RX10, "share", "(III)I"⟩
abbrev cX10_isFraction : ByteArray := prog_12_method_14_code
def yX10_isFraction : MethodName := ⟨RX10, "isFraction", "(II)Z"⟩
abbrev cX10_rank : ByteArray := prog_12_method_15_code
def yX10_rank : MethodName := ⟨RX10, "rank", "(III)I"⟩
abbrev cX10_fewest : ByteArray := prog_12_method_16_code
def yX10_fewest : MethodName := ⟨RX10, "fewest", "(II)I"⟩
abbrev cX10_made : ByteArray := prog_12_method_17_code
def yX10_made : MethodName := ⟨RX10, "made", "(III)I"⟩
abbrev cX10_turned : ByteArray := prog_12_method_18_code
def yX10_turned : MethodName := ⟨RX10, "turned", "(II)I"⟩
abbrev cX10_isKnot : ByteArray := prog_12_method_19_code
def yX10_isKnot : MethodName := ⟨RX10, "isKnot", "(I)Z"⟩
abbrev cX10_wire : ByteArray := prog_12_method_20_code
def yX10_wire : MethodName := ⟨RX10, "wire", "(IIIII)I"⟩
abbrev cX10_cut : ByteArray := prog_12_method_21_code
def yX10_cut : MethodName := ⟨RX10, "cut", "()I"⟩
abbrev cX10_isWire : ByteArray := prog_12_method_22_code
def yX10_isWire : MethodName := ⟨RX10, "isWire", "(I)Z"⟩
abbrev cX10_ohms : ByteArray := prog_12_method_23_code
def yX10_ohms : MethodName := ⟨RX10, "ohms", "(II)I"⟩
abbrev cX10_about : ByteArray := prog_12_method_24_code
def yX10_about : MethodName := ⟨RX10, "about", "(II)I"⟩
abbrev cX10_joins : ByteArray := prog_12_method_25_code
def yX10_joins : MethodName := ⟨RX10, "joins", "(I)Z"⟩
abbrev cX10_hang : ByteArray := prog_12_method_26_code
def yX10_hang : MethodName := ⟨RX10, "hang", "(II)Z"⟩
abbrev cX10_sizeOf : ByteArray := prog_12_method_27_code
def yX10_sizeOf : MethodName := ⟨RX10, "sizeOf", "(I)I"⟩
abbrev cX10_bits : ByteArray := prog_12_method_28_code
def yX10_bits : MethodName := ⟨RX10, "bits", "(I)I"⟩
abbrev cX10_isOf : ByteArray := prog_12_method_29_code
def yX10_isOf : MethodName := ⟨RX10, "isOf", "(II)Z"⟩
abbrev cX10_weight : ByteArray := prog_12_method_30_code
def yX10_weight : MethodName := ⟨RX10, "weight", "(I)J"⟩
abbrev cX10_between : ByteArray := prog_12_method_31_code
def yX10_between : MethodName := ⟨RX10, "between", "(III)J"⟩
abbrev cX10_goes : ByteArray := prog_12_method_32_code
def yX10_goes : MethodName := ⟨RX10, "goes", "(IIII)I"⟩
abbrev cX10_through : ByteArray := prog_12_method_33_code
def yX10_through : MethodName := ⟨RX10, "through", "(IIII)J"⟩
abbrev cX10_hasWire : ByteArray := prog_12_method_34_code
def yX10_hasWire : MethodName := ⟨RX10, "hasWire", "(I)Z"⟩
abbrev cX10_knots : ByteArray := prog_12_method_35_code
def yX10_knots : MethodName := ⟨RX10, "knots", "()I"⟩
abbrev cX10_trees : ByteArray := prog_12_method_36_code
def yX10_trees : MethodName := ⟨RX10, "trees", "()I"⟩
abbrev cX10_wiresAt : ByteArray := prog_12_method_37_code
def yX10_wiresAt : MethodName := ⟨RX10, "wiresAt", "(I)I"⟩
abbrev cX10_links : ByteArray := prog_12_method_38_code
def yX10_links : MethodName := ⟨RX10, "links", "(I)V"⟩
abbrev cX10_lessens : ByteArray := prog_12_method_39_code
def yX10_lessens : MethodName := ⟨RX10, "lessens", "(II)Z"⟩
abbrev cX10_falls : ByteArray := prog_12_method_40_code
def yX10_falls : MethodName := ⟨RX10, "falls", "(II)I"⟩
abbrev cX10_sort : ByteArray := prog_12_method_41_code
def yX10_sort : MethodName := ⟨RX10, "sort", "(II)I"⟩
abbrev cX10_isChoice : ByteArray := prog_12_method_42_code
def yX10_isChoice : MethodName := ⟨RX10, "isChoice", "(I)Z"⟩
abbrev cX10_looks : ByteArray := prog_12_method_43_code
def yX10_looks : MethodName := ⟨RX10, "looks", "(I)I"⟩
abbrev cX10_nearest : ByteArray := prog_12_method_44_code
def yX10_nearest : MethodName := ⟨RX10, "nearest", "(II)I"⟩
abbrev cX10_choice : ByteArray := prog_12_method_45_code
def yX10_choice : MethodName := ⟨RX10, "choice", "(II)I"⟩
abbrev cX10_count : ByteArray := prog_12_method_46_code
def yX10_count : MethodName := ⟨RX10, "count", "(I)I"⟩
abbrev cX10_trace : ByteArray := prog_12_method_47_code
def yX10_trace : MethodName := ⟨RX10, "trace", "()J"⟩
def RJx145de : String := "java/io/Serializable"
def TJx145de : u_T := fun k => match k with
  | _ => ("", "", "", false)
def tyJx145de : Nat → FieldType := fun k => match k with
  | _ => .int
abbrev wsJx145de0 : List Cond := u_ws RJx145de TJx145de 0
theorem nmJx145de : ∀ a, a < 0 → ∀ b, b < 0 → a ≠ b → (TJx145de a).2.1 ≠ (TJx145de b).2.1 := by decide +kernel
theorem tyJx145de_ok : ∀ k, k < 0 → parseFieldDescriptor (TJx145de k).2.2.1 = some (tyJx145de k) := by decide +kernel
def RJx8e188 : String := "java/lang/Cloneable"
def TJx8e188 : u_T := fun k => match k with
  | _ => ("", "", "", false)
def tyJx8e188 : Nat → FieldType := fun k => match k with
  | _ => .int
abbrev wsJx8e1880 : List Cond := u_ws RJx8e188 TJx8e188 0
theorem nmJx8e188 : ∀ a, a < 0 → ∀ b, b < 0 → a ≠ b → (TJx8e188 a).2.1 ≠ (TJx8e188 b).2.1 := by decide +kernel
theorem tyJx8e188_ok : ∀ k, k < 0 → parseFieldDescriptor (TJx8e188 k).2.2.1 = some (tyJx8e188 k) := by decide +kernel
def RJ6 : String := "java/lang/Integer"
def TJ6 : u_T := fun k => match k with
  | _ => ("", "", "", false)
def tyJ6 : Nat → FieldType := fun k => match k with
  | _ => .int
abbrev wsJ60 : List Cond := u_ws RJ6 TJ6 0
theorem nmJ6 : ∀ a, a < 0 → ∀ b, b < 0 → a ≠ b → (TJ6 a).2.1 ≠ (TJ6 b).2.1 := by decide +kernel
theorem tyJ6_ok : ∀ k, k < 0 → parseFieldDescriptor (TJ6 k).2.2.1 = some (tyJ6 k) := by decide +kernel
abbrev cJ6_numberOfTrailingZeros_0f7a4 : ByteArray := prog_15_method_48_code
def yJ6_numberOfTrailingZeros_0f7a4 : MethodName := ⟨RJ6, "numberOfTrailingZeros", "(I)I"⟩
abbrev cJ6_bitCount_0f7a4 : ByteArray := prog_15_method_49_code
def yJ6_bitCount_0f7a4 : MethodName := ⟨RJ6, "bitCount", "(I)I"⟩
def RJxab1ab : String := "java/lang/Iterable"
def TJxab1ab : u_T := fun k => match k with
  | _ => ("", "", "", false)
def tyJxab1ab : Nat → FieldType := fun k => match k with
  | _ => .int
abbrev wsJxab1ab0 : List Cond := u_ws RJxab1ab TJxab1ab 0
theorem nmJxab1ab : ∀ a, a < 0 → ∀ b, b < 0 → a ≠ b → (TJxab1ab a).2.1 ≠ (TJxab1ab b).2.1 := by decide +kernel
theorem tyJxab1ab_ok : ∀ k, k < 0 → parseFieldDescriptor (TJxab1ab k).2.2.1 = some (tyJxab1ab k) := by decide +kernel
def RJ13 : String := "java/lang/Long"
def TJ13 : u_T := fun k => match k with
  | _ => ("", "", "", false)
def tyJ13 : Nat → FieldType := fun k => match k with
  | _ => .int
abbrev wsJ130 : List Cond := u_ws RJ13 TJ13 0
theorem nmJ13 : ∀ a, a < 0 → ∀ b, b < 0 → a ≠ b → (TJ13 a).2.1 ≠ (TJ13 b).2.1 := by decide +kernel
theorem tyJ13_ok : ∀ k, k < 0 → parseFieldDescriptor (TJ13 k).2.2.1 = some (tyJ13 k) := by decide +kernel
abbrev cJ13_compare_74951 : ByteArray := prog_17_method_42_code
def yJ13_compare_74951 : MethodName := ⟨RJ13, "compare", "(JJ)I"⟩
def RJ9 : String := "java/lang/Math"
def TJ9 : u_T := fun k => match k with
  | _ => ("", "", "", false)
def tyJ9 : Nat → FieldType := fun k => match k with
  | _ => .int
abbrev wsJ90 : List Cond := u_ws RJ9 TJ9 0
theorem nmJ9 : ∀ a, a < 0 → ∀ b, b < 0 → a ≠ b → (TJ9 a).2.1 ≠ (TJ9 b).2.1 := by decide +kernel
theorem tyJ9_ok : ∀ k, k < 0 → parseFieldDescriptor (TJ9 k).2.2.1 = some (tyJ9 k) := by decide +kernel
abbrev cJ9_abs_067f4 : ByteArray := prog_18_method_61_code
def yJ9_abs_067f4 : MethodName := ⟨RJ9, "abs", "(J)J"⟩
abbrev cJ9_max_7cf53 : ByteArray := prog_18_method_65_code
def yJ9_max_7cf53 : MethodName := ⟨RJ9, "max", "(II)I"⟩
abbrev cJ9_min_7cf53 : ByteArray := prog_18_method_69_code
def yJ9_min_7cf53 : MethodName := ⟨RJ9, "min", "(II)I"⟩
def RJ10 : String := "java/lang/System"
def TJ10 : u_T := fun k => match k with
  | _ => ("", "", "", false)
def tyJ10 : Nat → FieldType := fun k => match k with
  | _ => .int
abbrev wsJ100 : List Cond := u_ws RJ10 TJ10 0
theorem nmJ10 : ∀ a, a < 0 → ∀ b, b < 0 → a ≠ b → (TJ10 a).2.1 ≠ (TJ10 b).2.1 := by decide +kernel
theorem tyJ10_ok : ∀ k, k < 0 → parseFieldDescriptor (TJ10 k).2.2.1 = some (tyJ10 k) := by decide +kernel
def RJxa1e45 : String := "java/util/AbstractCollection"
def TJxa1e45 : u_T := fun k => match k with
  | _ => ("", "", "", false)
def tyJxa1e45 : Nat → FieldType := fun k => match k with
  | _ => .int
abbrev wsJxa1e450 : List Cond := u_ws RJxa1e45 TJxa1e45 0
theorem nmJxa1e45 : ∀ a, a < 0 → ∀ b, b < 0 → a ≠ b → (TJxa1e45 a).2.1 ≠ (TJxa1e45 b).2.1 := by decide +kernel
theorem tyJxa1e45_ok : ∀ k, k < 0 → parseFieldDescriptor (TJxa1e45 k).2.2.1 = some (tyJxa1e45 k) := by decide +kernel
abbrev cJxa1e45_init_da8c8 : ByteArray := prog_20_method_1_code
def yJxa1e45_init_da8c8 : MethodName := ⟨RJxa1e45, "<init>", "()V"⟩
def RJxc12de : String := "java/util/AbstractList"
def TJxc12de : u_T := fun k => match k with
  | _ => ("", "", "", false)
def tyJxc12de : Nat → FieldType := fun k => match k with
  | _ => .int
abbrev wsJxc12de0 : List Cond := u_ws RJxc12de TJxc12de 0
theorem nmJxc12de : ∀ a, a < 0 → ∀ b, b < 0 → a ≠ b → (TJxc12de a).2.1 ≠ (TJxc12de b).2.1 := by decide +kernel
theorem tyJxc12de_ok : ∀ k, k < 0 → parseFieldDescriptor (TJxc12de k).2.2.1 = some (tyJxc12de k) := by decide +kernel
abbrev cJxc12de_init_da8c8 : ByteArray := prog_21_method_1_code
def yJxc12de_init_da8c8 : MethodName := ⟨RJxc12de, "<init>", "()V"⟩
def RJx4a65c : String := "java/util/ArrayList"
def TJx4a65c : u_T := fun k => match k with
  | 0 => ("java/util/AbstractList", "modCount", "I", false)
  | 1 => ("java/util/ArrayList", "elementData", "[Ljava/lang/Object;", false)
  | _ => ("java/util/ArrayList", "size", "I", false)
def tyJx4a65c : Nat → FieldType := fun k => match k with
  | 0 => .int
  | 1 => .array (.object "java/lang/Object")
  | _ => .int
abbrev wsJx4a65c0 : List Cond := u_ws RJx4a65c TJx4a65c 3
theorem nmJx4a65c : ∀ a, a < 3 → ∀ b, b < 3 → a ≠ b → (TJx4a65c a).2.1 ≠ (TJx4a65c b).2.1 := by decide +kernel
theorem tyJx4a65c_ok : ∀ k, k < 3 → parseFieldDescriptor (TJx4a65c k).2.2.1 = some (tyJx4a65c k) := by decide +kernel
abbrev cJx4a65c_init_da8c8 : ByteArray := prog_22_method_2_code
def yJx4a65c_init_da8c8 : MethodName := ⟨RJx4a65c, "<init>", "()V"⟩
abbrev cJx4a65c_grow_92f84 : ByteArray := prog_22_method_6_code
def yJx4a65c_grow_92f84 : MethodName := ⟨RJx4a65c, "grow", "(I)[Ljava/lang/Object;"⟩
abbrev cJx4a65c_grow_d5877 : ByteArray := prog_22_method_7_code
def yJx4a65c_grow_d5877 : MethodName := ⟨RJx4a65c, "grow", "()[Ljava/lang/Object;"⟩
abbrev cJx4a65c_size_8abf5 : ByteArray := prog_22_method_8_code
def yJx4a65c_size_8abf5 : MethodName := ⟨RJx4a65c, "size", "()I"⟩
abbrev cJx4a65c_elementData_915e3 : ByteArray := prog_22_method_18_code
def yJx4a65c_elementData_915e3 : MethodName := ⟨RJx4a65c, "elementData", "(I)Ljava/lang/Object;"⟩
abbrev cJx4a65c_get_915e3 : ByteArray := prog_22_method_20_code
def yJx4a65c_get_915e3 : MethodName := ⟨RJx4a65c, "get", "(I)Ljava/lang/Object;"⟩
abbrev cJx4a65c_add_7a177 : ByteArray := prog_22_method_26_code
def yJx4a65c_add_7a177 : MethodName := ⟨RJx4a65c, "add", "(ILjava/lang/Object;)V"⟩
abbrev cJx4a65c_rangeCheckForAdd_d00df : ByteArray := prog_22_method_45_code
def yJx4a65c_rangeCheckForAdd_d00df : MethodName := ⟨RJx4a65c, "rangeCheckForAdd", "(I)V"⟩
def RJ7 : String := "java/util/Arrays"
def TJ7 : u_T := fun k => match k with
  | _ => ("", "", "", false)
def tyJ7 : Nat → FieldType := fun k => match k with
  | _ => .int
abbrev wsJ70 : List Cond := u_ws RJ7 TJ7 0
theorem nmJ7 : ∀ a, a < 0 → ∀ b, b < 0 → a ≠ b → (TJ7 a).2.1 ≠ (TJ7 b).2.1 := by decide +kernel
theorem tyJ7_ok : ∀ k, k < 0 → parseFieldDescriptor (TJ7 k).2.2.1 = some (tyJ7 k) := by decide +kernel
abbrev cJ7_copyOf_1904c : ByteArray := prog_23_method_119_code
def yJ7_copyOf_1904c : MethodName := ⟨RJ7, "copyOf", "([Ljava/lang/Object;I)[Ljava/lang/Object;"⟩
abbrev cJ7_copyOf_6403c : ByteArray := prog_23_method_120_code
def yJ7_copyOf_6403c : MethodName := ⟨RJ7, "copyOf", "([Ljava/lang/Object;ILjava/lang/Class;)[Ljava/lang/Object;"⟩
def RJx5ef63 : String := "java/util/Collection"
def TJx5ef63 : u_T := fun k => match k with
  | _ => ("", "", "", false)
def tyJx5ef63 : Nat → FieldType := fun k => match k with
  | _ => .int
abbrev wsJx5ef630 : List Cond := u_ws RJx5ef63 TJx5ef63 0
theorem nmJx5ef63 : ∀ a, a < 0 → ∀ b, b < 0 → a ≠ b → (TJx5ef63 a).2.1 ≠ (TJx5ef63 b).2.1 := by decide +kernel
theorem tyJx5ef63_ok : ∀ k, k < 0 → parseFieldDescriptor (TJx5ef63 k).2.2.1 = some (tyJx5ef63 k) := by decide +kernel
def RJxbd725 : String := "java/util/List"
def TJxbd725 : u_T := fun k => match k with
  | _ => ("", "", "", false)
def tyJxbd725 : Nat → FieldType := fun k => match k with
  | _ => .int
abbrev wsJxbd7250 : List Cond := u_ws RJxbd725 TJxbd725 0
theorem nmJxbd725 : ∀ a, a < 0 → ∀ b, b < 0 → a ≠ b → (TJxbd725 a).2.1 ≠ (TJxbd725 b).2.1 := by decide +kernel
theorem tyJxbd725_ok : ∀ k, k < 0 → parseFieldDescriptor (TJxbd725 k).2.2.1 = some (tyJxbd725 k) := by decide +kernel
def RJ15 : String := "java/util/Objects"
def TJ15 : u_T := fun k => match k with
  | _ => ("", "", "", false)
def tyJ15 : Nat → FieldType := fun k => match k with
  | _ => .int
abbrev wsJ150 : List Cond := u_ws RJ15 TJ15 0
theorem nmJ15 : ∀ a, a < 0 → ∀ b, b < 0 → a ≠ b → (TJ15 a).2.1 ≠ (TJ15 b).2.1 := by decide +kernel
theorem tyJ15_ok : ∀ k, k < 0 → parseFieldDescriptor (TJ15 k).2.2.1 = some (tyJ15 k) := by decide +kernel
abbrev cJ15_checkIndex_7cf53 : ByteArray := prog_26_method_17_code
def yJ15_checkIndex_7cf53 : MethodName := ⟨RJ15, "checkIndex", "(II)I"⟩
def RJxf0a74 : String := "java/util/RandomAccess"
def TJxf0a74 : u_T := fun k => match k with
  | _ => ("", "", "", false)
def tyJxf0a74 : Nat → FieldType := fun k => match k with
  | _ => .int
abbrev wsJxf0a740 : List Cond := u_ws RJxf0a74 TJxf0a74 0
theorem nmJxf0a74 : ∀ a, a < 0 → ∀ b, b < 0 → a ≠ b → (TJxf0a74 a).2.1 ≠ (TJxf0a74 b).2.1 := by decide +kernel
theorem tyJxf0a74_ok : ∀ k, k < 0 → parseFieldDescriptor (TJxf0a74 k).2.2.1 = some (tyJxf0a74 k) := by decide +kernel
def RJxa66e6 : String := "java/util/SequencedCollection"
def TJxa66e6 : u_T := fun k => match k with
  | _ => ("", "", "", false)
def tyJxa66e6 : Nat → FieldType := fun k => match k with
  | _ => .int
abbrev wsJxa66e60 : List Cond := u_ws RJxa66e6 TJxa66e6 0
theorem nmJxa66e6 : ∀ a, a < 0 → ∀ b, b < 0 → a ≠ b → (TJxa66e6 a).2.1 ≠ (TJxa66e6 b).2.1 := by decide +kernel
theorem tyJxa66e6_ok : ∀ k, k < 0 → parseFieldDescriptor (TJxa66e6 k).2.2.1 = some (tyJxa66e6 k) := by decide +kernel
def RJ8 : String := "jdk/internal/util/ArraysSupport"
def TJ8 : u_T := fun k => match k with
  | _ => ("", "", "", false)
def tyJ8 : Nat → FieldType := fun k => match k with
  | _ => .int
abbrev wsJ80 : List Cond := u_ws RJ8 TJ8 0
theorem nmJ8 : ∀ a, a < 0 → ∀ b, b < 0 → a ≠ b → (TJ8 a).2.1 ≠ (TJ8 b).2.1 := by decide +kernel
theorem tyJ8_ok : ∀ k, k < 0 → parseFieldDescriptor (TJ8 k).2.2.1 = some (tyJ8 k) := by decide +kernel
abbrev cJ8_newLength_cabcc : ByteArray := prog_29_method_27_code
def yJ8_newLength_cabcc : MethodName := ⟨RJ8, "newLength", "(III)I"⟩
abbrev cJ8_hugeLength_7cf53 : ByteArray := prog_29_method_28_code
def yJ8_hugeLength_7cf53 : MethodName := ⟨RJ8, "hugeLength", "(II)I"⟩
def RJ3 : String := "jdk/internal/util/Preconditions"
def TJ3 : u_T := fun k => match k with
  | _ => ("", "", "", false)
def tyJ3 : Nat → FieldType := fun k => match k with
  | _ => .int
abbrev wsJ30 : List Cond := u_ws RJ3 TJ3 0
theorem nmJ3 : ∀ a, a < 0 → ∀ b, b < 0 → a ≠ b → (TJ3 a).2.1 ≠ (TJ3 b).2.1 := by decide +kernel
theorem tyJ3_ok : ∀ k, k < 0 → parseFieldDescriptor (TJ3 k).2.2.1 = some (tyJ3 k) := by decide +kernel
abbrev cJ3_checkIndex_8e157 : ByteArray := prog_30_method_11_code
def yJ3_checkIndex_8e157 : MethodName := ⟨RJ3, "checkIndex", "(IILjava/util/function/BiFunction;)I"⟩
def RL : String := "OhmNetsLaw"
abbrev cL_law : ByteArray := code
def yL_law : MethodName := ⟨RL, "law", "([I)Z"⟩
def wsX0_init : List Cond := .code yX0_init cX0_init 1 none :: ([.methodLink RX0 1 objectInit, .instanceMethod objectInit, .code objectInit ⟨#[0xb1]⟩ 1 none, .fieldLink RX0 7 "OhmNets$Fraction" "upper" "J", .fieldLink RX0 13 "OhmNets$Fraction" "lower" "J"] ++ wsX00)
def wsX0_set : List Cond := .code yX0_set cX0_set 5 none :: ([.fieldLink RX0 7 "OhmNets$Fraction" "upper" "J", .fieldLink RX0 13 "OhmNets$Fraction" "lower" "J"] ++ wsX00)
def wsX0_commonDivisor : List Cond := .code yX0_commonDivisor cX0_commonDivisor 11 (some .long) :: ([])
def wsX0_reduce : List Cond := .code yX0_reduce cX0_reduce 3 none :: ([.fieldLink RX0 7 "OhmNets$Fraction" "upper" "J", .methodLink RX0 16 Lib.MathLoose.abs_long.x, .static Lib.MathLoose.abs_long.x, .initialized "java/lang/Math", .code Lib.MathLoose.abs_long.x Lib.MathLoose.abs_long.code 2 (some .long), .fieldLink RX0 13 "OhmNets$Fraction" "lower" "J", .methodLink RX0 22 yX0_commonDivisor, .static yX0_commonDivisor, .initialized RX0, .code yX0_commonDivisor cX0_commonDivisor 11 (some .long)] ++ wsX00)
def wsX0_part : List Cond := .code yX0_part cX0_part 2 (some .long) :: ([.fieldLink RX0 7 "OhmNets$Fraction" "upper" "J", .fieldLink RX0 13 "OhmNets$Fraction" "lower" "J"] ++ wsX00)
def wsJxa1e45_init_da8c8 : List Cond := .code yJxa1e45_init_da8c8 cJxa1e45_init_da8c8 1 none :: ([.methodLink RJxa1e45 1 objectInit, .instanceMethod objectInit, .code objectInit ⟨#[0xb1]⟩ 1 none])
def wsJxc12de_init_da8c8 : List Cond := .code yJxc12de_init_da8c8 cJxc12de_init_da8c8 1 none :: ([.fieldLink RJxc12de 7 "java/util/AbstractList" "modCount" "I", .methodLink RJxc12de 1 yJxa1e45_init_da8c8, .instanceMethod yJxa1e45_init_da8c8, .initialized RJxa1e45, .code yJxa1e45_init_da8c8 cJxa1e45_init_da8c8 1 none, .methodLink RJxa1e45 1 objectInit, .instanceMethod objectInit, .code objectInit ⟨#[0xb1]⟩ 1 none] ++ wsJx4a65c0)
def wsJx4a65c_init_da8c8 : List Cond := .code yJx4a65c_init_da8c8 cJx4a65c_init_da8c8 1 none :: ([.fieldLink RJx4a65c 39 "java/util/ArrayList" "DEFAULTCAPACITY_EMPTY_ELEMENTDATA" "[Ljava/lang/Object;", .fieldLink RJx4a65c 9 "java/util/ArrayList" "elementData" "[Ljava/lang/Object;", .methodLink RJx4a65c 1 yJxc12de_init_da8c8, .instanceMethod yJxc12de_init_da8c8, .initialized RJxc12de, .code yJxc12de_init_da8c8 cJxc12de_init_da8c8 1 none, .fieldLink RJxc12de 7 "java/util/AbstractList" "modCount" "I", .methodLink RJxc12de 1 yJxa1e45_init_da8c8, .instanceMethod yJxa1e45_init_da8c8, .initialized RJxa1e45, .code yJxa1e45_init_da8c8 cJxa1e45_init_da8c8 1 none, .methodLink RJxa1e45 1 objectInit, .instanceMethod objectInit, .code objectInit ⟨#[0xb1]⟩ 1 none] ++ wsJx4a65c0)
def wsX6_init : List Cond := .code yX6_init cX6_init 1 none :: ([.methodLink RX6 3 objectInit, .instanceMethod objectInit, .code objectInit ⟨#[0xb1]⟩ 1 none, .classLink RX6 9 RJx4a65c, .instantiable RJx4a65c 3, .initialized RJx4a65c, .fieldLink RX6 12 "OhmNets$Shares" "inOrder" "Ljava/util/ArrayList;", .methodLink RX6 11 yJx4a65c_init_da8c8, .instanceMethod yJx4a65c_init_da8c8, .code yJx4a65c_init_da8c8 cJx4a65c_init_da8c8 1 none, .fieldLink RJx4a65c 39 "java/util/ArrayList" "DEFAULTCAPACITY_EMPTY_ELEMENTDATA" "[Ljava/lang/Object;", .fieldLink RJx4a65c 9 "java/util/ArrayList" "elementData" "[Ljava/lang/Object;", .methodLink RJx4a65c 1 yJxc12de_init_da8c8, .instanceMethod yJxc12de_init_da8c8, .initialized RJxc12de, .code yJxc12de_init_da8c8 cJxc12de_init_da8c8 1 none, .fieldLink RJxc12de 7 "java/util/AbstractList" "modCount" "I", .methodLink RJxc12de 1 yJxa1e45_init_da8c8, .instanceMethod yJxa1e45_init_da8c8, .initialized RJxa1e45, .code yJxa1e45_init_da8c8 cJxa1e45_init_da8c8 1 none, .methodLink RJxa1e45 1 objectInit] ++ wsJx4a65c0 ++ wsX60)
def wsX1_init_r1 : List Cond := [Cond.methodLink RX1 3 objectInit, Cond.instanceMethod objectInit, Cond.code objectInit ⟨#[0xb1]⟩ 1 none, Cond.classLink RX1 9 RX6, Cond.fieldLink RX1 11 "OhmNets$LikeParts" "byParts" "[LOhmNets$Shares;", Cond.classLink RX1 17 RX0, Cond.instantiable RX0 2, Cond.initialized RX0, Cond.fieldLink RX1 20 "OhmNets$LikeParts" "value" "LOhmNets$Fraction;", Cond.fieldLink RX1 24 "OhmNets$LikeParts" "known" "I", Cond.instantiable RX6 1, Cond.initialized RX6, Cond.instanceMethod yX0_init, Cond.code yX0_init cX0_init 1 none, Cond.methodLink RX0 1 objectInit, Cond.fieldLink RX0 7 "OhmNets$Fraction" "upper" "J", Cond.fieldLink RX0 13 "OhmNets$Fraction" "lower" "J", Cond.instanceMethod yX6_init, Cond.code yX6_init cX6_init 1 none, Cond.methodLink RX6 3 objectInit, Cond.classLink RX6 9 RJx4a65c, Cond.instantiable RJx4a65c 3, Cond.initialized RJx4a65c, Cond.fieldLink RX6 12 "OhmNets$Shares" "inOrder" "Ljava/util/ArrayList;"]
def wsX1_init_r2 : List Cond := [Cond.methodLink RX6 11 yJx4a65c_init_da8c8, Cond.instanceMethod yJx4a65c_init_da8c8, Cond.code yJx4a65c_init_da8c8 cJx4a65c_init_da8c8 1 none, Cond.fieldLink RJx4a65c 39 "java/util/ArrayList" "DEFAULTCAPACITY_EMPTY_ELEMENTDATA" "[Ljava/lang/Object;", Cond.fieldLink RJx4a65c 9 "java/util/ArrayList" "elementData" "[Ljava/lang/Object;", Cond.methodLink RJx4a65c 1 yJxc12de_init_da8c8, Cond.instanceMethod yJxc12de_init_da8c8, Cond.initialized RJxc12de, Cond.code yJxc12de_init_da8c8 cJxc12de_init_da8c8 1 none, Cond.fieldLink RJxc12de 7 "java/util/AbstractList" "modCount" "I", Cond.methodLink RJxc12de 1 yJxa1e45_init_da8c8, Cond.instanceMethod yJxa1e45_init_da8c8, Cond.initialized RJxa1e45, Cond.code yJxa1e45_init_da8c8 cJxa1e45_init_da8c8 1 none, Cond.methodLink RJxa1e45 1 objectInit]
def wsX1_init : List Cond := .code yX1_init cX1_init 2 none :: ((wsX1_init_r1 ++ wsX1_init_r2) ++ wsX10 ++ wsX00 ++ wsX60 ++ wsJx4a65c0)
def wsJx4a65c_size_8abf5 : List Cond := .code yJx4a65c_size_8abf5 cJx4a65c_size_8abf5 1 (some .int) :: ([.fieldLink RJx4a65c 48 "java/util/ArrayList" "size" "I"] ++ wsJx4a65c0)
def wsJ3_checkIndex_8e157 : List Cond := .code yJ3_checkIndex_8e157 cJ3_checkIndex_8e157 3 (some .int) :: ([])
def wsJ15_checkIndex_7cf53 : List Cond := .code yJ15_checkIndex_7cf53 cJ15_checkIndex_7cf53 2 (some .int) :: ([.methodLink RJ15 105 yJ3_checkIndex_8e157, .static yJ3_checkIndex_8e157, .initialized RJ3, .code yJ3_checkIndex_8e157 cJ3_checkIndex_8e157 3 (some .int)])
def wsJx4a65c_elementData_915e3 : List Cond := .code yJx4a65c_elementData_915e3 cJx4a65c_elementData_915e3 2 (some (.object "java/lang/Object")) :: ([.fieldLink RJx4a65c 9 "java/util/ArrayList" "elementData" "[Ljava/lang/Object;"] ++ wsJx4a65c0)
def wsJx4a65c_get_915e3 : List Cond := .code yJx4a65c_get_915e3 cJx4a65c_get_915e3 2 (some (.object "java/lang/Object")) :: ([.fieldLink RJx4a65c 48 "java/util/ArrayList" "size" "I", .methodLink RJx4a65c 118 yJ15_checkIndex_7cf53, .static yJ15_checkIndex_7cf53, .initialized RJ15, .code yJ15_checkIndex_7cf53 cJ15_checkIndex_7cf53 2 (some .int), .methodLink RJ15 105 yJ3_checkIndex_8e157, .static yJ3_checkIndex_8e157, .initialized RJ3, .code yJ3_checkIndex_8e157 cJ3_checkIndex_8e157 3 (some .int), .methodLink RJx4a65c 123 yJx4a65c_elementData_915e3, .instanceMethod yJx4a65c_elementData_915e3, .selects RJx4a65c yJx4a65c_elementData_915e3 yJx4a65c_elementData_915e3, .initialized RJx4a65c, .code yJx4a65c_elementData_915e3 cJx4a65c_elementData_915e3 2 (some (.object "java/lang/Object")), .fieldLink RJx4a65c 9 "java/util/ArrayList" "elementData" "[Ljava/lang/Object;"] ++ wsJx4a65c0)
def wsJ13_compare_74951 : List Cond := .code yJ13_compare_74951 cJ13_compare_74951 4 (some .int) :: ([])
def wsX6_compare : List Cond := .code yX6_compare cX6_compare 3 (some .int) :: ([.fieldLink RX6 59 "OhmNets$Share" "upper" "I", .fieldLink RX6 62 "OhmNets$Share" "lower" "I", .methodLink RX6 64 yJ13_compare_74951, .static yJ13_compare_74951, .initialized RJ13, .code yJ13_compare_74951 cJ13_compare_74951 4 (some .int)] ++ wsX50)
def wsX6_placeOf_r1 : List Cond := [Cond.fieldLink RX6 12 "OhmNets$Shares" "inOrder" "Ljava/util/ArrayList;", Cond.classLink RX6 26 "OhmNets$Share", Cond.methodLink RX6 18 yJx4a65c_size_8abf5, Cond.instanceMethod yJx4a65c_size_8abf5, Cond.selects RJx4a65c yJx4a65c_size_8abf5 yJx4a65c_size_8abf5, Cond.initialized RJx4a65c, Cond.code yJx4a65c_size_8abf5 cJx4a65c_size_8abf5 1 (some .int), Cond.fieldLink RJx4a65c 48 "java/util/ArrayList" "size" "I", Cond.methodLink RX6 22 yJx4a65c_get_915e3, Cond.instanceMethod yJx4a65c_get_915e3, Cond.selects RJx4a65c yJx4a65c_get_915e3 yJx4a65c_get_915e3, Cond.code yJx4a65c_get_915e3 cJx4a65c_get_915e3 2 (some (.object "java/lang/Object")), Cond.methodLink RJx4a65c 118 yJ15_checkIndex_7cf53, Cond.static yJ15_checkIndex_7cf53, Cond.initialized RJ15, Cond.code yJ15_checkIndex_7cf53 cJ15_checkIndex_7cf53 2 (some .int), Cond.methodLink RJ15 105 yJ3_checkIndex_8e157, Cond.static yJ3_checkIndex_8e157, Cond.initialized RJ3, Cond.code yJ3_checkIndex_8e157 cJ3_checkIndex_8e157 3 (some .int), Cond.methodLink RJx4a65c 123 yJx4a65c_elementData_915e3, Cond.instanceMethod yJx4a65c_elementData_915e3, Cond.selects RJx4a65c yJx4a65c_elementData_915e3 yJx4a65c_elementData_915e3, Cond.code yJx4a65c_elementData_915e3 cJx4a65c_elementData_915e3 2 (some (.object "java/lang/Object"))]
def wsX6_placeOf_r2 : List Cond := [Cond.fieldLink RJx4a65c 9 "java/util/ArrayList" "elementData" "[Ljava/lang/Object;", Cond.methodLink RX6 55 yX6_compare, Cond.static yX6_compare, Cond.initialized RX6, Cond.code yX6_compare cX6_compare 3 (some .int), Cond.fieldLink RX6 59 "OhmNets$Share" "upper" "I", Cond.fieldLink RX6 62 "OhmNets$Share" "lower" "I", Cond.methodLink RX6 64 yJ13_compare_74951, Cond.static yJ13_compare_74951, Cond.initialized RJ13, Cond.code yJ13_compare_74951 cJ13_compare_74951 4 (some .int)]
def wsX6_placeOf : List Cond := .code yX6_placeOf cX6_placeOf 7 (some .int) :: ((wsX6_placeOf_r1 ++ wsX6_placeOf_r2) ++ wsX60 ++ wsJx4a65c0 ++ wsX50)
def wsX6_isAt_r1 : List Cond := [Cond.fieldLink RX6 12 "OhmNets$Shares" "inOrder" "Ljava/util/ArrayList;", Cond.classLink RX6 26 "OhmNets$Share", Cond.methodLink RX6 18 yJx4a65c_size_8abf5, Cond.instanceMethod yJx4a65c_size_8abf5, Cond.selects RJx4a65c yJx4a65c_size_8abf5 yJx4a65c_size_8abf5, Cond.initialized RJx4a65c, Cond.code yJx4a65c_size_8abf5 cJx4a65c_size_8abf5 1 (some .int), Cond.fieldLink RJx4a65c 48 "java/util/ArrayList" "size" "I", Cond.methodLink RX6 22 yJx4a65c_get_915e3, Cond.instanceMethod yJx4a65c_get_915e3, Cond.selects RJx4a65c yJx4a65c_get_915e3 yJx4a65c_get_915e3, Cond.code yJx4a65c_get_915e3 cJx4a65c_get_915e3 2 (some (.object "java/lang/Object")), Cond.methodLink RJx4a65c 118 yJ15_checkIndex_7cf53, Cond.static yJ15_checkIndex_7cf53, Cond.initialized RJ15, Cond.code yJ15_checkIndex_7cf53 cJ15_checkIndex_7cf53 2 (some .int), Cond.methodLink RJ15 105 yJ3_checkIndex_8e157, Cond.static yJ3_checkIndex_8e157, Cond.initialized RJ3, Cond.code yJ3_checkIndex_8e157 cJ3_checkIndex_8e157 3 (some .int), Cond.methodLink RJx4a65c 123 yJx4a65c_elementData_915e3, Cond.instanceMethod yJx4a65c_elementData_915e3, Cond.selects RJx4a65c yJx4a65c_elementData_915e3 yJx4a65c_elementData_915e3, Cond.code yJx4a65c_elementData_915e3 cJx4a65c_elementData_915e3 2 (some (.object "java/lang/Object"))]
def wsX6_isAt_r2 : List Cond := [Cond.fieldLink RJx4a65c 9 "java/util/ArrayList" "elementData" "[Ljava/lang/Object;", Cond.methodLink RX6 55 yX6_compare, Cond.static yX6_compare, Cond.initialized RX6, Cond.code yX6_compare cX6_compare 3 (some .int), Cond.fieldLink RX6 59 "OhmNets$Share" "upper" "I", Cond.fieldLink RX6 62 "OhmNets$Share" "lower" "I", Cond.methodLink RX6 64 yJ13_compare_74951, Cond.static yJ13_compare_74951, Cond.initialized RJ13, Cond.code yJ13_compare_74951 cJ13_compare_74951 4 (some .int)]
def wsX6_isAt : List Cond := .code yX6_isAt cX6_isAt 4 (some .boolean) :: ((wsX6_isAt_r1 ++ wsX6_isAt_r2) ++ wsX60 ++ wsJx4a65c0 ++ wsX50)
def wsX5_init : List Cond := .code yX5_init cX5_init 7 none :: ([.methodLink RX5 1 objectInit, .instanceMethod objectInit, .code objectInit ⟨#[0xb1]⟩ 1 none, .fieldLink RX5 7 "OhmNets$Share" "upper" "I", .fieldLink RX5 13 "OhmNets$Share" "lower" "I", .fieldLink RX5 16 "OhmNets$Share" "how" "I", .fieldLink RX5 19 "OhmNets$Share" "firstParts" "I", .fieldLink RX5 22 "OhmNets$Share" "firstRank" "I", .fieldLink RX5 25 "OhmNets$Share" "secondRank" "I"] ++ wsX50)
def wsJx4a65c_rangeCheckForAdd_d00df : List Cond := .code yJx4a65c_rangeCheckForAdd_d00df cJx4a65c_rangeCheckForAdd_d00df 2 none :: ([.fieldLink RJx4a65c 48 "java/util/ArrayList" "size" "I"] ++ wsJx4a65c0)
def wsJ8_hugeLength_7cf53 : List Cond := .code yJ8_hugeLength_7cf53 cJ8_hugeLength_7cf53 3 (some .int) :: ([.constant RJ8 200 (2147483639)])
def wsJ8_newLength_cabcc : List Cond := .code yJ8_newLength_cabcc cJ8_newLength_cabcc 4 (some .int) :: ([.methodLink RJ8 194 Lib.Math.max.name, .static Lib.Math.max.name, .initialized "java/lang/Math", .code Lib.Math.max.name Lib.Math.max.code 2 (some .int), .constant RJ8 200 (2147483639), .methodLink RJ8 201 yJ8_hugeLength_7cf53, .static yJ8_hugeLength_7cf53, .initialized RJ8, .code yJ8_hugeLength_7cf53 cJ8_hugeLength_7cf53 3 (some .int)])
def wsJ7_copyOf_6403c : List Cond := .code yJ7_copyOf_6403c cJ7_copyOf_6403c 4 (some (.array (.object "java/lang/Object"))) :: ([.classLink RJ7 110 "[Ljava/lang/Object;", .classLink RJ7 2 "java/lang/Object", .methodLink RJ7 304 Lib.Math.min.name, .static Lib.Math.min.name, .initialized "java/lang/Math", .code Lib.Math.min.name Lib.Math.min.code 2 (some .int), .methodLink RJ7 150 arraycopyName, .native arraycopyName, .static arraycopyName, .initialized "java/lang/System"])
def wsJ7_copyOf_1904c : List Cond := .code yJ7_copyOf_1904c cJ7_copyOf_1904c 2 (some (.array (.object "java/lang/Object"))) :: ([.methodLink RJ7 86 ⟨"java/lang/Object", "getClass", "()Ljava/lang/Class;"⟩, .selects "[Ljava/lang/Object;" ⟨"java/lang/Object", "getClass", "()Ljava/lang/Class;"⟩ ⟨"java/lang/Object", "getClass", "()Ljava/lang/Class;"⟩, .instanceMethod ⟨"java/lang/Object", "getClass", "()Ljava/lang/Class;"⟩, .native ⟨"java/lang/Object", "getClass", "()Ljava/lang/Class;"⟩, .methodLink RJ7 300 yJ7_copyOf_6403c, .static yJ7_copyOf_6403c, .initialized RJ7, .code yJ7_copyOf_6403c cJ7_copyOf_6403c 4 (some (.array (.object "java/lang/Object"))), .classLink RJ7 110 "[Ljava/lang/Object;", .classLink RJ7 2 "java/lang/Object", .methodLink RJ7 304 Lib.Math.min.name, .static Lib.Math.min.name, .initialized "java/lang/Math", .code Lib.Math.min.name Lib.Math.min.code 2 (some .int), .methodLink RJ7 150 arraycopyName, .native arraycopyName, .static arraycopyName, .initialized "java/lang/System"])
def wsJx4a65c_grow_92f84_r1 : List Cond := [Cond.fieldLink RJx4a65c 9 "java/util/ArrayList" "elementData" "[Ljava/lang/Object;", Cond.fieldLink RJx4a65c 39 "java/util/ArrayList" "DEFAULTCAPACITY_EMPTY_ELEMENTDATA" "[Ljava/lang/Object;", Cond.methodLink RJx4a65c 79 Lib.Math.max.name, Cond.static Lib.Math.max.name, Cond.initialized "java/lang/Math", Cond.code Lib.Math.max.name Lib.Math.max.code 2 (some .int), Cond.classLink RJx4a65c 7 "java/lang/Object", Cond.methodLink RJx4a65c 73 yJ8_newLength_cabcc, Cond.static yJ8_newLength_cabcc, Cond.initialized RJ8, Cond.code yJ8_newLength_cabcc cJ8_newLength_cabcc 4 (some .int), Cond.methodLink RJ8 194 Lib.Math.max.name, Cond.constant RJ8 200 (2147483639), Cond.methodLink RJ8 201 yJ8_hugeLength_7cf53, Cond.static yJ8_hugeLength_7cf53, Cond.code yJ8_hugeLength_7cf53 cJ8_hugeLength_7cf53 3 (some .int), Cond.methodLink RJx4a65c 66 yJ7_copyOf_1904c, Cond.static yJ7_copyOf_1904c, Cond.initialized RJ7, Cond.code yJ7_copyOf_1904c cJ7_copyOf_1904c 2 (some (.array (.object "java/lang/Object"))), Cond.methodLink RJ7 86 ⟨"java/lang/Object", "getClass", "()Ljava/lang/Class;"⟩, Cond.selects "[Ljava/lang/Object;" ⟨"java/lang/Object", "getClass", "()Ljava/lang/Class;"⟩ ⟨"java/lang/Object", "getClass", "()Ljava/lang/Class;"⟩, Cond.instanceMethod ⟨"java/lang/Object", "getClass", "()Ljava/lang/Class;"⟩, Cond.native ⟨"java/lang/Object", "getClass", "()Ljava/lang/Class;"⟩]
def wsJx4a65c_grow_92f84_r2 : List Cond := [Cond.methodLink RJ7 300 yJ7_copyOf_6403c, Cond.static yJ7_copyOf_6403c, Cond.code yJ7_copyOf_6403c cJ7_copyOf_6403c 4 (some (.array (.object "java/lang/Object"))), Cond.classLink RJ7 110 "[Ljava/lang/Object;", Cond.classLink RJ7 2 "java/lang/Object", Cond.methodLink RJ7 304 Lib.Math.min.name, Cond.static Lib.Math.min.name, Cond.code Lib.Math.min.name Lib.Math.min.code 2 (some .int), Cond.methodLink RJ7 150 arraycopyName, Cond.native arraycopyName, Cond.static arraycopyName, Cond.initialized "java/lang/System"]
def wsJx4a65c_grow_92f84 : List Cond := .code yJx4a65c_grow_92f84 cJx4a65c_grow_92f84 4 (some (.array (.object "java/lang/Object"))) :: ((wsJx4a65c_grow_92f84_r1 ++ wsJx4a65c_grow_92f84_r2) ++ wsJx4a65c0)
def wsJx4a65c_grow_d5877_r1 : List Cond := [Cond.fieldLink RJx4a65c 48 "java/util/ArrayList" "size" "I", Cond.methodLink RJx4a65c 69 yJx4a65c_grow_92f84, Cond.instanceMethod yJx4a65c_grow_92f84, Cond.selects RJx4a65c yJx4a65c_grow_92f84 yJx4a65c_grow_92f84, Cond.initialized RJx4a65c, Cond.code yJx4a65c_grow_92f84 cJx4a65c_grow_92f84 4 (some (.array (.object "java/lang/Object"))), Cond.fieldLink RJx4a65c 9 "java/util/ArrayList" "elementData" "[Ljava/lang/Object;", Cond.fieldLink RJx4a65c 39 "java/util/ArrayList" "DEFAULTCAPACITY_EMPTY_ELEMENTDATA" "[Ljava/lang/Object;", Cond.methodLink RJx4a65c 79 Lib.Math.max.name, Cond.static Lib.Math.max.name, Cond.initialized "java/lang/Math", Cond.code Lib.Math.max.name Lib.Math.max.code 2 (some .int), Cond.classLink RJx4a65c 7 "java/lang/Object", Cond.methodLink RJx4a65c 73 yJ8_newLength_cabcc, Cond.static yJ8_newLength_cabcc, Cond.initialized RJ8, Cond.code yJ8_newLength_cabcc cJ8_newLength_cabcc 4 (some .int), Cond.methodLink RJ8 194 Lib.Math.max.name, Cond.constant RJ8 200 (2147483639), Cond.methodLink RJ8 201 yJ8_hugeLength_7cf53, Cond.static yJ8_hugeLength_7cf53, Cond.code yJ8_hugeLength_7cf53 cJ8_hugeLength_7cf53 3 (some .int), Cond.methodLink RJx4a65c 66 yJ7_copyOf_1904c, Cond.static yJ7_copyOf_1904c]
def wsJx4a65c_grow_d5877_r2 : List Cond := [Cond.initialized RJ7, Cond.code yJ7_copyOf_1904c cJ7_copyOf_1904c 2 (some (.array (.object "java/lang/Object"))), Cond.methodLink RJ7 86 ⟨"java/lang/Object", "getClass", "()Ljava/lang/Class;"⟩, Cond.selects "[Ljava/lang/Object;" ⟨"java/lang/Object", "getClass", "()Ljava/lang/Class;"⟩ ⟨"java/lang/Object", "getClass", "()Ljava/lang/Class;"⟩, Cond.instanceMethod ⟨"java/lang/Object", "getClass", "()Ljava/lang/Class;"⟩, Cond.native ⟨"java/lang/Object", "getClass", "()Ljava/lang/Class;"⟩, Cond.methodLink RJ7 300 yJ7_copyOf_6403c, Cond.static yJ7_copyOf_6403c, Cond.code yJ7_copyOf_6403c cJ7_copyOf_6403c 4 (some (.array (.object "java/lang/Object"))), Cond.classLink RJ7 110 "[Ljava/lang/Object;", Cond.classLink RJ7 2 "java/lang/Object", Cond.methodLink RJ7 304 Lib.Math.min.name, Cond.static Lib.Math.min.name, Cond.code Lib.Math.min.name Lib.Math.min.code 2 (some .int), Cond.methodLink RJ7 150 arraycopyName, Cond.native arraycopyName, Cond.static arraycopyName, Cond.initialized "java/lang/System"]
def wsJx4a65c_grow_d5877 : List Cond := .code yJx4a65c_grow_d5877 cJx4a65c_grow_d5877 1 (some (.array (.object "java/lang/Object"))) :: ((wsJx4a65c_grow_d5877_r1 ++ wsJx4a65c_grow_d5877_r2) ++ wsJx4a65c0)
def wsJx4a65c_add_7a177_r1 : List Cond := [Cond.fieldLink RJx4a65c 63 "java/util/ArrayList" "modCount" "I", Cond.sameField "java/util/ArrayList" "java/util/AbstractList" "modCount" "I", Cond.fieldLink RJx4a65c 48 "java/util/ArrayList" "size" "I", Cond.fieldLink RJx4a65c 9 "java/util/ArrayList" "elementData" "[Ljava/lang/Object;", Cond.methodLink RJx4a65c 112 arraycopyName, Cond.native arraycopyName, Cond.static arraycopyName, Cond.initialized "java/lang/System", Cond.methodLink RJx4a65c 135 yJx4a65c_rangeCheckForAdd_d00df, Cond.instanceMethod yJx4a65c_rangeCheckForAdd_d00df, Cond.selects RJx4a65c yJx4a65c_rangeCheckForAdd_d00df yJx4a65c_rangeCheckForAdd_d00df, Cond.initialized RJx4a65c, Cond.code yJx4a65c_rangeCheckForAdd_d00df cJx4a65c_rangeCheckForAdd_d00df 2 none, Cond.methodLink RJx4a65c 129 yJx4a65c_grow_d5877, Cond.instanceMethod yJx4a65c_grow_d5877, Cond.selects RJx4a65c yJx4a65c_grow_d5877 yJx4a65c_grow_d5877, Cond.code yJx4a65c_grow_d5877 cJx4a65c_grow_d5877 1 (some (.array (.object "java/lang/Object"))), Cond.methodLink RJx4a65c 69 yJx4a65c_grow_92f84, Cond.instanceMethod yJx4a65c_grow_92f84, Cond.selects RJx4a65c yJx4a65c_grow_92f84 yJx4a65c_grow_92f84, Cond.code yJx4a65c_grow_92f84 cJx4a65c_grow_92f84 4 (some (.array (.object "java/lang/Object"))), Cond.fieldLink RJx4a65c 39 "java/util/ArrayList" "DEFAULTCAPACITY_EMPTY_ELEMENTDATA" "[Ljava/lang/Object;", Cond.methodLink RJx4a65c 79 Lib.Math.max.name, Cond.static Lib.Math.max.name]
def wsJx4a65c_add_7a177_r2 : List Cond := [Cond.initialized "java/lang/Math", Cond.code Lib.Math.max.name Lib.Math.max.code 2 (some .int), Cond.classLink RJx4a65c 7 "java/lang/Object", Cond.methodLink RJx4a65c 73 yJ8_newLength_cabcc, Cond.static yJ8_newLength_cabcc, Cond.initialized RJ8, Cond.code yJ8_newLength_cabcc cJ8_newLength_cabcc 4 (some .int), Cond.methodLink RJ8 194 Lib.Math.max.name, Cond.constant RJ8 200 (2147483639), Cond.methodLink RJ8 201 yJ8_hugeLength_7cf53, Cond.static yJ8_hugeLength_7cf53, Cond.code yJ8_hugeLength_7cf53 cJ8_hugeLength_7cf53 3 (some .int), Cond.methodLink RJx4a65c 66 yJ7_copyOf_1904c, Cond.static yJ7_copyOf_1904c, Cond.initialized RJ7, Cond.code yJ7_copyOf_1904c cJ7_copyOf_1904c 2 (some (.array (.object "java/lang/Object"))), Cond.methodLink RJ7 86 ⟨"java/lang/Object", "getClass", "()Ljava/lang/Class;"⟩, Cond.selects "[Ljava/lang/Object;" ⟨"java/lang/Object", "getClass", "()Ljava/lang/Class;"⟩ ⟨"java/lang/Object", "getClass", "()Ljava/lang/Class;"⟩, Cond.instanceMethod ⟨"java/lang/Object", "getClass", "()Ljava/lang/Class;"⟩, Cond.native ⟨"java/lang/Object", "getClass", "()Ljava/lang/Class;"⟩, Cond.methodLink RJ7 300 yJ7_copyOf_6403c, Cond.static yJ7_copyOf_6403c, Cond.code yJ7_copyOf_6403c cJ7_copyOf_6403c 4 (some (.array (.object "java/lang/Object"))), Cond.classLink RJ7 110 "[Ljava/lang/Object;"]
def wsJx4a65c_add_7a177_r3 : List Cond := [Cond.classLink RJ7 2 "java/lang/Object", Cond.methodLink RJ7 304 Lib.Math.min.name, Cond.static Lib.Math.min.name, Cond.code Lib.Math.min.name Lib.Math.min.code 2 (some .int), Cond.methodLink RJ7 150 arraycopyName]
def wsJx4a65c_add_7a177 : List Cond := .code yJx4a65c_add_7a177 cJx4a65c_add_7a177 5 none :: ((wsJx4a65c_add_7a177_r1 ++ (wsJx4a65c_add_7a177_r2 ++ wsJx4a65c_add_7a177_r3)) ++ wsJx4a65c0)
def wsX6_offer_r1 : List Cond := [Cond.fieldLink RX6 36 "OhmNets$Fraction" "upper" "J", Cond.fieldLink RX6 42 "OhmNets$Fraction" "lower" "J", Cond.fieldLink RX6 12 "OhmNets$Shares" "inOrder" "Ljava/util/ArrayList;", Cond.classLink RX6 26 RX5, Cond.instantiable RX5 6, Cond.initialized RX5, Cond.methodLink RX6 28 yX6_placeOf, Cond.instanceMethod yX6_placeOf, Cond.selects RX6 yX6_placeOf yX6_placeOf, Cond.initialized RX6, Cond.code yX6_placeOf cX6_placeOf 7 (some .int), Cond.classLink RX6 26 "OhmNets$Share", Cond.methodLink RX6 18 yJx4a65c_size_8abf5, Cond.instanceMethod yJx4a65c_size_8abf5, Cond.selects RJx4a65c yJx4a65c_size_8abf5 yJx4a65c_size_8abf5, Cond.initialized RJx4a65c, Cond.code yJx4a65c_size_8abf5 cJx4a65c_size_8abf5 1 (some .int), Cond.fieldLink RJx4a65c 48 "java/util/ArrayList" "size" "I", Cond.methodLink RX6 22 yJx4a65c_get_915e3, Cond.instanceMethod yJx4a65c_get_915e3, Cond.selects RJx4a65c yJx4a65c_get_915e3 yJx4a65c_get_915e3, Cond.code yJx4a65c_get_915e3 cJx4a65c_get_915e3 2 (some (.object "java/lang/Object")), Cond.methodLink RJx4a65c 118 yJ15_checkIndex_7cf53, Cond.static yJ15_checkIndex_7cf53]
def wsX6_offer_r2 : List Cond := [Cond.initialized RJ15, Cond.code yJ15_checkIndex_7cf53 cJ15_checkIndex_7cf53 2 (some .int), Cond.methodLink RJ15 105 yJ3_checkIndex_8e157, Cond.static yJ3_checkIndex_8e157, Cond.initialized RJ3, Cond.code yJ3_checkIndex_8e157 cJ3_checkIndex_8e157 3 (some .int), Cond.methodLink RJx4a65c 123 yJx4a65c_elementData_915e3, Cond.instanceMethod yJx4a65c_elementData_915e3, Cond.selects RJx4a65c yJx4a65c_elementData_915e3 yJx4a65c_elementData_915e3, Cond.code yJx4a65c_elementData_915e3 cJx4a65c_elementData_915e3 2 (some (.object "java/lang/Object")), Cond.fieldLink RJx4a65c 9 "java/util/ArrayList" "elementData" "[Ljava/lang/Object;", Cond.methodLink RX6 55 yX6_compare, Cond.static yX6_compare, Cond.code yX6_compare cX6_compare 3 (some .int), Cond.fieldLink RX6 59 "OhmNets$Share" "upper" "I", Cond.fieldLink RX6 62 "OhmNets$Share" "lower" "I", Cond.methodLink RX6 64 yJ13_compare_74951, Cond.static yJ13_compare_74951, Cond.initialized RJ13, Cond.code yJ13_compare_74951 cJ13_compare_74951 4 (some .int), Cond.methodLink RX6 32 yX6_isAt, Cond.instanceMethod yX6_isAt, Cond.selects RX6 yX6_isAt yX6_isAt, Cond.code yX6_isAt cX6_isAt 4 (some .boolean)]
def wsX6_offer_r3 : List Cond := [Cond.methodLink RX6 45 yX0_reduce, Cond.instanceMethod yX0_reduce, Cond.selects RX0 yX0_reduce yX0_reduce, Cond.initialized RX0, Cond.code yX0_reduce cX0_reduce 3 none, Cond.fieldLink RX0 7 "OhmNets$Fraction" "upper" "J", Cond.methodLink RX0 16 Lib.MathLoose.abs_long.x, Cond.static Lib.MathLoose.abs_long.x, Cond.initialized "java/lang/Math", Cond.code Lib.MathLoose.abs_long.x Lib.MathLoose.abs_long.code 2 (some .long), Cond.fieldLink RX0 13 "OhmNets$Fraction" "lower" "J", Cond.methodLink RX0 22 yX0_commonDivisor, Cond.static yX0_commonDivisor, Cond.code yX0_commonDivisor cX0_commonDivisor 11 (some .long), Cond.methodLink RX6 48 yX5_init, Cond.instanceMethod yX5_init, Cond.code yX5_init cX5_init 7 none, Cond.methodLink RX5 1 objectInit, Cond.instanceMethod objectInit, Cond.code objectInit ⟨#[0xb1]⟩ 1 none, Cond.fieldLink RX5 7 "OhmNets$Share" "upper" "I", Cond.fieldLink RX5 13 "OhmNets$Share" "lower" "I", Cond.fieldLink RX5 16 "OhmNets$Share" "how" "I", Cond.fieldLink RX5 19 "OhmNets$Share" "firstParts" "I"]
def wsX6_offer_r4 : List Cond := [Cond.fieldLink RX5 22 "OhmNets$Share" "firstRank" "I", Cond.fieldLink RX5 25 "OhmNets$Share" "secondRank" "I", Cond.methodLink RX6 51 yJx4a65c_add_7a177, Cond.instanceMethod yJx4a65c_add_7a177, Cond.selects RJx4a65c yJx4a65c_add_7a177 yJx4a65c_add_7a177, Cond.code yJx4a65c_add_7a177 cJx4a65c_add_7a177 5 none, Cond.fieldLink RJx4a65c 63 "java/util/ArrayList" "modCount" "I", Cond.sameField "java/util/ArrayList" "java/util/AbstractList" "modCount" "I", Cond.methodLink RJx4a65c 112 arraycopyName, Cond.native arraycopyName, Cond.static arraycopyName, Cond.initialized "java/lang/System", Cond.methodLink RJx4a65c 135 yJx4a65c_rangeCheckForAdd_d00df, Cond.instanceMethod yJx4a65c_rangeCheckForAdd_d00df, Cond.selects RJx4a65c yJx4a65c_rangeCheckForAdd_d00df yJx4a65c_rangeCheckForAdd_d00df, Cond.code yJx4a65c_rangeCheckForAdd_d00df cJx4a65c_rangeCheckForAdd_d00df 2 none, Cond.methodLink RJx4a65c 129 yJx4a65c_grow_d5877, Cond.instanceMethod yJx4a65c_grow_d5877, Cond.selects RJx4a65c yJx4a65c_grow_d5877 yJx4a65c_grow_d5877, Cond.code yJx4a65c_grow_d5877 cJx4a65c_grow_d5877 1 (some (.array (.object "java/lang/Object"))), Cond.methodLink RJx4a65c 69 yJx4a65c_grow_92f84, Cond.instanceMethod yJx4a65c_grow_92f84, Cond.selects RJx4a65c yJx4a65c_grow_92f84 yJx4a65c_grow_92f84, Cond.code yJx4a65c_grow_92f84 cJx4a65c_grow_92f84 4 (some (.array (.object "java/lang/Object")))]
def wsX6_offer_r5 : List Cond := [Cond.fieldLink RJx4a65c 39 "java/util/ArrayList" "DEFAULTCAPACITY_EMPTY_ELEMENTDATA" "[Ljava/lang/Object;", Cond.methodLink RJx4a65c 79 Lib.Math.max.name, Cond.static Lib.Math.max.name, Cond.code Lib.Math.max.name Lib.Math.max.code 2 (some .int), Cond.classLink RJx4a65c 7 "java/lang/Object", Cond.methodLink RJx4a65c 73 yJ8_newLength_cabcc, Cond.static yJ8_newLength_cabcc, Cond.initialized RJ8, Cond.code yJ8_newLength_cabcc cJ8_newLength_cabcc 4 (some .int), Cond.methodLink RJ8 194 Lib.Math.max.name, Cond.constant RJ8 200 (2147483639), Cond.methodLink RJ8 201 yJ8_hugeLength_7cf53, Cond.static yJ8_hugeLength_7cf53, Cond.code yJ8_hugeLength_7cf53 cJ8_hugeLength_7cf53 3 (some .int), Cond.methodLink RJx4a65c 66 yJ7_copyOf_1904c, Cond.static yJ7_copyOf_1904c, Cond.initialized RJ7, Cond.code yJ7_copyOf_1904c cJ7_copyOf_1904c 2 (some (.array (.object "java/lang/Object"))), Cond.methodLink RJ7 86 ⟨"java/lang/Object", "getClass", "()Ljava/lang/Class;"⟩, Cond.selects "[Ljava/lang/Object;" ⟨"java/lang/Object", "getClass", "()Ljava/lang/Class;"⟩ ⟨"java/lang/Object", "getClass", "()Ljava/lang/Class;"⟩, Cond.instanceMethod ⟨"java/lang/Object", "getClass", "()Ljava/lang/Class;"⟩, Cond.native ⟨"java/lang/Object", "getClass", "()Ljava/lang/Class;"⟩, Cond.methodLink RJ7 300 yJ7_copyOf_6403c, Cond.static yJ7_copyOf_6403c]
def wsX6_offer_r6 : List Cond := [Cond.code yJ7_copyOf_6403c cJ7_copyOf_6403c 4 (some (.array (.object "java/lang/Object"))), Cond.classLink RJ7 110 "[Ljava/lang/Object;", Cond.classLink RJ7 2 "java/lang/Object", Cond.methodLink RJ7 304 Lib.Math.min.name, Cond.static Lib.Math.min.name, Cond.code Lib.Math.min.name Lib.Math.min.code 2 (some .int), Cond.methodLink RJ7 150 arraycopyName]
def wsX6_offer : List Cond := .code yX6_offer cX6_offer 9 none :: ((wsX6_offer_r1 ++ (wsX6_offer_r2 ++ (wsX6_offer_r3 ++ (wsX6_offer_r4 ++ (wsX6_offer_r5 ++ wsX6_offer_r6))))) ++ wsX00 ++ wsX60 ++ wsX50 ++ wsJx4a65c0)
def wsX6_size : List Cond := .code yX6_size cX6_size 1 (some .int) :: ([.fieldLink RX6 12 "OhmNets$Shares" "inOrder" "Ljava/util/ArrayList;", .methodLink RX6 18 yJx4a65c_size_8abf5, .instanceMethod yJx4a65c_size_8abf5, .selects RJx4a65c yJx4a65c_size_8abf5 yJx4a65c_size_8abf5, .initialized RJx4a65c, .code yJx4a65c_size_8abf5 cJx4a65c_size_8abf5 1 (some .int), .fieldLink RJx4a65c 48 "java/util/ArrayList" "size" "I"] ++ wsX60 ++ wsJx4a65c0)
def wsX6_at_r1 : List Cond := [Cond.fieldLink RX6 12 "OhmNets$Shares" "inOrder" "Ljava/util/ArrayList;", Cond.classLink RX6 26 "OhmNets$Share", Cond.methodLink RX6 18 yJx4a65c_size_8abf5, Cond.instanceMethod yJx4a65c_size_8abf5, Cond.selects RJx4a65c yJx4a65c_size_8abf5 yJx4a65c_size_8abf5, Cond.initialized RJx4a65c, Cond.code yJx4a65c_size_8abf5 cJx4a65c_size_8abf5 1 (some .int), Cond.fieldLink RJx4a65c 48 "java/util/ArrayList" "size" "I", Cond.methodLink RX6 22 yJx4a65c_get_915e3, Cond.instanceMethod yJx4a65c_get_915e3, Cond.selects RJx4a65c yJx4a65c_get_915e3 yJx4a65c_get_915e3, Cond.code yJx4a65c_get_915e3 cJx4a65c_get_915e3 2 (some (.object "java/lang/Object")), Cond.methodLink RJx4a65c 118 yJ15_checkIndex_7cf53, Cond.static yJ15_checkIndex_7cf53, Cond.initialized RJ15, Cond.code yJ15_checkIndex_7cf53 cJ15_checkIndex_7cf53 2 (some .int), Cond.methodLink RJ15 105 yJ3_checkIndex_8e157, Cond.static yJ3_checkIndex_8e157, Cond.initialized RJ3, Cond.code yJ3_checkIndex_8e157 cJ3_checkIndex_8e157 3 (some .int), Cond.methodLink RJx4a65c 123 yJx4a65c_elementData_915e3, Cond.instanceMethod yJx4a65c_elementData_915e3, Cond.selects RJx4a65c yJx4a65c_elementData_915e3 yJx4a65c_elementData_915e3, Cond.code yJx4a65c_elementData_915e3 cJx4a65c_elementData_915e3 2 (some (.object "java/lang/Object"))]
def wsX6_at_r2 : List Cond := [Cond.fieldLink RJx4a65c 9 "java/util/ArrayList" "elementData" "[Ljava/lang/Object;"]
def wsX6_at : List Cond := .code yX6_at cX6_at 2 (some (.object "OhmNets$Share")) :: ((wsX6_at_r1 ++ wsX6_at_r2) ++ wsX60 ++ wsJx4a65c0)
def wsX1_join : List Cond := .code yX1_join cX1_join 5 (some .boolean) :: ([.fieldLink RX1 57 "OhmNets$Share" "upper" "I", .fieldLink RX1 62 "OhmNets$Share" "lower" "I", .fieldLink RX1 20 "OhmNets$LikeParts" "value" "LOhmNets$Fraction;", .methodLink RX1 33 yX0_set, .instanceMethod yX0_set, .selects RX0 yX0_set yX0_set, .initialized RX0, .code yX0_set cX0_set 5 none, .fieldLink RX0 7 "OhmNets$Fraction" "upper" "J", .fieldLink RX0 13 "OhmNets$Fraction" "lower" "J"] ++ wsX50 ++ wsX10 ++ wsX00)
def wsX1_offerPairs_r1 : List Cond := [Cond.fieldLink RX1 11 "OhmNets$LikeParts" "byParts" "[LOhmNets$Shares;", Cond.fieldLink RX1 20 "OhmNets$LikeParts" "value" "LOhmNets$Fraction;", Cond.methodLink RX1 45 yX6_size, Cond.instanceMethod yX6_size, Cond.selects RX6 yX6_size yX6_size, Cond.initialized RX6, Cond.code yX6_size cX6_size 1 (some .int), Cond.fieldLink RX6 12 "OhmNets$Shares" "inOrder" "Ljava/util/ArrayList;", Cond.methodLink RX6 18 yJx4a65c_size_8abf5, Cond.instanceMethod yJx4a65c_size_8abf5, Cond.selects RJx4a65c yJx4a65c_size_8abf5 yJx4a65c_size_8abf5, Cond.initialized RJx4a65c, Cond.code yJx4a65c_size_8abf5 cJx4a65c_size_8abf5 1 (some .int), Cond.fieldLink RJx4a65c 48 "java/util/ArrayList" "size" "I", Cond.methodLink RX1 49 yX6_at, Cond.instanceMethod yX6_at, Cond.selects RX6 yX6_at yX6_at, Cond.code yX6_at cX6_at 2 (some (.object "OhmNets$Share")), Cond.classLink RX6 26 "OhmNets$Share", Cond.methodLink RX6 22 yJx4a65c_get_915e3, Cond.instanceMethod yJx4a65c_get_915e3, Cond.selects RJx4a65c yJx4a65c_get_915e3 yJx4a65c_get_915e3, Cond.code yJx4a65c_get_915e3 cJx4a65c_get_915e3 2 (some (.object "java/lang/Object")), Cond.methodLink RJx4a65c 118 yJ15_checkIndex_7cf53]
def wsX1_offerPairs_r2 : List Cond := [Cond.static yJ15_checkIndex_7cf53, Cond.initialized RJ15, Cond.code yJ15_checkIndex_7cf53 cJ15_checkIndex_7cf53 2 (some .int), Cond.methodLink RJ15 105 yJ3_checkIndex_8e157, Cond.static yJ3_checkIndex_8e157, Cond.initialized RJ3, Cond.code yJ3_checkIndex_8e157 cJ3_checkIndex_8e157 3 (some .int), Cond.methodLink RJx4a65c 123 yJx4a65c_elementData_915e3, Cond.instanceMethod yJx4a65c_elementData_915e3, Cond.selects RJx4a65c yJx4a65c_elementData_915e3 yJx4a65c_elementData_915e3, Cond.code yJx4a65c_elementData_915e3 cJx4a65c_elementData_915e3 2 (some (.object "java/lang/Object")), Cond.fieldLink RJx4a65c 9 "java/util/ArrayList" "elementData" "[Ljava/lang/Object;", Cond.methodLink RX1 53 yX1_join, Cond.instanceMethod yX1_join, Cond.selects RX1 yX1_join yX1_join, Cond.initialized RX1, Cond.code yX1_join cX1_join 5 (some .boolean), Cond.fieldLink RX1 57 "OhmNets$Share" "upper" "I", Cond.fieldLink RX1 62 "OhmNets$Share" "lower" "I", Cond.methodLink RX1 33 yX0_set, Cond.instanceMethod yX0_set, Cond.selects RX0 yX0_set yX0_set, Cond.initialized RX0, Cond.code yX0_set cX0_set 5 none]
def wsX1_offerPairs_r3 : List Cond := [Cond.fieldLink RX0 7 "OhmNets$Fraction" "upper" "J", Cond.fieldLink RX0 13 "OhmNets$Fraction" "lower" "J", Cond.methodLink RX1 37 yX6_offer, Cond.instanceMethod yX6_offer, Cond.selects RX6 yX6_offer yX6_offer, Cond.code yX6_offer cX6_offer 9 none, Cond.fieldLink RX6 36 "OhmNets$Fraction" "upper" "J", Cond.fieldLink RX6 42 "OhmNets$Fraction" "lower" "J", Cond.classLink RX6 26 RX5, Cond.instantiable RX5 6, Cond.initialized RX5, Cond.methodLink RX6 28 yX6_placeOf, Cond.instanceMethod yX6_placeOf, Cond.selects RX6 yX6_placeOf yX6_placeOf, Cond.code yX6_placeOf cX6_placeOf 7 (some .int), Cond.methodLink RX6 55 yX6_compare, Cond.static yX6_compare, Cond.code yX6_compare cX6_compare 3 (some .int), Cond.fieldLink RX6 59 "OhmNets$Share" "upper" "I", Cond.fieldLink RX6 62 "OhmNets$Share" "lower" "I", Cond.methodLink RX6 64 yJ13_compare_74951, Cond.static yJ13_compare_74951, Cond.initialized RJ13, Cond.code yJ13_compare_74951 cJ13_compare_74951 4 (some .int)]
def wsX1_offerPairs_r4 : List Cond := [Cond.methodLink RX6 32 yX6_isAt, Cond.instanceMethod yX6_isAt, Cond.selects RX6 yX6_isAt yX6_isAt, Cond.code yX6_isAt cX6_isAt 4 (some .boolean), Cond.methodLink RX6 45 yX0_reduce, Cond.instanceMethod yX0_reduce, Cond.selects RX0 yX0_reduce yX0_reduce, Cond.code yX0_reduce cX0_reduce 3 none, Cond.methodLink RX0 16 Lib.MathLoose.abs_long.x, Cond.static Lib.MathLoose.abs_long.x, Cond.initialized "java/lang/Math", Cond.code Lib.MathLoose.abs_long.x Lib.MathLoose.abs_long.code 2 (some .long), Cond.methodLink RX0 22 yX0_commonDivisor, Cond.static yX0_commonDivisor, Cond.code yX0_commonDivisor cX0_commonDivisor 11 (some .long), Cond.methodLink RX6 48 yX5_init, Cond.instanceMethod yX5_init, Cond.code yX5_init cX5_init 7 none, Cond.methodLink RX5 1 objectInit, Cond.instanceMethod objectInit, Cond.code objectInit ⟨#[0xb1]⟩ 1 none, Cond.fieldLink RX5 7 "OhmNets$Share" "upper" "I", Cond.fieldLink RX5 13 "OhmNets$Share" "lower" "I", Cond.fieldLink RX5 16 "OhmNets$Share" "how" "I"]
def wsX1_offerPairs_r5 : List Cond := [Cond.fieldLink RX5 19 "OhmNets$Share" "firstParts" "I", Cond.fieldLink RX5 22 "OhmNets$Share" "firstRank" "I", Cond.fieldLink RX5 25 "OhmNets$Share" "secondRank" "I", Cond.methodLink RX6 51 yJx4a65c_add_7a177, Cond.instanceMethod yJx4a65c_add_7a177, Cond.selects RJx4a65c yJx4a65c_add_7a177 yJx4a65c_add_7a177, Cond.code yJx4a65c_add_7a177 cJx4a65c_add_7a177 5 none, Cond.fieldLink RJx4a65c 63 "java/util/ArrayList" "modCount" "I", Cond.sameField "java/util/ArrayList" "java/util/AbstractList" "modCount" "I", Cond.methodLink RJx4a65c 112 arraycopyName, Cond.native arraycopyName, Cond.static arraycopyName, Cond.initialized "java/lang/System", Cond.methodLink RJx4a65c 135 yJx4a65c_rangeCheckForAdd_d00df, Cond.instanceMethod yJx4a65c_rangeCheckForAdd_d00df, Cond.selects RJx4a65c yJx4a65c_rangeCheckForAdd_d00df yJx4a65c_rangeCheckForAdd_d00df, Cond.code yJx4a65c_rangeCheckForAdd_d00df cJx4a65c_rangeCheckForAdd_d00df 2 none, Cond.methodLink RJx4a65c 129 yJx4a65c_grow_d5877, Cond.instanceMethod yJx4a65c_grow_d5877, Cond.selects RJx4a65c yJx4a65c_grow_d5877 yJx4a65c_grow_d5877, Cond.code yJx4a65c_grow_d5877 cJx4a65c_grow_d5877 1 (some (.array (.object "java/lang/Object"))), Cond.methodLink RJx4a65c 69 yJx4a65c_grow_92f84, Cond.instanceMethod yJx4a65c_grow_92f84, Cond.selects RJx4a65c yJx4a65c_grow_92f84 yJx4a65c_grow_92f84]
def wsX1_offerPairs_r6 : List Cond := [Cond.code yJx4a65c_grow_92f84 cJx4a65c_grow_92f84 4 (some (.array (.object "java/lang/Object"))), Cond.fieldLink RJx4a65c 39 "java/util/ArrayList" "DEFAULTCAPACITY_EMPTY_ELEMENTDATA" "[Ljava/lang/Object;", Cond.methodLink RJx4a65c 79 Lib.Math.max.name, Cond.static Lib.Math.max.name, Cond.code Lib.Math.max.name Lib.Math.max.code 2 (some .int), Cond.classLink RJx4a65c 7 "java/lang/Object", Cond.methodLink RJx4a65c 73 yJ8_newLength_cabcc, Cond.static yJ8_newLength_cabcc, Cond.initialized RJ8, Cond.code yJ8_newLength_cabcc cJ8_newLength_cabcc 4 (some .int), Cond.methodLink RJ8 194 Lib.Math.max.name, Cond.constant RJ8 200 (2147483639), Cond.methodLink RJ8 201 yJ8_hugeLength_7cf53, Cond.static yJ8_hugeLength_7cf53, Cond.code yJ8_hugeLength_7cf53 cJ8_hugeLength_7cf53 3 (some .int), Cond.methodLink RJx4a65c 66 yJ7_copyOf_1904c, Cond.static yJ7_copyOf_1904c, Cond.initialized RJ7, Cond.code yJ7_copyOf_1904c cJ7_copyOf_1904c 2 (some (.array (.object "java/lang/Object"))), Cond.methodLink RJ7 86 ⟨"java/lang/Object", "getClass", "()Ljava/lang/Class;"⟩, Cond.selects "[Ljava/lang/Object;" ⟨"java/lang/Object", "getClass", "()Ljava/lang/Class;"⟩ ⟨"java/lang/Object", "getClass", "()Ljava/lang/Class;"⟩, Cond.instanceMethod ⟨"java/lang/Object", "getClass", "()Ljava/lang/Class;"⟩, Cond.native ⟨"java/lang/Object", "getClass", "()Ljava/lang/Class;"⟩, Cond.methodLink RJ7 300 yJ7_copyOf_6403c]
def wsX1_offerPairs_r7 : List Cond := [Cond.static yJ7_copyOf_6403c, Cond.code yJ7_copyOf_6403c cJ7_copyOf_6403c 4 (some (.array (.object "java/lang/Object"))), Cond.classLink RJ7 110 "[Ljava/lang/Object;", Cond.classLink RJ7 2 "java/lang/Object", Cond.methodLink RJ7 304 Lib.Math.min.name, Cond.static Lib.Math.min.name, Cond.code Lib.Math.min.name Lib.Math.min.code 2 (some .int), Cond.methodLink RJ7 150 arraycopyName]
def wsX1_offerPairs : List Cond := .code yX1_offerPairs cX1_offerPairs 11 none :: ((wsX1_offerPairs_r1 ++ (wsX1_offerPairs_r2 ++ (wsX1_offerPairs_r3 ++ (wsX1_offerPairs_r4 ++ (wsX1_offerPairs_r5 ++ (wsX1_offerPairs_r6 ++ wsX1_offerPairs_r7)))))) ++ wsX10 ++ wsX60 ++ wsJx4a65c0 ++ wsX50 ++ wsX00)
def wsX1_fill_r1 : List Cond := [Cond.fieldLink RX1 20 "OhmNets$LikeParts" "value" "LOhmNets$Fraction;", Cond.fieldLink RX1 11 "OhmNets$LikeParts" "byParts" "[LOhmNets$Shares;", Cond.methodLink RX1 33 yX0_set, Cond.instanceMethod yX0_set, Cond.selects RX0 yX0_set yX0_set, Cond.initialized RX0, Cond.code yX0_set cX0_set 5 none, Cond.fieldLink RX0 7 "OhmNets$Fraction" "upper" "J", Cond.fieldLink RX0 13 "OhmNets$Fraction" "lower" "J", Cond.methodLink RX1 37 yX6_offer, Cond.instanceMethod yX6_offer, Cond.selects RX6 yX6_offer yX6_offer, Cond.initialized RX6, Cond.code yX6_offer cX6_offer 9 none, Cond.fieldLink RX6 36 "OhmNets$Fraction" "upper" "J", Cond.fieldLink RX6 42 "OhmNets$Fraction" "lower" "J", Cond.fieldLink RX6 12 "OhmNets$Shares" "inOrder" "Ljava/util/ArrayList;", Cond.classLink RX6 26 RX5, Cond.instantiable RX5 6, Cond.initialized RX5, Cond.methodLink RX6 28 yX6_placeOf, Cond.instanceMethod yX6_placeOf, Cond.selects RX6 yX6_placeOf yX6_placeOf, Cond.code yX6_placeOf cX6_placeOf 7 (some .int)]
def wsX1_fill_r2 : List Cond := [Cond.classLink RX6 26 "OhmNets$Share", Cond.methodLink RX6 18 yJx4a65c_size_8abf5, Cond.instanceMethod yJx4a65c_size_8abf5, Cond.selects RJx4a65c yJx4a65c_size_8abf5 yJx4a65c_size_8abf5, Cond.initialized RJx4a65c, Cond.code yJx4a65c_size_8abf5 cJx4a65c_size_8abf5 1 (some .int), Cond.fieldLink RJx4a65c 48 "java/util/ArrayList" "size" "I", Cond.methodLink RX6 22 yJx4a65c_get_915e3, Cond.instanceMethod yJx4a65c_get_915e3, Cond.selects RJx4a65c yJx4a65c_get_915e3 yJx4a65c_get_915e3, Cond.code yJx4a65c_get_915e3 cJx4a65c_get_915e3 2 (some (.object "java/lang/Object")), Cond.methodLink RJx4a65c 118 yJ15_checkIndex_7cf53, Cond.static yJ15_checkIndex_7cf53, Cond.initialized RJ15, Cond.code yJ15_checkIndex_7cf53 cJ15_checkIndex_7cf53 2 (some .int), Cond.methodLink RJ15 105 yJ3_checkIndex_8e157, Cond.static yJ3_checkIndex_8e157, Cond.initialized RJ3, Cond.code yJ3_checkIndex_8e157 cJ3_checkIndex_8e157 3 (some .int), Cond.methodLink RJx4a65c 123 yJx4a65c_elementData_915e3, Cond.instanceMethod yJx4a65c_elementData_915e3, Cond.selects RJx4a65c yJx4a65c_elementData_915e3 yJx4a65c_elementData_915e3, Cond.code yJx4a65c_elementData_915e3 cJx4a65c_elementData_915e3 2 (some (.object "java/lang/Object")), Cond.fieldLink RJx4a65c 9 "java/util/ArrayList" "elementData" "[Ljava/lang/Object;"]
def wsX1_fill_r3 : List Cond := [Cond.methodLink RX6 55 yX6_compare, Cond.static yX6_compare, Cond.code yX6_compare cX6_compare 3 (some .int), Cond.fieldLink RX6 59 "OhmNets$Share" "upper" "I", Cond.fieldLink RX6 62 "OhmNets$Share" "lower" "I", Cond.methodLink RX6 64 yJ13_compare_74951, Cond.static yJ13_compare_74951, Cond.initialized RJ13, Cond.code yJ13_compare_74951 cJ13_compare_74951 4 (some .int), Cond.methodLink RX6 32 yX6_isAt, Cond.instanceMethod yX6_isAt, Cond.selects RX6 yX6_isAt yX6_isAt, Cond.code yX6_isAt cX6_isAt 4 (some .boolean), Cond.methodLink RX6 45 yX0_reduce, Cond.instanceMethod yX0_reduce, Cond.selects RX0 yX0_reduce yX0_reduce, Cond.code yX0_reduce cX0_reduce 3 none, Cond.methodLink RX0 16 Lib.MathLoose.abs_long.x, Cond.static Lib.MathLoose.abs_long.x, Cond.initialized "java/lang/Math", Cond.code Lib.MathLoose.abs_long.x Lib.MathLoose.abs_long.code 2 (some .long), Cond.methodLink RX0 22 yX0_commonDivisor, Cond.static yX0_commonDivisor, Cond.code yX0_commonDivisor cX0_commonDivisor 11 (some .long)]
def wsX1_fill_r4 : List Cond := [Cond.methodLink RX6 48 yX5_init, Cond.instanceMethod yX5_init, Cond.code yX5_init cX5_init 7 none, Cond.methodLink RX5 1 objectInit, Cond.instanceMethod objectInit, Cond.code objectInit ⟨#[0xb1]⟩ 1 none, Cond.fieldLink RX5 7 "OhmNets$Share" "upper" "I", Cond.fieldLink RX5 13 "OhmNets$Share" "lower" "I", Cond.fieldLink RX5 16 "OhmNets$Share" "how" "I", Cond.fieldLink RX5 19 "OhmNets$Share" "firstParts" "I", Cond.fieldLink RX5 22 "OhmNets$Share" "firstRank" "I", Cond.fieldLink RX5 25 "OhmNets$Share" "secondRank" "I", Cond.methodLink RX6 51 yJx4a65c_add_7a177, Cond.instanceMethod yJx4a65c_add_7a177, Cond.selects RJx4a65c yJx4a65c_add_7a177 yJx4a65c_add_7a177, Cond.code yJx4a65c_add_7a177 cJx4a65c_add_7a177 5 none, Cond.fieldLink RJx4a65c 63 "java/util/ArrayList" "modCount" "I", Cond.sameField "java/util/ArrayList" "java/util/AbstractList" "modCount" "I", Cond.methodLink RJx4a65c 112 arraycopyName, Cond.native arraycopyName, Cond.static arraycopyName, Cond.initialized "java/lang/System", Cond.methodLink RJx4a65c 135 yJx4a65c_rangeCheckForAdd_d00df, Cond.instanceMethod yJx4a65c_rangeCheckForAdd_d00df]
def wsX1_fill_r5 : List Cond := [Cond.selects RJx4a65c yJx4a65c_rangeCheckForAdd_d00df yJx4a65c_rangeCheckForAdd_d00df, Cond.code yJx4a65c_rangeCheckForAdd_d00df cJx4a65c_rangeCheckForAdd_d00df 2 none, Cond.methodLink RJx4a65c 129 yJx4a65c_grow_d5877, Cond.instanceMethod yJx4a65c_grow_d5877, Cond.selects RJx4a65c yJx4a65c_grow_d5877 yJx4a65c_grow_d5877, Cond.code yJx4a65c_grow_d5877 cJx4a65c_grow_d5877 1 (some (.array (.object "java/lang/Object"))), Cond.methodLink RJx4a65c 69 yJx4a65c_grow_92f84, Cond.instanceMethod yJx4a65c_grow_92f84, Cond.selects RJx4a65c yJx4a65c_grow_92f84 yJx4a65c_grow_92f84, Cond.code yJx4a65c_grow_92f84 cJx4a65c_grow_92f84 4 (some (.array (.object "java/lang/Object"))), Cond.fieldLink RJx4a65c 39 "java/util/ArrayList" "DEFAULTCAPACITY_EMPTY_ELEMENTDATA" "[Ljava/lang/Object;", Cond.methodLink RJx4a65c 79 Lib.Math.max.name, Cond.static Lib.Math.max.name, Cond.code Lib.Math.max.name Lib.Math.max.code 2 (some .int), Cond.classLink RJx4a65c 7 "java/lang/Object", Cond.methodLink RJx4a65c 73 yJ8_newLength_cabcc, Cond.static yJ8_newLength_cabcc, Cond.initialized RJ8, Cond.code yJ8_newLength_cabcc cJ8_newLength_cabcc 4 (some .int), Cond.methodLink RJ8 194 Lib.Math.max.name, Cond.constant RJ8 200 (2147483639), Cond.methodLink RJ8 201 yJ8_hugeLength_7cf53, Cond.static yJ8_hugeLength_7cf53, Cond.code yJ8_hugeLength_7cf53 cJ8_hugeLength_7cf53 3 (some .int)]
def wsX1_fill_r6 : List Cond := [Cond.methodLink RJx4a65c 66 yJ7_copyOf_1904c, Cond.static yJ7_copyOf_1904c, Cond.initialized RJ7, Cond.code yJ7_copyOf_1904c cJ7_copyOf_1904c 2 (some (.array (.object "java/lang/Object"))), Cond.methodLink RJ7 86 ⟨"java/lang/Object", "getClass", "()Ljava/lang/Class;"⟩, Cond.selects "[Ljava/lang/Object;" ⟨"java/lang/Object", "getClass", "()Ljava/lang/Class;"⟩ ⟨"java/lang/Object", "getClass", "()Ljava/lang/Class;"⟩, Cond.instanceMethod ⟨"java/lang/Object", "getClass", "()Ljava/lang/Class;"⟩, Cond.native ⟨"java/lang/Object", "getClass", "()Ljava/lang/Class;"⟩, Cond.methodLink RJ7 300 yJ7_copyOf_6403c, Cond.static yJ7_copyOf_6403c, Cond.code yJ7_copyOf_6403c cJ7_copyOf_6403c 4 (some (.array (.object "java/lang/Object"))), Cond.classLink RJ7 110 "[Ljava/lang/Object;", Cond.classLink RJ7 2 "java/lang/Object", Cond.methodLink RJ7 304 Lib.Math.min.name, Cond.static Lib.Math.min.name, Cond.code Lib.Math.min.name Lib.Math.min.code 2 (some .int), Cond.methodLink RJ7 150 arraycopyName, Cond.methodLink RX1 41 yX1_offerPairs, Cond.instanceMethod yX1_offerPairs, Cond.selects RX1 yX1_offerPairs yX1_offerPairs, Cond.initialized RX1, Cond.code yX1_offerPairs cX1_offerPairs 11 none, Cond.methodLink RX1 45 yX6_size, Cond.instanceMethod yX6_size]
def wsX1_fill_r7 : List Cond := [Cond.selects RX6 yX6_size yX6_size, Cond.code yX6_size cX6_size 1 (some .int), Cond.methodLink RX1 49 yX6_at, Cond.instanceMethod yX6_at, Cond.selects RX6 yX6_at yX6_at, Cond.code yX6_at cX6_at 2 (some (.object "OhmNets$Share")), Cond.methodLink RX1 53 yX1_join, Cond.instanceMethod yX1_join, Cond.selects RX1 yX1_join yX1_join, Cond.code yX1_join cX1_join 5 (some .boolean), Cond.fieldLink RX1 57 "OhmNets$Share" "upper" "I", Cond.fieldLink RX1 62 "OhmNets$Share" "lower" "I"]
def wsX1_fill : List Cond := .code yX1_fill cX1_fill 4 none :: ((wsX1_fill_r1 ++ (wsX1_fill_r2 ++ (wsX1_fill_r3 ++ (wsX1_fill_r4 ++ (wsX1_fill_r5 ++ (wsX1_fill_r6 ++ wsX1_fill_r7)))))) ++ wsX10 ++ wsX00 ++ wsX60 ++ wsX50 ++ wsJx4a65c0)
def wsX1_sharesOf_r1 : List Cond := [Cond.fieldLink RX1 24 "OhmNets$LikeParts" "known" "I", Cond.fieldLink RX1 11 "OhmNets$LikeParts" "byParts" "[LOhmNets$Shares;", Cond.methodLink RX1 29 yX1_fill, Cond.instanceMethod yX1_fill, Cond.selects RX1 yX1_fill yX1_fill, Cond.initialized RX1, Cond.code yX1_fill cX1_fill 4 none, Cond.fieldLink RX1 20 "OhmNets$LikeParts" "value" "LOhmNets$Fraction;", Cond.methodLink RX1 33 yX0_set, Cond.instanceMethod yX0_set, Cond.selects RX0 yX0_set yX0_set, Cond.initialized RX0, Cond.code yX0_set cX0_set 5 none, Cond.fieldLink RX0 7 "OhmNets$Fraction" "upper" "J", Cond.fieldLink RX0 13 "OhmNets$Fraction" "lower" "J", Cond.methodLink RX1 37 yX6_offer, Cond.instanceMethod yX6_offer, Cond.selects RX6 yX6_offer yX6_offer, Cond.initialized RX6, Cond.code yX6_offer cX6_offer 9 none, Cond.fieldLink RX6 36 "OhmNets$Fraction" "upper" "J", Cond.fieldLink RX6 42 "OhmNets$Fraction" "lower" "J", Cond.fieldLink RX6 12 "OhmNets$Shares" "inOrder" "Ljava/util/ArrayList;", Cond.classLink RX6 26 RX5]
def wsX1_sharesOf_r2 : List Cond := [Cond.instantiable RX5 6, Cond.initialized RX5, Cond.methodLink RX6 28 yX6_placeOf, Cond.instanceMethod yX6_placeOf, Cond.selects RX6 yX6_placeOf yX6_placeOf, Cond.code yX6_placeOf cX6_placeOf 7 (some .int), Cond.classLink RX6 26 "OhmNets$Share", Cond.methodLink RX6 18 yJx4a65c_size_8abf5, Cond.instanceMethod yJx4a65c_size_8abf5, Cond.selects RJx4a65c yJx4a65c_size_8abf5 yJx4a65c_size_8abf5, Cond.initialized RJx4a65c, Cond.code yJx4a65c_size_8abf5 cJx4a65c_size_8abf5 1 (some .int), Cond.fieldLink RJx4a65c 48 "java/util/ArrayList" "size" "I", Cond.methodLink RX6 22 yJx4a65c_get_915e3, Cond.instanceMethod yJx4a65c_get_915e3, Cond.selects RJx4a65c yJx4a65c_get_915e3 yJx4a65c_get_915e3, Cond.code yJx4a65c_get_915e3 cJx4a65c_get_915e3 2 (some (.object "java/lang/Object")), Cond.methodLink RJx4a65c 118 yJ15_checkIndex_7cf53, Cond.static yJ15_checkIndex_7cf53, Cond.initialized RJ15, Cond.code yJ15_checkIndex_7cf53 cJ15_checkIndex_7cf53 2 (some .int), Cond.methodLink RJ15 105 yJ3_checkIndex_8e157, Cond.static yJ3_checkIndex_8e157, Cond.initialized RJ3]
def wsX1_sharesOf_r3 : List Cond := [Cond.code yJ3_checkIndex_8e157 cJ3_checkIndex_8e157 3 (some .int), Cond.methodLink RJx4a65c 123 yJx4a65c_elementData_915e3, Cond.instanceMethod yJx4a65c_elementData_915e3, Cond.selects RJx4a65c yJx4a65c_elementData_915e3 yJx4a65c_elementData_915e3, Cond.code yJx4a65c_elementData_915e3 cJx4a65c_elementData_915e3 2 (some (.object "java/lang/Object")), Cond.fieldLink RJx4a65c 9 "java/util/ArrayList" "elementData" "[Ljava/lang/Object;", Cond.methodLink RX6 55 yX6_compare, Cond.static yX6_compare, Cond.code yX6_compare cX6_compare 3 (some .int), Cond.fieldLink RX6 59 "OhmNets$Share" "upper" "I", Cond.fieldLink RX6 62 "OhmNets$Share" "lower" "I", Cond.methodLink RX6 64 yJ13_compare_74951, Cond.static yJ13_compare_74951, Cond.initialized RJ13, Cond.code yJ13_compare_74951 cJ13_compare_74951 4 (some .int), Cond.methodLink RX6 32 yX6_isAt, Cond.instanceMethod yX6_isAt, Cond.selects RX6 yX6_isAt yX6_isAt, Cond.code yX6_isAt cX6_isAt 4 (some .boolean), Cond.methodLink RX6 45 yX0_reduce, Cond.instanceMethod yX0_reduce, Cond.selects RX0 yX0_reduce yX0_reduce, Cond.code yX0_reduce cX0_reduce 3 none, Cond.methodLink RX0 16 Lib.MathLoose.abs_long.x]
def wsX1_sharesOf_r4 : List Cond := [Cond.static Lib.MathLoose.abs_long.x, Cond.initialized "java/lang/Math", Cond.code Lib.MathLoose.abs_long.x Lib.MathLoose.abs_long.code 2 (some .long), Cond.methodLink RX0 22 yX0_commonDivisor, Cond.static yX0_commonDivisor, Cond.code yX0_commonDivisor cX0_commonDivisor 11 (some .long), Cond.methodLink RX6 48 yX5_init, Cond.instanceMethod yX5_init, Cond.code yX5_init cX5_init 7 none, Cond.methodLink RX5 1 objectInit, Cond.instanceMethod objectInit, Cond.code objectInit ⟨#[0xb1]⟩ 1 none, Cond.fieldLink RX5 7 "OhmNets$Share" "upper" "I", Cond.fieldLink RX5 13 "OhmNets$Share" "lower" "I", Cond.fieldLink RX5 16 "OhmNets$Share" "how" "I", Cond.fieldLink RX5 19 "OhmNets$Share" "firstParts" "I", Cond.fieldLink RX5 22 "OhmNets$Share" "firstRank" "I", Cond.fieldLink RX5 25 "OhmNets$Share" "secondRank" "I", Cond.methodLink RX6 51 yJx4a65c_add_7a177, Cond.instanceMethod yJx4a65c_add_7a177, Cond.selects RJx4a65c yJx4a65c_add_7a177 yJx4a65c_add_7a177, Cond.code yJx4a65c_add_7a177 cJx4a65c_add_7a177 5 none, Cond.fieldLink RJx4a65c 63 "java/util/ArrayList" "modCount" "I", Cond.sameField "java/util/ArrayList" "java/util/AbstractList" "modCount" "I"]
def wsX1_sharesOf_r5 : List Cond := [Cond.methodLink RJx4a65c 112 arraycopyName, Cond.native arraycopyName, Cond.static arraycopyName, Cond.initialized "java/lang/System", Cond.methodLink RJx4a65c 135 yJx4a65c_rangeCheckForAdd_d00df, Cond.instanceMethod yJx4a65c_rangeCheckForAdd_d00df, Cond.selects RJx4a65c yJx4a65c_rangeCheckForAdd_d00df yJx4a65c_rangeCheckForAdd_d00df, Cond.code yJx4a65c_rangeCheckForAdd_d00df cJx4a65c_rangeCheckForAdd_d00df 2 none, Cond.methodLink RJx4a65c 129 yJx4a65c_grow_d5877, Cond.instanceMethod yJx4a65c_grow_d5877, Cond.selects RJx4a65c yJx4a65c_grow_d5877 yJx4a65c_grow_d5877, Cond.code yJx4a65c_grow_d5877 cJx4a65c_grow_d5877 1 (some (.array (.object "java/lang/Object"))), Cond.methodLink RJx4a65c 69 yJx4a65c_grow_92f84, Cond.instanceMethod yJx4a65c_grow_92f84, Cond.selects RJx4a65c yJx4a65c_grow_92f84 yJx4a65c_grow_92f84, Cond.code yJx4a65c_grow_92f84 cJx4a65c_grow_92f84 4 (some (.array (.object "java/lang/Object"))), Cond.fieldLink RJx4a65c 39 "java/util/ArrayList" "DEFAULTCAPACITY_EMPTY_ELEMENTDATA" "[Ljava/lang/Object;", Cond.methodLink RJx4a65c 79 Lib.Math.max.name, Cond.static Lib.Math.max.name, Cond.code Lib.Math.max.name Lib.Math.max.code 2 (some .int), Cond.classLink RJx4a65c 7 "java/lang/Object", Cond.methodLink RJx4a65c 73 yJ8_newLength_cabcc, Cond.static yJ8_newLength_cabcc, Cond.initialized RJ8]
def wsX1_sharesOf_r6 : List Cond := [Cond.code yJ8_newLength_cabcc cJ8_newLength_cabcc 4 (some .int), Cond.methodLink RJ8 194 Lib.Math.max.name, Cond.constant RJ8 200 (2147483639), Cond.methodLink RJ8 201 yJ8_hugeLength_7cf53, Cond.static yJ8_hugeLength_7cf53, Cond.code yJ8_hugeLength_7cf53 cJ8_hugeLength_7cf53 3 (some .int), Cond.methodLink RJx4a65c 66 yJ7_copyOf_1904c, Cond.static yJ7_copyOf_1904c, Cond.initialized RJ7, Cond.code yJ7_copyOf_1904c cJ7_copyOf_1904c 2 (some (.array (.object "java/lang/Object"))), Cond.methodLink RJ7 86 ⟨"java/lang/Object", "getClass", "()Ljava/lang/Class;"⟩, Cond.selects "[Ljava/lang/Object;" ⟨"java/lang/Object", "getClass", "()Ljava/lang/Class;"⟩ ⟨"java/lang/Object", "getClass", "()Ljava/lang/Class;"⟩, Cond.instanceMethod ⟨"java/lang/Object", "getClass", "()Ljava/lang/Class;"⟩, Cond.native ⟨"java/lang/Object", "getClass", "()Ljava/lang/Class;"⟩, Cond.methodLink RJ7 300 yJ7_copyOf_6403c, Cond.static yJ7_copyOf_6403c, Cond.code yJ7_copyOf_6403c cJ7_copyOf_6403c 4 (some (.array (.object "java/lang/Object"))), Cond.classLink RJ7 110 "[Ljava/lang/Object;", Cond.classLink RJ7 2 "java/lang/Object", Cond.methodLink RJ7 304 Lib.Math.min.name, Cond.static Lib.Math.min.name, Cond.code Lib.Math.min.name Lib.Math.min.code 2 (some .int), Cond.methodLink RJ7 150 arraycopyName, Cond.methodLink RX1 41 yX1_offerPairs]
def wsX1_sharesOf_r7 : List Cond := [Cond.instanceMethod yX1_offerPairs, Cond.selects RX1 yX1_offerPairs yX1_offerPairs, Cond.code yX1_offerPairs cX1_offerPairs 11 none, Cond.methodLink RX1 45 yX6_size, Cond.instanceMethod yX6_size, Cond.selects RX6 yX6_size yX6_size, Cond.code yX6_size cX6_size 1 (some .int), Cond.methodLink RX1 49 yX6_at, Cond.instanceMethod yX6_at, Cond.selects RX6 yX6_at yX6_at, Cond.code yX6_at cX6_at 2 (some (.object "OhmNets$Share")), Cond.methodLink RX1 53 yX1_join, Cond.instanceMethod yX1_join, Cond.selects RX1 yX1_join yX1_join, Cond.code yX1_join cX1_join 5 (some .boolean), Cond.fieldLink RX1 57 "OhmNets$Share" "upper" "I", Cond.fieldLink RX1 62 "OhmNets$Share" "lower" "I"]
def wsX1_sharesOf : List Cond := .code yX1_sharesOf cX1_sharesOf 3 (some (.object "OhmNets$Shares")) :: ((wsX1_sharesOf_r1 ++ (wsX1_sharesOf_r2 ++ (wsX1_sharesOf_r3 ++ (wsX1_sharesOf_r4 ++ (wsX1_sharesOf_r5 ++ (wsX1_sharesOf_r6 ++ wsX1_sharesOf_r7)))))) ++ wsX10 ++ wsX00 ++ wsX60 ++ wsX50 ++ wsJx4a65c0)
def wsX4_init : List Cond := .code yX4_init cX4_init 4 none :: ([.methodLink RX4 1 objectInit, .instanceMethod objectInit, .code objectInit ⟨#[0xb1]⟩ 1 none, .fieldLink RX4 7 "OhmNets$OneWire" "kind" "I", .fieldLink RX4 13 "OhmNets$OneWire" "first" "I", .fieldLink RX4 16 "OhmNets$OneWire" "second" "I"] ++ wsX20 ++ wsX40 ++ wsX80)
def wsX2_init : List Cond := .code yX2_init cX2_init 5 none :: ([.fieldLink RX2 7 "OhmNets$LongWire" "k" "I", .methodLink RX2 1 yX4_init, .instanceMethod yX4_init, .initialized RX4, .code yX4_init cX4_init 4 none, .methodLink RX4 1 objectInit, .instanceMethod objectInit, .code objectInit ⟨#[0xb1]⟩ 1 none, .fieldLink RX4 7 "OhmNets$OneWire" "kind" "I", .fieldLink RX4 13 "OhmNets$OneWire" "first" "I", .fieldLink RX4 16 "OhmNets$OneWire" "second" "I"] ++ wsX20 ++ wsX80 ++ wsX40)
def wsX4_measure : List Cond := .code yX4_measure cX4_measure 2 (some .int) :: ([.methodLink RX4 19 yX0_set, .instanceMethod yX0_set, .selects RX0 yX0_set yX0_set, .initialized RX0, .code yX0_set cX0_set 5 none, .fieldLink RX0 7 "OhmNets$Fraction" "upper" "J", .fieldLink RX0 13 "OhmNets$Fraction" "lower" "J"] ++ wsX00)
def wsX2_measure : List Cond := .code yX2_measure cX2_measure 3 (some .int) :: ([.fieldLink RX2 17 "OhmNets$Fraction" "upper" "J", .fieldLink RX2 7 "OhmNets$LongWire" "k" "I", .methodLink RX2 13 yX4_measure, .sameMethod "OhmNets$OneWire" "OhmNets$OneWire" "measure" "(LOhmNets$Fraction;)I", .superclass RX2 RX4, .instanceMethod yX4_measure, .initialized RX4, .code yX4_measure cX4_measure 2 (some .int), .methodLink RX4 19 yX0_set, .instanceMethod yX0_set, .selects RX0 yX0_set yX0_set, .initialized RX0, .code yX0_set cX0_set 5 none, .fieldLink RX0 7 "OhmNets$Fraction" "upper" "J", .fieldLink RX0 13 "OhmNets$Fraction" "lower" "J"] ++ wsX00 ++ wsX20 ++ wsX80)
def wsX3_init : List Cond := .code yX3_init cX3_init 1 none :: ([.methodLink RX3 3 objectInit, .instanceMethod objectInit, .code objectInit ⟨#[0xb1]⟩ 1 none, .classLink RX3 9 RX4, .fieldLink RX3 11 "OhmNets$Net" "wires" "[LOhmNets$OneWire;", .arrayClass .long, .fieldLink RX3 17 "OhmNets$Net" "flows" "[J", .fieldLink RX3 21 "OhmNets$Net" "size" "I", .classLink RX3 25 RX0, .instantiable RX0 2, .initialized RX0, .fieldLink RX3 28 "OhmNets$Net" "measured" "LOhmNets$Fraction;", .arrayClass .int, .fieldLink RX3 32 "OhmNets$Net" "neighbours" "[I", .classLink RX3 36 "[[J", .fieldLink RX3 38 "OhmNets$Net" "lines" "[[J", .fieldLink RX3 41 "OhmNets$Net" "lineOf" "[I", .fieldLink RX3 44 "OhmNets$Net" "lineCount" "I", .instanceMethod yX0_init, .code yX0_init cX0_init 1 none, .methodLink RX0 1 objectInit, .fieldLink RX0 7 "OhmNets$Fraction" "upper" "J", .fieldLink RX0 13 "OhmNets$Fraction" "lower" "J"] ++ wsX30 ++ wsX00)
def wsX3_size : List Cond := .code yX3_size cX3_size 1 (some .int) :: ([.fieldLink RX3 21 "OhmNets$Net" "size" "I"] ++ wsX30)
def wsX3_at : List Cond := .code yX3_at cX3_at 2 (some (.object "OhmNets$OneWire")) :: ([.fieldLink RX3 21 "OhmNets$Net" "size" "I", .fieldLink RX3 11 "OhmNets$Net" "wires" "[LOhmNets$OneWire;"] ++ wsX30)
def wsX8_measure : List Cond := .code yX8_measure cX8_measure 3 (some .int) :: ([.fieldLink RX8 17 "OhmNets$Fraction" "lower" "J", .fieldLink RX8 7 "OhmNets$ThickWire" "m" "I", .methodLink RX8 13 yX2_measure, .sameMethod "OhmNets$LongWire" "OhmNets$LongWire" "measure" "(LOhmNets$Fraction;)I", .superclass RX8 RX2, .instanceMethod yX2_measure, .initialized RX2, .code yX2_measure cX2_measure 3 (some .int), .fieldLink RX2 17 "OhmNets$Fraction" "upper" "J", .fieldLink RX2 7 "OhmNets$LongWire" "k" "I", .methodLink RX2 13 yX4_measure, .sameMethod "OhmNets$OneWire" "OhmNets$OneWire" "measure" "(LOhmNets$Fraction;)I", .superclass RX2 RX4, .instanceMethod yX4_measure, .initialized RX4, .code yX4_measure cX4_measure 2 (some .int), .methodLink RX4 19 yX0_set, .instanceMethod yX0_set, .selects RX0 yX0_set yX0_set, .initialized RX0, .code yX0_set cX0_set 5 none, .fieldLink RX0 7 "OhmNets$Fraction" "upper" "J", .fieldLink RX0 13 "OhmNets$Fraction" "lower" "J"] ++ wsX00 ++ wsX80 ++ wsX20)
def wsX3_flowOf_r1 : List Cond := [Cond.fieldLink RX3 28 "OhmNets$Net" "measured" "LOhmNets$Fraction;", Cond.fieldLink RX3 55 "OhmNets$Fraction" "upper" "J", Cond.constantLong RX3 59 (12), Cond.fieldLink RX3 61 "OhmNets$Fraction" "lower" "J", Cond.methodLink RX3 51 ⟨"OhmNets$OneWire", "measure", "(LOhmNets$Fraction;)I"⟩, Cond.sameMethod "OhmNets$OneWire" "OhmNets$OneWire" "measure" "(LOhmNets$Fraction;)I", Cond.instanceMethod ⟨"OhmNets$OneWire", "measure", "(LOhmNets$Fraction;)I"⟩, Cond.selects RX2 ⟨"OhmNets$OneWire", "measure", "(LOhmNets$Fraction;)I"⟩ yX2_measure, Cond.instanceMethod yX2_measure, Cond.initialized RX2, Cond.code yX2_measure cX2_measure 3 (some .int), Cond.fieldLink RX2 17 "OhmNets$Fraction" "upper" "J", Cond.fieldLink RX2 7 "OhmNets$LongWire" "k" "I", Cond.methodLink RX2 13 yX4_measure, Cond.superclass RX2 RX4, Cond.instanceMethod yX4_measure, Cond.initialized RX4, Cond.code yX4_measure cX4_measure 2 (some .int), Cond.methodLink RX4 19 yX0_set, Cond.instanceMethod yX0_set, Cond.selects RX0 yX0_set yX0_set, Cond.initialized RX0, Cond.code yX0_set cX0_set 5 none, Cond.fieldLink RX0 7 "OhmNets$Fraction" "upper" "J"]
def wsX3_flowOf_r2 : List Cond := [Cond.fieldLink RX0 13 "OhmNets$Fraction" "lower" "J", Cond.methodLink RX3 51 yX4_measure, Cond.selects RX4 yX4_measure yX4_measure, Cond.selects RX8 ⟨"OhmNets$OneWire", "measure", "(LOhmNets$Fraction;)I"⟩ yX8_measure, Cond.instanceMethod yX8_measure, Cond.initialized RX8, Cond.code yX8_measure cX8_measure 3 (some .int), Cond.fieldLink RX8 17 "OhmNets$Fraction" "lower" "J", Cond.fieldLink RX8 7 "OhmNets$ThickWire" "m" "I", Cond.methodLink RX8 13 yX2_measure, Cond.sameMethod "OhmNets$LongWire" "OhmNets$LongWire" "measure" "(LOhmNets$Fraction;)I", Cond.superclass RX8 RX2]
def wsX3_flowOf : List Cond := .code yX3_flowOf cX3_flowOf 2 (some .long) :: ((wsX3_flowOf_r1 ++ wsX3_flowOf_r2) ++ wsX30 ++ wsX00 ++ wsX20 ++ wsX80)
def wsX3_add_r1 : List Cond := [Cond.fieldLink RX3 11 "OhmNets$Net" "wires" "[LOhmNets$OneWire;", Cond.fieldLink RX3 21 "OhmNets$Net" "size" "I", Cond.fieldLink RX3 17 "OhmNets$Net" "flows" "[J", Cond.methodLink RX3 47 yX3_flowOf, Cond.instanceMethod yX3_flowOf, Cond.selects RX3 yX3_flowOf yX3_flowOf, Cond.initialized RX3, Cond.code yX3_flowOf cX3_flowOf 2 (some .long), Cond.fieldLink RX3 28 "OhmNets$Net" "measured" "LOhmNets$Fraction;", Cond.fieldLink RX3 55 "OhmNets$Fraction" "upper" "J", Cond.constantLong RX3 59 (12), Cond.fieldLink RX3 61 "OhmNets$Fraction" "lower" "J", Cond.methodLink RX3 51 ⟨"OhmNets$OneWire", "measure", "(LOhmNets$Fraction;)I"⟩, Cond.sameMethod "OhmNets$OneWire" "OhmNets$OneWire" "measure" "(LOhmNets$Fraction;)I", Cond.instanceMethod ⟨"OhmNets$OneWire", "measure", "(LOhmNets$Fraction;)I"⟩, Cond.selects RX2 ⟨"OhmNets$OneWire", "measure", "(LOhmNets$Fraction;)I"⟩ yX2_measure, Cond.instanceMethod yX2_measure, Cond.initialized RX2, Cond.code yX2_measure cX2_measure 3 (some .int), Cond.fieldLink RX2 17 "OhmNets$Fraction" "upper" "J", Cond.fieldLink RX2 7 "OhmNets$LongWire" "k" "I", Cond.methodLink RX2 13 yX4_measure, Cond.superclass RX2 RX4, Cond.instanceMethod yX4_measure]
def wsX3_add_r2 : List Cond := [Cond.initialized RX4, Cond.code yX4_measure cX4_measure 2 (some .int), Cond.methodLink RX4 19 yX0_set, Cond.instanceMethod yX0_set, Cond.selects RX0 yX0_set yX0_set, Cond.initialized RX0, Cond.code yX0_set cX0_set 5 none, Cond.fieldLink RX0 7 "OhmNets$Fraction" "upper" "J", Cond.fieldLink RX0 13 "OhmNets$Fraction" "lower" "J", Cond.methodLink RX3 51 yX4_measure, Cond.selects RX4 yX4_measure yX4_measure, Cond.selects RX8 ⟨"OhmNets$OneWire", "measure", "(LOhmNets$Fraction;)I"⟩ yX8_measure, Cond.instanceMethod yX8_measure, Cond.initialized RX8, Cond.code yX8_measure cX8_measure 3 (some .int), Cond.fieldLink RX8 17 "OhmNets$Fraction" "lower" "J", Cond.fieldLink RX8 7 "OhmNets$ThickWire" "m" "I", Cond.methodLink RX8 13 yX2_measure, Cond.sameMethod "OhmNets$LongWire" "OhmNets$LongWire" "measure" "(LOhmNets$Fraction;)I", Cond.superclass RX8 RX2]
def wsX3_add : List Cond := .code yX3_add cX3_add 2 (some .int) :: ((wsX3_add_r1 ++ wsX3_add_r2) ++ wsX30 ++ wsX00 ++ wsX20 ++ wsX80)
def wsX3_removeLatest : List Cond := .code yX3_removeLatest cX3_removeLatest 1 (some .int) :: ([.fieldLink RX3 21 "OhmNets$Net" "size" "I", .fieldLink RX3 11 "OhmNets$Net" "wires" "[LOhmNets$OneWire;"] ++ wsX30)
def wsX3_knotsWithWires : List Cond := .code yX3_knotsWithWires cX3_knotsWithWires 3 (some .int) :: ([.fieldLink RX3 21 "OhmNets$Net" "size" "I", .fieldLink RX3 11 "OhmNets$Net" "wires" "[LOhmNets$OneWire;", .fieldLink RX3 64 "OhmNets$OneWire" "first" "I", .fieldLink RX3 67 "OhmNets$OneWire" "second" "I"] ++ wsX30 ++ wsX20 ++ wsX40 ++ wsX80)
def wsX4_touches : List Cond := .code yX4_touches cX4_touches 2 (some .boolean) :: ([.fieldLink RX4 13 "OhmNets$OneWire" "first" "I", .fieldLink RX4 16 "OhmNets$OneWire" "second" "I"] ++ wsX20 ++ wsX40 ++ wsX80)
def wsX3_reachedFrom : List Cond := .code yX3_reachedFrom cX3_reachedFrom 5 (some .int) :: ([.fieldLink RX3 21 "OhmNets$Net" "size" "I", .fieldLink RX3 11 "OhmNets$Net" "wires" "[LOhmNets$OneWire;", .fieldLink RX3 64 "OhmNets$OneWire" "first" "I", .fieldLink RX3 67 "OhmNets$OneWire" "second" "I", .methodLink RX3 74 ⟨"OhmNets$OneWire", "touches", "(I)Z"⟩, .sameMethod "OhmNets$OneWire" "OhmNets$OneWire" "touches" "(I)Z", .selects RX2 ⟨"OhmNets$OneWire", "touches", "(I)Z"⟩ yX4_touches, .instanceMethod yX4_touches, .initialized RX4, .code yX4_touches cX4_touches 2 (some .boolean), .fieldLink RX4 13 "OhmNets$OneWire" "first" "I", .fieldLink RX4 16 "OhmNets$OneWire" "second" "I", .methodLink RX3 74 yX4_touches, .selects RX4 yX4_touches yX4_touches, .selects RX8 ⟨"OhmNets$OneWire", "touches", "(I)Z"⟩ yX4_touches] ++ wsX30 ++ wsX20 ++ wsX40 ++ wsX80)
def wsX3_hangTogether : List Cond := .code yX3_hangTogether cX3_hangTogether 3 (some .boolean) :: ([.methodLink RX3 70 yX3_reachedFrom, .instanceMethod yX3_reachedFrom, .selects RX3 yX3_reachedFrom yX3_reachedFrom, .initialized RX3, .code yX3_reachedFrom cX3_reachedFrom 5 (some .int), .fieldLink RX3 21 "OhmNets$Net" "size" "I", .fieldLink RX3 11 "OhmNets$Net" "wires" "[LOhmNets$OneWire;", .fieldLink RX3 64 "OhmNets$OneWire" "first" "I", .fieldLink RX3 67 "OhmNets$OneWire" "second" "I", .methodLink RX3 74 ⟨"OhmNets$OneWire", "touches", "(I)Z"⟩, .sameMethod "OhmNets$OneWire" "OhmNets$OneWire" "touches" "(I)Z", .selects RX2 ⟨"OhmNets$OneWire", "touches", "(I)Z"⟩ yX4_touches, .instanceMethod yX4_touches, .initialized RX4, .code yX4_touches cX4_touches 2 (some .boolean), .fieldLink RX4 13 "OhmNets$OneWire" "first" "I", .fieldLink RX4 16 "OhmNets$OneWire" "second" "I", .methodLink RX3 74 yX4_touches, .selects RX4 yX4_touches yX4_touches, .selects RX8 ⟨"OhmNets$OneWire", "touches", "(I)Z"⟩ yX4_touches] ++ wsX30 ++ wsX20 ++ wsX40 ++ wsX80)
def wsX3_numberLines : List Cond := .code yX3_numberLines cX3_numberLines 3 none :: ([.fieldLink RX3 44 "OhmNets$Net" "lineCount" "I", .fieldLink RX3 41 "OhmNets$Net" "lineOf" "[I"] ++ wsX30)
def wsX3_layEnd : List Cond := .code yX3_layEnd cX3_layEnd 5 none :: ([.fieldLink RX3 38 "OhmNets$Net" "lines" "[[J"] ++ wsX30)
def wsX3_layLines : List Cond := .code yX3_layLines cX3_layLines 9 none :: ([.fieldLink RX3 44 "OhmNets$Net" "lineCount" "I", .fieldLink RX3 38 "OhmNets$Net" "lines" "[[J", .fieldLink RX3 21 "OhmNets$Net" "size" "I", .fieldLink RX3 41 "OhmNets$Net" "lineOf" "[I", .fieldLink RX3 11 "OhmNets$Net" "wires" "[LOhmNets$OneWire;", .fieldLink RX3 64 "OhmNets$OneWire" "first" "I", .fieldLink RX3 67 "OhmNets$OneWire" "second" "I", .fieldLink RX3 17 "OhmNets$Net" "flows" "[J", .methodLink RX3 110 yX3_numberLines, .instanceMethod yX3_numberLines, .selects RX3 yX3_numberLines yX3_numberLines, .initialized RX3, .code yX3_numberLines cX3_numberLines 3 none, .methodLink RX3 114 yX3_layEnd, .instanceMethod yX3_layEnd, .selects RX3 yX3_layEnd yX3_layEnd, .code yX3_layEnd cX3_layEnd 5 none] ++ wsX30 ++ wsX20 ++ wsX40 ++ wsX80)
def wsX3_subtract : List Cond := .code yX3_subtract cX3_subtract 10 none :: ([.fieldLink RX3 38 "OhmNets$Net" "lines" "[[J", .fieldLink RX3 44 "OhmNets$Net" "lineCount" "I"] ++ wsX30)
def wsX3_eliminate : List Cond := .code yX3_eliminate cX3_eliminate 7 (some .long) :: ([.fieldLink RX3 44 "OhmNets$Net" "lineCount" "I", .fieldLink RX3 38 "OhmNets$Net" "lines" "[[J", .methodLink RX3 118 yX3_subtract, .instanceMethod yX3_subtract, .selects RX3 yX3_subtract yX3_subtract, .initialized RX3, .code yX3_subtract cX3_subtract 10 none] ++ wsX30)
def wsX3_solve_r1 : List Cond := [Cond.fieldLink RX3 41 "OhmNets$Net" "lineOf" "[I", Cond.fieldLink RX3 38 "OhmNets$Net" "lines" "[[J", Cond.fieldLink RX3 44 "OhmNets$Net" "lineCount" "I", Cond.methodLink RX3 70 yX3_reachedFrom, Cond.instanceMethod yX3_reachedFrom, Cond.selects RX3 yX3_reachedFrom yX3_reachedFrom, Cond.initialized RX3, Cond.code yX3_reachedFrom cX3_reachedFrom 5 (some .int), Cond.fieldLink RX3 21 "OhmNets$Net" "size" "I", Cond.fieldLink RX3 11 "OhmNets$Net" "wires" "[LOhmNets$OneWire;", Cond.fieldLink RX3 64 "OhmNets$OneWire" "first" "I", Cond.fieldLink RX3 67 "OhmNets$OneWire" "second" "I", Cond.methodLink RX3 74 ⟨"OhmNets$OneWire", "touches", "(I)Z"⟩, Cond.sameMethod "OhmNets$OneWire" "OhmNets$OneWire" "touches" "(I)Z", Cond.selects RX2 ⟨"OhmNets$OneWire", "touches", "(I)Z"⟩ yX4_touches, Cond.instanceMethod yX4_touches, Cond.initialized RX4, Cond.code yX4_touches cX4_touches 2 (some .boolean), Cond.fieldLink RX4 13 "OhmNets$OneWire" "first" "I", Cond.fieldLink RX4 16 "OhmNets$OneWire" "second" "I", Cond.methodLink RX3 74 yX4_touches, Cond.selects RX4 yX4_touches yX4_touches, Cond.selects RX8 ⟨"OhmNets$OneWire", "touches", "(I)Z"⟩ yX4_touches, Cond.methodLink RX3 93 yX3_layLines]
def wsX3_solve_r2 : List Cond := [Cond.instanceMethod yX3_layLines, Cond.selects RX3 yX3_layLines yX3_layLines, Cond.code yX3_layLines cX3_layLines 9 none, Cond.fieldLink RX3 17 "OhmNets$Net" "flows" "[J", Cond.methodLink RX3 110 yX3_numberLines, Cond.instanceMethod yX3_numberLines, Cond.selects RX3 yX3_numberLines yX3_numberLines, Cond.code yX3_numberLines cX3_numberLines 3 none, Cond.methodLink RX3 114 yX3_layEnd, Cond.instanceMethod yX3_layEnd, Cond.selects RX3 yX3_layEnd yX3_layEnd, Cond.code yX3_layEnd cX3_layEnd 5 none, Cond.methodLink RX3 97 yX3_eliminate, Cond.instanceMethod yX3_eliminate, Cond.selects RX3 yX3_eliminate yX3_eliminate, Cond.code yX3_eliminate cX3_eliminate 7 (some .long), Cond.methodLink RX3 118 yX3_subtract, Cond.instanceMethod yX3_subtract, Cond.selects RX3 yX3_subtract yX3_subtract, Cond.code yX3_subtract cX3_subtract 10 none]
def wsX3_solve : List Cond := .code yX3_solve cX3_solve 4 (some .long) :: ((wsX3_solve_r1 ++ wsX3_solve_r2) ++ wsX30 ++ wsX20 ++ wsX40 ++ wsX80)
def wsX3_numberOf : List Cond := .code yX3_numberOf cX3_numberOf 3 (some .long) :: ([.fieldLink RX3 41 "OhmNets$Net" "lineOf" "[I", .fieldLink RX3 38 "OhmNets$Net" "lines" "[[J", .fieldLink RX3 44 "OhmNets$Net" "lineCount" "I"] ++ wsX30)
def wsX3_solveBetween_r1 : List Cond := [Cond.constantLong RX3 59 (12), Cond.methodLink RX3 78 yX0_set, Cond.instanceMethod yX0_set, Cond.selects RX0 yX0_set yX0_set, Cond.initialized RX0, Cond.code yX0_set cX0_set 5 none, Cond.fieldLink RX0 7 "OhmNets$Fraction" "upper" "J", Cond.fieldLink RX0 13 "OhmNets$Fraction" "lower" "J", Cond.methodLink RX3 82 yX3_solve, Cond.instanceMethod yX3_solve, Cond.selects RX3 yX3_solve yX3_solve, Cond.initialized RX3, Cond.code yX3_solve cX3_solve 4 (some .long), Cond.fieldLink RX3 41 "OhmNets$Net" "lineOf" "[I", Cond.fieldLink RX3 38 "OhmNets$Net" "lines" "[[J", Cond.fieldLink RX3 44 "OhmNets$Net" "lineCount" "I", Cond.methodLink RX3 70 yX3_reachedFrom, Cond.instanceMethod yX3_reachedFrom, Cond.selects RX3 yX3_reachedFrom yX3_reachedFrom, Cond.code yX3_reachedFrom cX3_reachedFrom 5 (some .int), Cond.fieldLink RX3 21 "OhmNets$Net" "size" "I", Cond.fieldLink RX3 11 "OhmNets$Net" "wires" "[LOhmNets$OneWire;", Cond.fieldLink RX3 64 "OhmNets$OneWire" "first" "I", Cond.fieldLink RX3 67 "OhmNets$OneWire" "second" "I"]
def wsX3_solveBetween_r2 : List Cond := [Cond.methodLink RX3 74 ⟨"OhmNets$OneWire", "touches", "(I)Z"⟩, Cond.sameMethod "OhmNets$OneWire" "OhmNets$OneWire" "touches" "(I)Z", Cond.selects RX2 ⟨"OhmNets$OneWire", "touches", "(I)Z"⟩ yX4_touches, Cond.instanceMethod yX4_touches, Cond.initialized RX4, Cond.code yX4_touches cX4_touches 2 (some .boolean), Cond.fieldLink RX4 13 "OhmNets$OneWire" "first" "I", Cond.fieldLink RX4 16 "OhmNets$OneWire" "second" "I", Cond.methodLink RX3 74 yX4_touches, Cond.selects RX4 yX4_touches yX4_touches, Cond.selects RX8 ⟨"OhmNets$OneWire", "touches", "(I)Z"⟩ yX4_touches, Cond.methodLink RX3 93 yX3_layLines, Cond.instanceMethod yX3_layLines, Cond.selects RX3 yX3_layLines yX3_layLines, Cond.code yX3_layLines cX3_layLines 9 none, Cond.fieldLink RX3 17 "OhmNets$Net" "flows" "[J", Cond.methodLink RX3 110 yX3_numberLines, Cond.instanceMethod yX3_numberLines, Cond.selects RX3 yX3_numberLines yX3_numberLines, Cond.code yX3_numberLines cX3_numberLines 3 none, Cond.methodLink RX3 114 yX3_layEnd, Cond.instanceMethod yX3_layEnd, Cond.selects RX3 yX3_layEnd yX3_layEnd, Cond.code yX3_layEnd cX3_layEnd 5 none]
def wsX3_solveBetween_r3 : List Cond := [Cond.methodLink RX3 97 yX3_eliminate, Cond.instanceMethod yX3_eliminate, Cond.selects RX3 yX3_eliminate yX3_eliminate, Cond.code yX3_eliminate cX3_eliminate 7 (some .long), Cond.methodLink RX3 118 yX3_subtract, Cond.instanceMethod yX3_subtract, Cond.selects RX3 yX3_subtract yX3_subtract, Cond.code yX3_subtract cX3_subtract 10 none, Cond.methodLink RX3 86 yX3_numberOf, Cond.instanceMethod yX3_numberOf, Cond.selects RX3 yX3_numberOf yX3_numberOf, Cond.code yX3_numberOf cX3_numberOf 3 (some .long), Cond.methodLink RX3 90 yX0_reduce, Cond.instanceMethod yX0_reduce, Cond.selects RX0 yX0_reduce yX0_reduce, Cond.code yX0_reduce cX0_reduce 3 none, Cond.methodLink RX0 16 Lib.MathLoose.abs_long.x, Cond.static Lib.MathLoose.abs_long.x, Cond.initialized "java/lang/Math", Cond.code Lib.MathLoose.abs_long.x Lib.MathLoose.abs_long.code 2 (some .long), Cond.methodLink RX0 22 yX0_commonDivisor, Cond.static yX0_commonDivisor, Cond.code yX0_commonDivisor cX0_commonDivisor 11 (some .long)]
def wsX3_solveBetween : List Cond := .code yX3_solveBetween cX3_solveBetween 6 none :: ((wsX3_solveBetween_r1 ++ (wsX3_solveBetween_r2 ++ wsX3_solveBetween_r3)) ++ wsX00 ++ wsX30 ++ wsX20 ++ wsX40 ++ wsX80)
def wsX3_solveThrough_r1 : List Cond := [Cond.fieldLink RX3 11 "OhmNets$Net" "wires" "[LOhmNets$OneWire;", Cond.fieldLink RX3 64 "OhmNets$OneWire" "first" "I", Cond.fieldLink RX3 67 "OhmNets$OneWire" "second" "I", Cond.fieldLink RX3 17 "OhmNets$Net" "flows" "[J", Cond.methodLink RX3 82 yX3_solve, Cond.instanceMethod yX3_solve, Cond.selects RX3 yX3_solve yX3_solve, Cond.initialized RX3, Cond.code yX3_solve cX3_solve 4 (some .long), Cond.fieldLink RX3 41 "OhmNets$Net" "lineOf" "[I", Cond.fieldLink RX3 38 "OhmNets$Net" "lines" "[[J", Cond.fieldLink RX3 44 "OhmNets$Net" "lineCount" "I", Cond.methodLink RX3 70 yX3_reachedFrom, Cond.instanceMethod yX3_reachedFrom, Cond.selects RX3 yX3_reachedFrom yX3_reachedFrom, Cond.code yX3_reachedFrom cX3_reachedFrom 5 (some .int), Cond.fieldLink RX3 21 "OhmNets$Net" "size" "I", Cond.methodLink RX3 74 ⟨"OhmNets$OneWire", "touches", "(I)Z"⟩, Cond.sameMethod "OhmNets$OneWire" "OhmNets$OneWire" "touches" "(I)Z", Cond.selects RX2 ⟨"OhmNets$OneWire", "touches", "(I)Z"⟩ yX4_touches, Cond.instanceMethod yX4_touches, Cond.initialized RX4, Cond.code yX4_touches cX4_touches 2 (some .boolean), Cond.fieldLink RX4 13 "OhmNets$OneWire" "first" "I"]
def wsX3_solveThrough_r2 : List Cond := [Cond.fieldLink RX4 16 "OhmNets$OneWire" "second" "I", Cond.methodLink RX3 74 yX4_touches, Cond.selects RX4 yX4_touches yX4_touches, Cond.selects RX8 ⟨"OhmNets$OneWire", "touches", "(I)Z"⟩ yX4_touches, Cond.methodLink RX3 93 yX3_layLines, Cond.instanceMethod yX3_layLines, Cond.selects RX3 yX3_layLines yX3_layLines, Cond.code yX3_layLines cX3_layLines 9 none, Cond.methodLink RX3 110 yX3_numberLines, Cond.instanceMethod yX3_numberLines, Cond.selects RX3 yX3_numberLines yX3_numberLines, Cond.code yX3_numberLines cX3_numberLines 3 none, Cond.methodLink RX3 114 yX3_layEnd, Cond.instanceMethod yX3_layEnd, Cond.selects RX3 yX3_layEnd yX3_layEnd, Cond.code yX3_layEnd cX3_layEnd 5 none, Cond.methodLink RX3 97 yX3_eliminate, Cond.instanceMethod yX3_eliminate, Cond.selects RX3 yX3_eliminate yX3_eliminate, Cond.code yX3_eliminate cX3_eliminate 7 (some .long), Cond.methodLink RX3 118 yX3_subtract, Cond.instanceMethod yX3_subtract, Cond.selects RX3 yX3_subtract yX3_subtract, Cond.code yX3_subtract cX3_subtract 10 none]
def wsX3_solveThrough_r3 : List Cond := [Cond.methodLink RX3 86 yX3_numberOf, Cond.instanceMethod yX3_numberOf, Cond.selects RX3 yX3_numberOf yX3_numberOf, Cond.code yX3_numberOf cX3_numberOf 3 (some .long), Cond.methodLink RX3 78 yX0_set, Cond.instanceMethod yX0_set, Cond.selects RX0 yX0_set yX0_set, Cond.initialized RX0, Cond.code yX0_set cX0_set 5 none, Cond.fieldLink RX0 7 "OhmNets$Fraction" "upper" "J", Cond.fieldLink RX0 13 "OhmNets$Fraction" "lower" "J", Cond.methodLink RX3 90 yX0_reduce, Cond.instanceMethod yX0_reduce, Cond.selects RX0 yX0_reduce yX0_reduce, Cond.code yX0_reduce cX0_reduce 3 none, Cond.methodLink RX0 16 Lib.MathLoose.abs_long.x, Cond.static Lib.MathLoose.abs_long.x, Cond.initialized "java/lang/Math", Cond.code Lib.MathLoose.abs_long.x Lib.MathLoose.abs_long.code 2 (some .long), Cond.methodLink RX0 22 yX0_commonDivisor, Cond.static yX0_commonDivisor, Cond.code yX0_commonDivisor cX0_commonDivisor 11 (some .long)]
def wsX3_solveThrough : List Cond := .code yX3_solveThrough cX3_solveThrough 9 none :: ((wsX3_solveThrough_r1 ++ (wsX3_solveThrough_r2 ++ wsX3_solveThrough_r3)) ++ wsX30 ++ wsX20 ++ wsX40 ++ wsX80 ++ wsX00)
def wsJ6_numberOfTrailingZeros_0f7a4 : List Cond := .code yJ6_numberOfTrailingZeros_0f7a4 cJ6_numberOfTrailingZeros_0f7a4 2 (some .int) :: ([.constant RJ6 264 (65536)])
def wsX3_countTrees_r1 : List Cond := [Cond.methodLink RX3 101 yX3_knotsWithWires, Cond.instanceMethod yX3_knotsWithWires, Cond.selects RX3 yX3_knotsWithWires yX3_knotsWithWires, Cond.initialized RX3, Cond.code yX3_knotsWithWires cX3_knotsWithWires 3 (some .int), Cond.fieldLink RX3 21 "OhmNets$Net" "size" "I", Cond.fieldLink RX3 11 "OhmNets$Net" "wires" "[LOhmNets$OneWire;", Cond.fieldLink RX3 64 "OhmNets$OneWire" "first" "I", Cond.fieldLink RX3 67 "OhmNets$OneWire" "second" "I", Cond.methodLink RX3 105 yJ6_numberOfTrailingZeros_0f7a4, Cond.static yJ6_numberOfTrailingZeros_0f7a4, Cond.initialized RJ6, Cond.code yJ6_numberOfTrailingZeros_0f7a4 cJ6_numberOfTrailingZeros_0f7a4 2 (some .int), Cond.constant RJ6 264 (65536), Cond.methodLink RX3 93 yX3_layLines, Cond.instanceMethod yX3_layLines, Cond.selects RX3 yX3_layLines yX3_layLines, Cond.code yX3_layLines cX3_layLines 9 none, Cond.fieldLink RX3 44 "OhmNets$Net" "lineCount" "I", Cond.fieldLink RX3 38 "OhmNets$Net" "lines" "[[J", Cond.fieldLink RX3 41 "OhmNets$Net" "lineOf" "[I", Cond.fieldLink RX3 17 "OhmNets$Net" "flows" "[J", Cond.methodLink RX3 110 yX3_numberLines, Cond.instanceMethod yX3_numberLines]
def wsX3_countTrees_r2 : List Cond := [Cond.selects RX3 yX3_numberLines yX3_numberLines, Cond.code yX3_numberLines cX3_numberLines 3 none, Cond.methodLink RX3 114 yX3_layEnd, Cond.instanceMethod yX3_layEnd, Cond.selects RX3 yX3_layEnd yX3_layEnd, Cond.code yX3_layEnd cX3_layEnd 5 none, Cond.methodLink RX3 97 yX3_eliminate, Cond.instanceMethod yX3_eliminate, Cond.selects RX3 yX3_eliminate yX3_eliminate, Cond.code yX3_eliminate cX3_eliminate 7 (some .long), Cond.methodLink RX3 118 yX3_subtract, Cond.instanceMethod yX3_subtract, Cond.selects RX3 yX3_subtract yX3_subtract, Cond.code yX3_subtract cX3_subtract 10 none]
def wsX3_countTrees : List Cond := .code yX3_countTrees cX3_countTrees 2 (some .int) :: ((wsX3_countTrees_r1 ++ wsX3_countTrees_r2) ++ wsX30 ++ wsX20 ++ wsX40 ++ wsX80)
def wsX3_link : List Cond := .code yX3_link cX3_link 3 none :: ([.fieldLink RX3 32 "OhmNets$Net" "neighbours" "[I"] ++ wsX30)
def wsX3_layNeighbours : List Cond := .code yX3_layNeighbours cX3_layNeighbours 3 none :: ([.fieldLink RX3 32 "OhmNets$Net" "neighbours" "[I", .fieldLink RX3 21 "OhmNets$Net" "size" "I", .fieldLink RX3 11 "OhmNets$Net" "wires" "[LOhmNets$OneWire;", .fieldLink RX3 64 "OhmNets$OneWire" "first" "I", .fieldLink RX3 67 "OhmNets$OneWire" "second" "I", .methodLink RX3 74 ⟨"OhmNets$OneWire", "touches", "(I)Z"⟩, .sameMethod "OhmNets$OneWire" "OhmNets$OneWire" "touches" "(I)Z", .selects RX2 ⟨"OhmNets$OneWire", "touches", "(I)Z"⟩ yX4_touches, .instanceMethod yX4_touches, .initialized RX4, .code yX4_touches cX4_touches 2 (some .boolean), .fieldLink RX4 13 "OhmNets$OneWire" "first" "I", .fieldLink RX4 16 "OhmNets$OneWire" "second" "I", .methodLink RX3 74 yX4_touches, .selects RX4 yX4_touches yX4_touches, .selects RX8 ⟨"OhmNets$OneWire", "touches", "(I)Z"⟩ yX4_touches, .methodLink RX3 130 yX3_link, .instanceMethod yX3_link, .selects RX3 yX3_link yX3_link, .initialized RX3, .code yX3_link cX3_link 3 none] ++ wsX30 ++ wsX20 ++ wsX40 ++ wsX80)
def wsJ6_bitCount_0f7a4 : List Cond := .code yJ6_bitCount_0f7a4 cJ6_bitCount_0f7a4 1 (some .int) :: ([.constant RJ6 265 (1431655765), .constant RJ6 266 (858993459), .constant RJ6 267 (252645135)])
def wsX3_takeAway : List Cond := .code yX3_takeAway cX3_takeAway 5 none :: ([.fieldLink RX3 32 "OhmNets$Net" "neighbours" "[I", .methodLink RX3 124 yJ6_bitCount_0f7a4, .static yJ6_bitCount_0f7a4, .initialized RJ6, .code yJ6_bitCount_0f7a4 cJ6_bitCount_0f7a4 1 (some .int), .constant RJ6 265 (1431655765), .constant RJ6 266 (858993459), .constant RJ6 267 (252645135), .methodLink RX3 105 yJ6_numberOfTrailingZeros_0f7a4, .static yJ6_numberOfTrailingZeros_0f7a4, .code yJ6_numberOfTrailingZeros_0f7a4 cJ6_numberOfTrailingZeros_0f7a4 2 (some .int), .constant RJ6 264 (65536), .methodLink RX3 130 yX3_link, .instanceMethod yX3_link, .selects RX3 yX3_link yX3_link, .initialized RX3, .code yX3_link cX3_link 3 none] ++ wsX30)
def wsX3_fallsTogether_r1 : List Cond := [Cond.fieldLink RX3 32 "OhmNets$Net" "neighbours" "[I", Cond.methodLink RX3 70 yX3_reachedFrom, Cond.instanceMethod yX3_reachedFrom, Cond.selects RX3 yX3_reachedFrom yX3_reachedFrom, Cond.initialized RX3, Cond.code yX3_reachedFrom cX3_reachedFrom 5 (some .int), Cond.fieldLink RX3 21 "OhmNets$Net" "size" "I", Cond.fieldLink RX3 11 "OhmNets$Net" "wires" "[LOhmNets$OneWire;", Cond.fieldLink RX3 64 "OhmNets$OneWire" "first" "I", Cond.fieldLink RX3 67 "OhmNets$OneWire" "second" "I", Cond.methodLink RX3 74 ⟨"OhmNets$OneWire", "touches", "(I)Z"⟩, Cond.sameMethod "OhmNets$OneWire" "OhmNets$OneWire" "touches" "(I)Z", Cond.selects RX2 ⟨"OhmNets$OneWire", "touches", "(I)Z"⟩ yX4_touches, Cond.instanceMethod yX4_touches, Cond.initialized RX4, Cond.code yX4_touches cX4_touches 2 (some .boolean), Cond.fieldLink RX4 13 "OhmNets$OneWire" "first" "I", Cond.fieldLink RX4 16 "OhmNets$OneWire" "second" "I", Cond.methodLink RX3 74 yX4_touches, Cond.selects RX4 yX4_touches yX4_touches, Cond.selects RX8 ⟨"OhmNets$OneWire", "touches", "(I)Z"⟩ yX4_touches, Cond.methodLink RX3 121 yX3_layNeighbours, Cond.instanceMethod yX3_layNeighbours, Cond.selects RX3 yX3_layNeighbours yX3_layNeighbours]
def wsX3_fallsTogether_r2 : List Cond := [Cond.code yX3_layNeighbours cX3_layNeighbours 3 none, Cond.methodLink RX3 130 yX3_link, Cond.instanceMethod yX3_link, Cond.selects RX3 yX3_link yX3_link, Cond.code yX3_link cX3_link 3 none, Cond.methodLink RX3 124 yJ6_bitCount_0f7a4, Cond.static yJ6_bitCount_0f7a4, Cond.initialized RJ6, Cond.code yJ6_bitCount_0f7a4 cJ6_bitCount_0f7a4 1 (some .int), Cond.constant RJ6 265 (1431655765), Cond.constant RJ6 266 (858993459), Cond.constant RJ6 267 (252645135), Cond.methodLink RX3 127 yX3_takeAway, Cond.instanceMethod yX3_takeAway, Cond.selects RX3 yX3_takeAway yX3_takeAway, Cond.code yX3_takeAway cX3_takeAway 5 none, Cond.methodLink RX3 105 yJ6_numberOfTrailingZeros_0f7a4, Cond.static yJ6_numberOfTrailingZeros_0f7a4, Cond.code yJ6_numberOfTrailingZeros_0f7a4 cJ6_numberOfTrailingZeros_0f7a4 2 (some .int), Cond.constant RJ6 264 (65536)]
def wsX3_fallsTogether : List Cond := .code yX3_fallsTogether cX3_fallsTogether 6 (some .boolean) :: ((wsX3_fallsTogether_r1 ++ wsX3_fallsTogether_r2) ++ wsX30 ++ wsX20 ++ wsX40 ++ wsX80)
def wsX6_find_r1 : List Cond := [Cond.methodLink RX6 28 yX6_placeOf, Cond.instanceMethod yX6_placeOf, Cond.selects RX6 yX6_placeOf yX6_placeOf, Cond.initialized RX6, Cond.code yX6_placeOf cX6_placeOf 7 (some .int), Cond.fieldLink RX6 12 "OhmNets$Shares" "inOrder" "Ljava/util/ArrayList;", Cond.classLink RX6 26 "OhmNets$Share", Cond.methodLink RX6 18 yJx4a65c_size_8abf5, Cond.instanceMethod yJx4a65c_size_8abf5, Cond.selects RJx4a65c yJx4a65c_size_8abf5 yJx4a65c_size_8abf5, Cond.initialized RJx4a65c, Cond.code yJx4a65c_size_8abf5 cJx4a65c_size_8abf5 1 (some .int), Cond.fieldLink RJx4a65c 48 "java/util/ArrayList" "size" "I", Cond.methodLink RX6 22 yJx4a65c_get_915e3, Cond.instanceMethod yJx4a65c_get_915e3, Cond.selects RJx4a65c yJx4a65c_get_915e3 yJx4a65c_get_915e3, Cond.code yJx4a65c_get_915e3 cJx4a65c_get_915e3 2 (some (.object "java/lang/Object")), Cond.methodLink RJx4a65c 118 yJ15_checkIndex_7cf53, Cond.static yJ15_checkIndex_7cf53, Cond.initialized RJ15, Cond.code yJ15_checkIndex_7cf53 cJ15_checkIndex_7cf53 2 (some .int), Cond.methodLink RJ15 105 yJ3_checkIndex_8e157, Cond.static yJ3_checkIndex_8e157, Cond.initialized RJ3]
def wsX6_find_r2 : List Cond := [Cond.code yJ3_checkIndex_8e157 cJ3_checkIndex_8e157 3 (some .int), Cond.methodLink RJx4a65c 123 yJx4a65c_elementData_915e3, Cond.instanceMethod yJx4a65c_elementData_915e3, Cond.selects RJx4a65c yJx4a65c_elementData_915e3 yJx4a65c_elementData_915e3, Cond.code yJx4a65c_elementData_915e3 cJx4a65c_elementData_915e3 2 (some (.object "java/lang/Object")), Cond.fieldLink RJx4a65c 9 "java/util/ArrayList" "elementData" "[Ljava/lang/Object;", Cond.methodLink RX6 55 yX6_compare, Cond.static yX6_compare, Cond.code yX6_compare cX6_compare 3 (some .int), Cond.fieldLink RX6 59 "OhmNets$Share" "upper" "I", Cond.fieldLink RX6 62 "OhmNets$Share" "lower" "I", Cond.methodLink RX6 64 yJ13_compare_74951, Cond.static yJ13_compare_74951, Cond.initialized RJ13, Cond.code yJ13_compare_74951 cJ13_compare_74951 4 (some .int), Cond.methodLink RX6 32 yX6_isAt, Cond.instanceMethod yX6_isAt, Cond.selects RX6 yX6_isAt yX6_isAt, Cond.code yX6_isAt cX6_isAt 4 (some .boolean)]
def wsX6_find : List Cond := .code yX6_find cX6_find 4 (some .int) :: ((wsX6_find_r1 ++ wsX6_find_r2) ++ wsX60 ++ wsJx4a65c0 ++ wsX50)
def wsX7_init : List Cond := .code yX7_init cX7_init 1 none :: ([.methodLink RX7 3 objectInit, .instanceMethod objectInit, .code objectInit ⟨#[0xb1]⟩ 1 none, .arrayClass .int, .fieldLink RX7 9 "OhmNets$Shop" "sortOhms" "[I", .fieldLink RX7 15 "OhmNets$Shop" "sortPrices" "[I", .fieldLink RX7 18 "OhmNets$Shop" "size" "I", .classLink RX7 22 RX0, .instantiable RX0 2, .initialized RX0, .fieldLink RX7 25 "OhmNets$Shop" "tried" "LOhmNets$Fraction;", .fieldLink RX7 29 "OhmNets$Shop" "kept" "LOhmNets$Fraction;", .instanceMethod yX0_init, .code yX0_init cX0_init 1 none, .methodLink RX0 1 objectInit, .fieldLink RX0 7 "OhmNets$Fraction" "upper" "J", .fieldLink RX0 13 "OhmNets$Fraction" "lower" "J"] ++ wsX70 ++ wsX00)
def wsX7_size : List Cond := .code yX7_size cX7_size 1 (some .int) :: ([.fieldLink RX7 18 "OhmNets$Shop" "size" "I"] ++ wsX70)
def wsX7_add : List Cond := .code yX7_add cX7_add 3 (some .int) :: ([.fieldLink RX7 9 "OhmNets$Shop" "sortOhms" "[I", .fieldLink RX7 18 "OhmNets$Shop" "size" "I", .fieldLink RX7 15 "OhmNets$Shop" "sortPrices" "[I"] ++ wsX70)
def wsX7_isOneSort : List Cond := .code yX7_isOneSort cX7_isOneSort 1 (some .boolean) :: ([])
def wsX7_firstOf : List Cond := .code yX7_firstOf cX7_firstOf 1 (some .int) :: ([.methodLink RX7 32 yX7_isOneSort, .static yX7_isOneSort, .initialized RX7, .code yX7_isOneSort cX7_isOneSort 1 (some .boolean)])
def wsX7_secondOf : List Cond := .code yX7_secondOf cX7_secondOf 1 (some .int) :: ([])
def wsX7_has : List Cond := .code yX7_has cX7_has 2 (some .boolean) :: ([.fieldLink RX7 18 "OhmNets$Shop" "size" "I", .methodLink RX7 32 yX7_isOneSort, .static yX7_isOneSort, .initialized RX7, .code yX7_isOneSort cX7_isOneSort 1 (some .boolean), .methodLink RX7 36 yX7_firstOf, .static yX7_firstOf, .code yX7_firstOf cX7_firstOf 1 (some .int), .methodLink RX7 40 yX7_secondOf, .static yX7_secondOf, .code yX7_secondOf cX7_secondOf 1 (some .int)] ++ wsX70)
def wsX7_priceOf : List Cond := .code yX7_priceOf cX7_priceOf 3 (some .int) :: ([.fieldLink RX7 15 "OhmNets$Shop" "sortPrices" "[I", .methodLink RX7 36 yX7_firstOf, .static yX7_firstOf, .initialized RX7, .code yX7_firstOf cX7_firstOf 1 (some .int), .methodLink RX7 32 yX7_isOneSort, .static yX7_isOneSort, .code yX7_isOneSort cX7_isOneSort 1 (some .boolean), .methodLink RX7 40 yX7_secondOf, .static yX7_secondOf, .code yX7_secondOf cX7_secondOf 1 (some .int)] ++ wsX70)
def wsX7_measure : List Cond := .code yX7_measure cX7_measure 5 none :: ([.fieldLink RX7 9 "OhmNets$Shop" "sortOhms" "[I", .methodLink RX7 36 yX7_firstOf, .static yX7_firstOf, .initialized RX7, .code yX7_firstOf cX7_firstOf 1 (some .int), .methodLink RX7 32 yX7_isOneSort, .static yX7_isOneSort, .code yX7_isOneSort cX7_isOneSort 1 (some .boolean), .methodLink RX7 43 yX0_set, .instanceMethod yX0_set, .selects RX0 yX0_set yX0_set, .initialized RX0, .code yX0_set cX0_set 5 none, .fieldLink RX0 7 "OhmNets$Fraction" "upper" "J", .fieldLink RX0 13 "OhmNets$Fraction" "lower" "J", .methodLink RX7 40 yX7_secondOf, .static yX7_secondOf, .code yX7_secondOf cX7_secondOf 1 (some .int)] ++ wsX70 ++ wsX00)
def wsX7_gap : List Cond := .code yX7_gap cX7_gap 3 (some .long) :: ([.fieldLink RX7 58 "OhmNets$Fraction" "upper" "J", .fieldLink RX7 62 "OhmNets$Fraction" "lower" "J", .methodLink RX7 72 Lib.MathLoose.abs_long.x, .static Lib.MathLoose.abs_long.x, .initialized "java/lang/Math", .code Lib.MathLoose.abs_long.x Lib.MathLoose.abs_long.code 2 (some .long)] ++ wsX00)
def wsX7_isTriedBetter_r1 : List Cond := [Cond.fieldLink RX7 25 "OhmNets$Shop" "tried" "LOhmNets$Fraction;", Cond.fieldLink RX7 29 "OhmNets$Shop" "kept" "LOhmNets$Fraction;", Cond.fieldLink RX7 62 "OhmNets$Fraction" "lower" "J", Cond.methodLink RX7 65 yX7_gap, Cond.static yX7_gap, Cond.initialized RX7, Cond.code yX7_gap cX7_gap 3 (some .long), Cond.fieldLink RX7 58 "OhmNets$Fraction" "upper" "J", Cond.methodLink RX7 72 Lib.MathLoose.abs_long.x, Cond.static Lib.MathLoose.abs_long.x, Cond.initialized "java/lang/Math", Cond.code Lib.MathLoose.abs_long.x Lib.MathLoose.abs_long.code 2 (some .long), Cond.methodLink RX7 69 yX7_priceOf, Cond.instanceMethod yX7_priceOf, Cond.selects RX7 yX7_priceOf yX7_priceOf, Cond.code yX7_priceOf cX7_priceOf 3 (some .int), Cond.fieldLink RX7 15 "OhmNets$Shop" "sortPrices" "[I", Cond.methodLink RX7 36 yX7_firstOf, Cond.static yX7_firstOf, Cond.code yX7_firstOf cX7_firstOf 1 (some .int), Cond.methodLink RX7 32 yX7_isOneSort, Cond.static yX7_isOneSort, Cond.code yX7_isOneSort cX7_isOneSort 1 (some .boolean), Cond.methodLink RX7 40 yX7_secondOf]
def wsX7_isTriedBetter_r2 : List Cond := [Cond.static yX7_secondOf, Cond.code yX7_secondOf cX7_secondOf 1 (some .int)]
def wsX7_isTriedBetter : List Cond := .code yX7_isTriedBetter cX7_isTriedBetter 9 (some .boolean) :: ((wsX7_isTriedBetter_r1 ++ wsX7_isTriedBetter_r2) ++ wsX70 ++ wsX00)
def wsX7_nearestTo_r1 : List Cond := [Cond.fieldLink RX7 25 "OhmNets$Shop" "tried" "LOhmNets$Fraction;", Cond.fieldLink RX7 29 "OhmNets$Shop" "kept" "LOhmNets$Fraction;", Cond.fieldLink RX7 58 "OhmNets$Fraction" "upper" "J", Cond.fieldLink RX7 62 "OhmNets$Fraction" "lower" "J", Cond.methodLink RX7 47 yX7_has, Cond.instanceMethod yX7_has, Cond.selects RX7 yX7_has yX7_has, Cond.initialized RX7, Cond.code yX7_has cX7_has 2 (some .boolean), Cond.fieldLink RX7 18 "OhmNets$Shop" "size" "I", Cond.methodLink RX7 32 yX7_isOneSort, Cond.static yX7_isOneSort, Cond.code yX7_isOneSort cX7_isOneSort 1 (some .boolean), Cond.methodLink RX7 36 yX7_firstOf, Cond.static yX7_firstOf, Cond.code yX7_firstOf cX7_firstOf 1 (some .int), Cond.methodLink RX7 40 yX7_secondOf, Cond.static yX7_secondOf, Cond.code yX7_secondOf cX7_secondOf 1 (some .int), Cond.methodLink RX7 50 yX7_measure, Cond.instanceMethod yX7_measure, Cond.selects RX7 yX7_measure yX7_measure, Cond.code yX7_measure cX7_measure 5 none, Cond.fieldLink RX7 9 "OhmNets$Shop" "sortOhms" "[I"]
def wsX7_nearestTo_r2 : List Cond := [Cond.methodLink RX7 43 yX0_set, Cond.instanceMethod yX0_set, Cond.selects RX0 yX0_set yX0_set, Cond.initialized RX0, Cond.code yX0_set cX0_set 5 none, Cond.fieldLink RX0 7 "OhmNets$Fraction" "upper" "J", Cond.fieldLink RX0 13 "OhmNets$Fraction" "lower" "J", Cond.methodLink RX7 54 yX7_isTriedBetter, Cond.instanceMethod yX7_isTriedBetter, Cond.selects RX7 yX7_isTriedBetter yX7_isTriedBetter, Cond.code yX7_isTriedBetter cX7_isTriedBetter 9 (some .boolean), Cond.methodLink RX7 65 yX7_gap, Cond.static yX7_gap, Cond.code yX7_gap cX7_gap 3 (some .long), Cond.methodLink RX7 72 Lib.MathLoose.abs_long.x, Cond.static Lib.MathLoose.abs_long.x, Cond.initialized "java/lang/Math", Cond.code Lib.MathLoose.abs_long.x Lib.MathLoose.abs_long.code 2 (some .long), Cond.methodLink RX7 69 yX7_priceOf, Cond.instanceMethod yX7_priceOf, Cond.selects RX7 yX7_priceOf yX7_priceOf, Cond.code yX7_priceOf cX7_priceOf 3 (some .int), Cond.fieldLink RX7 15 "OhmNets$Shop" "sortPrices" "[I"]
def wsX7_nearestTo : List Cond := .code yX7_nearestTo cX7_nearestTo 5 (some .int) :: ((wsX7_nearestTo_r1 ++ wsX7_nearestTo_r2) ++ wsX70 ++ wsX00)
def wsX8_init : List Cond := .code yX8_init cX8_init 6 none :: ([.fieldLink RX8 7 "OhmNets$ThickWire" "m" "I", .methodLink RX8 1 yX2_init, .instanceMethod yX2_init, .initialized RX2, .code yX2_init cX2_init 5 none, .fieldLink RX2 7 "OhmNets$LongWire" "k" "I", .methodLink RX2 1 yX4_init, .instanceMethod yX4_init, .initialized RX4, .code yX4_init cX4_init 4 none, .methodLink RX4 1 objectInit, .instanceMethod objectInit, .code objectInit ⟨#[0xb1]⟩ 1 none, .fieldLink RX4 7 "OhmNets$OneWire" "kind" "I", .fieldLink RX4 13 "OhmNets$OneWire" "first" "I", .fieldLink RX4 16 "OhmNets$OneWire" "second" "I"] ++ wsX80 ++ wsX20 ++ wsX40)
def wsX9_init_r1 : List Cond := [Cond.methodLink RX9 1 objectInit, Cond.instanceMethod objectInit, Cond.code objectInit ⟨#[0xb1]⟩ 1 none, Cond.classLink RX9 7 RX1, Cond.instantiable RX1 3, Cond.initialized RX1, Cond.fieldLink RX9 10 "OhmNets" "likeParts" "LOhmNets$LikeParts;", Cond.classLink RX9 16 RX3, Cond.instantiable RX3 8, Cond.initialized RX3, Cond.fieldLink RX9 19 "OhmNets" "net" "LOhmNets$Net;", Cond.classLink RX9 23 RX7, Cond.instantiable RX7 5, Cond.initialized RX7, Cond.fieldLink RX9 26 "OhmNets" "shop" "LOhmNets$Shop;", Cond.classLink RX9 30 RX0, Cond.instantiable RX0 2, Cond.initialized RX0, Cond.fieldLink RX9 33 "OhmNets" "answer" "LOhmNets$Fraction;", Cond.fieldLink RX9 37 "OhmNets" "traced" "J", Cond.methodLink RX9 9 yX1_init, Cond.instanceMethod yX1_init, Cond.code yX1_init cX1_init 2 none, Cond.methodLink RX1 3 objectInit]
def wsX9_init_r2 : List Cond := [Cond.classLink RX1 9 RX6, Cond.fieldLink RX1 11 "OhmNets$LikeParts" "byParts" "[LOhmNets$Shares;", Cond.classLink RX1 17 RX0, Cond.fieldLink RX1 20 "OhmNets$LikeParts" "value" "LOhmNets$Fraction;", Cond.fieldLink RX1 24 "OhmNets$LikeParts" "known" "I", Cond.instantiable RX6 1, Cond.initialized RX6, Cond.instanceMethod yX0_init, Cond.code yX0_init cX0_init 1 none, Cond.methodLink RX0 1 objectInit, Cond.fieldLink RX0 7 "OhmNets$Fraction" "upper" "J", Cond.fieldLink RX0 13 "OhmNets$Fraction" "lower" "J", Cond.instanceMethod yX6_init, Cond.code yX6_init cX6_init 1 none, Cond.methodLink RX6 3 objectInit, Cond.classLink RX6 9 RJx4a65c, Cond.instantiable RJx4a65c 3, Cond.initialized RJx4a65c, Cond.fieldLink RX6 12 "OhmNets$Shares" "inOrder" "Ljava/util/ArrayList;", Cond.methodLink RX6 11 yJx4a65c_init_da8c8, Cond.instanceMethod yJx4a65c_init_da8c8, Cond.code yJx4a65c_init_da8c8 cJx4a65c_init_da8c8 1 none, Cond.fieldLink RJx4a65c 39 "java/util/ArrayList" "DEFAULTCAPACITY_EMPTY_ELEMENTDATA" "[Ljava/lang/Object;", Cond.fieldLink RJx4a65c 9 "java/util/ArrayList" "elementData" "[Ljava/lang/Object;"]
def wsX9_init_r3 : List Cond := [Cond.methodLink RJx4a65c 1 yJxc12de_init_da8c8, Cond.instanceMethod yJxc12de_init_da8c8, Cond.initialized RJxc12de, Cond.code yJxc12de_init_da8c8 cJxc12de_init_da8c8 1 none, Cond.fieldLink RJxc12de 7 "java/util/AbstractList" "modCount" "I", Cond.methodLink RJxc12de 1 yJxa1e45_init_da8c8, Cond.instanceMethod yJxa1e45_init_da8c8, Cond.initialized RJxa1e45, Cond.code yJxa1e45_init_da8c8 cJxa1e45_init_da8c8 1 none, Cond.methodLink RJxa1e45 1 objectInit, Cond.instanceMethod yX3_init, Cond.code yX3_init cX3_init 1 none, Cond.methodLink RX3 3 objectInit, Cond.classLink RX3 9 RX4, Cond.fieldLink RX3 11 "OhmNets$Net" "wires" "[LOhmNets$OneWire;", Cond.arrayClass .long, Cond.fieldLink RX3 17 "OhmNets$Net" "flows" "[J", Cond.fieldLink RX3 21 "OhmNets$Net" "size" "I", Cond.classLink RX3 25 RX0, Cond.fieldLink RX3 28 "OhmNets$Net" "measured" "LOhmNets$Fraction;", Cond.arrayClass .int, Cond.fieldLink RX3 32 "OhmNets$Net" "neighbours" "[I", Cond.classLink RX3 36 "[[J", Cond.fieldLink RX3 38 "OhmNets$Net" "lines" "[[J"]
def wsX9_init_r4 : List Cond := [Cond.fieldLink RX3 41 "OhmNets$Net" "lineOf" "[I", Cond.fieldLink RX3 44 "OhmNets$Net" "lineCount" "I", Cond.instanceMethod yX7_init, Cond.code yX7_init cX7_init 1 none, Cond.methodLink RX7 3 objectInit, Cond.fieldLink RX7 9 "OhmNets$Shop" "sortOhms" "[I", Cond.fieldLink RX7 15 "OhmNets$Shop" "sortPrices" "[I", Cond.fieldLink RX7 18 "OhmNets$Shop" "size" "I", Cond.classLink RX7 22 RX0, Cond.fieldLink RX7 25 "OhmNets$Shop" "tried" "LOhmNets$Fraction;", Cond.fieldLink RX7 29 "OhmNets$Shop" "kept" "LOhmNets$Fraction;"]
def wsX9_init : List Cond := .code yX9_init cX9_init 1 none :: ((wsX9_init_r1 ++ (wsX9_init_r2 ++ (wsX9_init_r3 ++ wsX9_init_r4))) ++ wsX10 ++ wsX90 ++ wsX30 ++ wsX70 ++ wsX00 ++ wsX60 ++ wsJx4a65c0)
def wsX9_isWithin : List Cond := .code yX9_isWithin cX9_isWithin 3 (some .boolean) :: ([])
def wsX9_many_r1 : List Cond := [Cond.fieldLink RX9 10 "OhmNets" "likeParts" "LOhmNets$LikeParts;", Cond.methodLink RX9 41 yX9_isWithin, Cond.static yX9_isWithin, Cond.initialized RX9, Cond.code yX9_isWithin cX9_isWithin 3 (some .boolean), Cond.methodLink RX9 45 yX1_sharesOf, Cond.instanceMethod yX1_sharesOf, Cond.selects RX1 yX1_sharesOf yX1_sharesOf, Cond.initialized RX1, Cond.code yX1_sharesOf cX1_sharesOf 3 (some (.object "OhmNets$Shares")), Cond.fieldLink RX1 24 "OhmNets$LikeParts" "known" "I", Cond.fieldLink RX1 11 "OhmNets$LikeParts" "byParts" "[LOhmNets$Shares;", Cond.methodLink RX1 29 yX1_fill, Cond.instanceMethod yX1_fill, Cond.selects RX1 yX1_fill yX1_fill, Cond.code yX1_fill cX1_fill 4 none, Cond.fieldLink RX1 20 "OhmNets$LikeParts" "value" "LOhmNets$Fraction;", Cond.methodLink RX1 33 yX0_set, Cond.instanceMethod yX0_set, Cond.selects RX0 yX0_set yX0_set, Cond.initialized RX0, Cond.code yX0_set cX0_set 5 none, Cond.fieldLink RX0 7 "OhmNets$Fraction" "upper" "J", Cond.fieldLink RX0 13 "OhmNets$Fraction" "lower" "J"]
def wsX9_many_r2 : List Cond := [Cond.methodLink RX1 37 yX6_offer, Cond.instanceMethod yX6_offer, Cond.selects RX6 yX6_offer yX6_offer, Cond.initialized RX6, Cond.code yX6_offer cX6_offer 9 none, Cond.fieldLink RX6 36 "OhmNets$Fraction" "upper" "J", Cond.fieldLink RX6 42 "OhmNets$Fraction" "lower" "J", Cond.fieldLink RX6 12 "OhmNets$Shares" "inOrder" "Ljava/util/ArrayList;", Cond.classLink RX6 26 RX5, Cond.instantiable RX5 6, Cond.initialized RX5, Cond.methodLink RX6 28 yX6_placeOf, Cond.instanceMethod yX6_placeOf, Cond.selects RX6 yX6_placeOf yX6_placeOf, Cond.code yX6_placeOf cX6_placeOf 7 (some .int), Cond.classLink RX6 26 "OhmNets$Share", Cond.methodLink RX6 18 yJx4a65c_size_8abf5, Cond.instanceMethod yJx4a65c_size_8abf5, Cond.selects RJx4a65c yJx4a65c_size_8abf5 yJx4a65c_size_8abf5, Cond.initialized RJx4a65c, Cond.code yJx4a65c_size_8abf5 cJx4a65c_size_8abf5 1 (some .int), Cond.fieldLink RJx4a65c 48 "java/util/ArrayList" "size" "I", Cond.methodLink RX6 22 yJx4a65c_get_915e3, Cond.instanceMethod yJx4a65c_get_915e3]
def wsX9_many_r3 : List Cond := [Cond.selects RJx4a65c yJx4a65c_get_915e3 yJx4a65c_get_915e3, Cond.code yJx4a65c_get_915e3 cJx4a65c_get_915e3 2 (some (.object "java/lang/Object")), Cond.methodLink RJx4a65c 118 yJ15_checkIndex_7cf53, Cond.static yJ15_checkIndex_7cf53, Cond.initialized RJ15, Cond.code yJ15_checkIndex_7cf53 cJ15_checkIndex_7cf53 2 (some .int), Cond.methodLink RJ15 105 yJ3_checkIndex_8e157, Cond.static yJ3_checkIndex_8e157, Cond.initialized RJ3, Cond.code yJ3_checkIndex_8e157 cJ3_checkIndex_8e157 3 (some .int), Cond.methodLink RJx4a65c 123 yJx4a65c_elementData_915e3, Cond.instanceMethod yJx4a65c_elementData_915e3, Cond.selects RJx4a65c yJx4a65c_elementData_915e3 yJx4a65c_elementData_915e3, Cond.code yJx4a65c_elementData_915e3 cJx4a65c_elementData_915e3 2 (some (.object "java/lang/Object")), Cond.fieldLink RJx4a65c 9 "java/util/ArrayList" "elementData" "[Ljava/lang/Object;", Cond.methodLink RX6 55 yX6_compare, Cond.static yX6_compare, Cond.code yX6_compare cX6_compare 3 (some .int), Cond.fieldLink RX6 59 "OhmNets$Share" "upper" "I", Cond.fieldLink RX6 62 "OhmNets$Share" "lower" "I", Cond.methodLink RX6 64 yJ13_compare_74951, Cond.static yJ13_compare_74951, Cond.initialized RJ13, Cond.code yJ13_compare_74951 cJ13_compare_74951 4 (some .int)]
def wsX9_many_r4 : List Cond := [Cond.methodLink RX6 32 yX6_isAt, Cond.instanceMethod yX6_isAt, Cond.selects RX6 yX6_isAt yX6_isAt, Cond.code yX6_isAt cX6_isAt 4 (some .boolean), Cond.methodLink RX6 45 yX0_reduce, Cond.instanceMethod yX0_reduce, Cond.selects RX0 yX0_reduce yX0_reduce, Cond.code yX0_reduce cX0_reduce 3 none, Cond.methodLink RX0 16 Lib.MathLoose.abs_long.x, Cond.static Lib.MathLoose.abs_long.x, Cond.initialized "java/lang/Math", Cond.code Lib.MathLoose.abs_long.x Lib.MathLoose.abs_long.code 2 (some .long), Cond.methodLink RX0 22 yX0_commonDivisor, Cond.static yX0_commonDivisor, Cond.code yX0_commonDivisor cX0_commonDivisor 11 (some .long), Cond.methodLink RX6 48 yX5_init, Cond.instanceMethod yX5_init, Cond.code yX5_init cX5_init 7 none, Cond.methodLink RX5 1 objectInit, Cond.instanceMethod objectInit, Cond.code objectInit ⟨#[0xb1]⟩ 1 none, Cond.fieldLink RX5 7 "OhmNets$Share" "upper" "I", Cond.fieldLink RX5 13 "OhmNets$Share" "lower" "I", Cond.fieldLink RX5 16 "OhmNets$Share" "how" "I"]
def wsX9_many_r5 : List Cond := [Cond.fieldLink RX5 19 "OhmNets$Share" "firstParts" "I", Cond.fieldLink RX5 22 "OhmNets$Share" "firstRank" "I", Cond.fieldLink RX5 25 "OhmNets$Share" "secondRank" "I", Cond.methodLink RX6 51 yJx4a65c_add_7a177, Cond.instanceMethod yJx4a65c_add_7a177, Cond.selects RJx4a65c yJx4a65c_add_7a177 yJx4a65c_add_7a177, Cond.code yJx4a65c_add_7a177 cJx4a65c_add_7a177 5 none, Cond.fieldLink RJx4a65c 63 "java/util/ArrayList" "modCount" "I", Cond.sameField "java/util/ArrayList" "java/util/AbstractList" "modCount" "I", Cond.methodLink RJx4a65c 112 arraycopyName, Cond.native arraycopyName, Cond.static arraycopyName, Cond.initialized "java/lang/System", Cond.methodLink RJx4a65c 135 yJx4a65c_rangeCheckForAdd_d00df, Cond.instanceMethod yJx4a65c_rangeCheckForAdd_d00df, Cond.selects RJx4a65c yJx4a65c_rangeCheckForAdd_d00df yJx4a65c_rangeCheckForAdd_d00df, Cond.code yJx4a65c_rangeCheckForAdd_d00df cJx4a65c_rangeCheckForAdd_d00df 2 none, Cond.methodLink RJx4a65c 129 yJx4a65c_grow_d5877, Cond.instanceMethod yJx4a65c_grow_d5877, Cond.selects RJx4a65c yJx4a65c_grow_d5877 yJx4a65c_grow_d5877, Cond.code yJx4a65c_grow_d5877 cJx4a65c_grow_d5877 1 (some (.array (.object "java/lang/Object"))), Cond.methodLink RJx4a65c 69 yJx4a65c_grow_92f84, Cond.instanceMethod yJx4a65c_grow_92f84, Cond.selects RJx4a65c yJx4a65c_grow_92f84 yJx4a65c_grow_92f84]
def wsX9_many_r6 : List Cond := [Cond.code yJx4a65c_grow_92f84 cJx4a65c_grow_92f84 4 (some (.array (.object "java/lang/Object"))), Cond.fieldLink RJx4a65c 39 "java/util/ArrayList" "DEFAULTCAPACITY_EMPTY_ELEMENTDATA" "[Ljava/lang/Object;", Cond.methodLink RJx4a65c 79 Lib.Math.max.name, Cond.static Lib.Math.max.name, Cond.code Lib.Math.max.name Lib.Math.max.code 2 (some .int), Cond.classLink RJx4a65c 7 "java/lang/Object", Cond.methodLink RJx4a65c 73 yJ8_newLength_cabcc, Cond.static yJ8_newLength_cabcc, Cond.initialized RJ8, Cond.code yJ8_newLength_cabcc cJ8_newLength_cabcc 4 (some .int), Cond.methodLink RJ8 194 Lib.Math.max.name, Cond.constant RJ8 200 (2147483639), Cond.methodLink RJ8 201 yJ8_hugeLength_7cf53, Cond.static yJ8_hugeLength_7cf53, Cond.code yJ8_hugeLength_7cf53 cJ8_hugeLength_7cf53 3 (some .int), Cond.methodLink RJx4a65c 66 yJ7_copyOf_1904c, Cond.static yJ7_copyOf_1904c, Cond.initialized RJ7, Cond.code yJ7_copyOf_1904c cJ7_copyOf_1904c 2 (some (.array (.object "java/lang/Object"))), Cond.methodLink RJ7 86 ⟨"java/lang/Object", "getClass", "()Ljava/lang/Class;"⟩, Cond.selects "[Ljava/lang/Object;" ⟨"java/lang/Object", "getClass", "()Ljava/lang/Class;"⟩ ⟨"java/lang/Object", "getClass", "()Ljava/lang/Class;"⟩, Cond.instanceMethod ⟨"java/lang/Object", "getClass", "()Ljava/lang/Class;"⟩, Cond.native ⟨"java/lang/Object", "getClass", "()Ljava/lang/Class;"⟩, Cond.methodLink RJ7 300 yJ7_copyOf_6403c]
def wsX9_many_r7 : List Cond := [Cond.static yJ7_copyOf_6403c, Cond.code yJ7_copyOf_6403c cJ7_copyOf_6403c 4 (some (.array (.object "java/lang/Object"))), Cond.classLink RJ7 110 "[Ljava/lang/Object;", Cond.classLink RJ7 2 "java/lang/Object", Cond.methodLink RJ7 304 Lib.Math.min.name, Cond.static Lib.Math.min.name, Cond.code Lib.Math.min.name Lib.Math.min.code 2 (some .int), Cond.methodLink RJ7 150 arraycopyName, Cond.methodLink RX1 41 yX1_offerPairs, Cond.instanceMethod yX1_offerPairs, Cond.selects RX1 yX1_offerPairs yX1_offerPairs, Cond.code yX1_offerPairs cX1_offerPairs 11 none, Cond.methodLink RX1 45 yX6_size, Cond.instanceMethod yX6_size, Cond.selects RX6 yX6_size yX6_size, Cond.code yX6_size cX6_size 1 (some .int), Cond.methodLink RX1 49 yX6_at, Cond.instanceMethod yX6_at, Cond.selects RX6 yX6_at yX6_at, Cond.code yX6_at cX6_at 2 (some (.object "OhmNets$Share")), Cond.methodLink RX1 53 yX1_join, Cond.instanceMethod yX1_join, Cond.selects RX1 yX1_join yX1_join, Cond.code yX1_join cX1_join 5 (some .boolean)]
def wsX9_many_r8 : List Cond := [Cond.fieldLink RX1 57 "OhmNets$Share" "upper" "I", Cond.fieldLink RX1 62 "OhmNets$Share" "lower" "I", Cond.methodLink RX9 49 yX6_size]
def wsX9_many : List Cond := .code yX9_many cX9_many 2 (some .int) :: ((wsX9_many_r1 ++ (wsX9_many_r2 ++ (wsX9_many_r3 ++ (wsX9_many_r4 ++ (wsX9_many_r5 ++ (wsX9_many_r6 ++ (wsX9_many_r7 ++ wsX9_many_r8))))))) ++ wsX90 ++ wsX10 ++ wsX00 ++ wsX60 ++ wsX50 ++ wsJx4a65c0)
def wsX9_shareAt_r1 : List Cond := [Cond.fieldLink RX9 10 "OhmNets" "likeParts" "LOhmNets$LikeParts;", Cond.methodLink RX9 41 yX9_isWithin, Cond.static yX9_isWithin, Cond.initialized RX9, Cond.code yX9_isWithin cX9_isWithin 3 (some .boolean), Cond.methodLink RX9 45 yX1_sharesOf, Cond.instanceMethod yX1_sharesOf, Cond.selects RX1 yX1_sharesOf yX1_sharesOf, Cond.initialized RX1, Cond.code yX1_sharesOf cX1_sharesOf 3 (some (.object "OhmNets$Shares")), Cond.fieldLink RX1 24 "OhmNets$LikeParts" "known" "I", Cond.fieldLink RX1 11 "OhmNets$LikeParts" "byParts" "[LOhmNets$Shares;", Cond.methodLink RX1 29 yX1_fill, Cond.instanceMethod yX1_fill, Cond.selects RX1 yX1_fill yX1_fill, Cond.code yX1_fill cX1_fill 4 none, Cond.fieldLink RX1 20 "OhmNets$LikeParts" "value" "LOhmNets$Fraction;", Cond.methodLink RX1 33 yX0_set, Cond.instanceMethod yX0_set, Cond.selects RX0 yX0_set yX0_set, Cond.initialized RX0, Cond.code yX0_set cX0_set 5 none, Cond.fieldLink RX0 7 "OhmNets$Fraction" "upper" "J", Cond.fieldLink RX0 13 "OhmNets$Fraction" "lower" "J"]
def wsX9_shareAt_r2 : List Cond := [Cond.methodLink RX1 37 yX6_offer, Cond.instanceMethod yX6_offer, Cond.selects RX6 yX6_offer yX6_offer, Cond.initialized RX6, Cond.code yX6_offer cX6_offer 9 none, Cond.fieldLink RX6 36 "OhmNets$Fraction" "upper" "J", Cond.fieldLink RX6 42 "OhmNets$Fraction" "lower" "J", Cond.fieldLink RX6 12 "OhmNets$Shares" "inOrder" "Ljava/util/ArrayList;", Cond.classLink RX6 26 RX5, Cond.instantiable RX5 6, Cond.initialized RX5, Cond.methodLink RX6 28 yX6_placeOf, Cond.instanceMethod yX6_placeOf, Cond.selects RX6 yX6_placeOf yX6_placeOf, Cond.code yX6_placeOf cX6_placeOf 7 (some .int), Cond.classLink RX6 26 "OhmNets$Share", Cond.methodLink RX6 18 yJx4a65c_size_8abf5, Cond.instanceMethod yJx4a65c_size_8abf5, Cond.selects RJx4a65c yJx4a65c_size_8abf5 yJx4a65c_size_8abf5, Cond.initialized RJx4a65c, Cond.code yJx4a65c_size_8abf5 cJx4a65c_size_8abf5 1 (some .int), Cond.fieldLink RJx4a65c 48 "java/util/ArrayList" "size" "I", Cond.methodLink RX6 22 yJx4a65c_get_915e3, Cond.instanceMethod yJx4a65c_get_915e3]
def wsX9_shareAt_r3 : List Cond := [Cond.selects RJx4a65c yJx4a65c_get_915e3 yJx4a65c_get_915e3, Cond.code yJx4a65c_get_915e3 cJx4a65c_get_915e3 2 (some (.object "java/lang/Object")), Cond.methodLink RJx4a65c 118 yJ15_checkIndex_7cf53, Cond.static yJ15_checkIndex_7cf53, Cond.initialized RJ15, Cond.code yJ15_checkIndex_7cf53 cJ15_checkIndex_7cf53 2 (some .int), Cond.methodLink RJ15 105 yJ3_checkIndex_8e157, Cond.static yJ3_checkIndex_8e157, Cond.initialized RJ3, Cond.code yJ3_checkIndex_8e157 cJ3_checkIndex_8e157 3 (some .int), Cond.methodLink RJx4a65c 123 yJx4a65c_elementData_915e3, Cond.instanceMethod yJx4a65c_elementData_915e3, Cond.selects RJx4a65c yJx4a65c_elementData_915e3 yJx4a65c_elementData_915e3, Cond.code yJx4a65c_elementData_915e3 cJx4a65c_elementData_915e3 2 (some (.object "java/lang/Object")), Cond.fieldLink RJx4a65c 9 "java/util/ArrayList" "elementData" "[Ljava/lang/Object;", Cond.methodLink RX6 55 yX6_compare, Cond.static yX6_compare, Cond.code yX6_compare cX6_compare 3 (some .int), Cond.fieldLink RX6 59 "OhmNets$Share" "upper" "I", Cond.fieldLink RX6 62 "OhmNets$Share" "lower" "I", Cond.methodLink RX6 64 yJ13_compare_74951, Cond.static yJ13_compare_74951, Cond.initialized RJ13, Cond.code yJ13_compare_74951 cJ13_compare_74951 4 (some .int)]
def wsX9_shareAt_r4 : List Cond := [Cond.methodLink RX6 32 yX6_isAt, Cond.instanceMethod yX6_isAt, Cond.selects RX6 yX6_isAt yX6_isAt, Cond.code yX6_isAt cX6_isAt 4 (some .boolean), Cond.methodLink RX6 45 yX0_reduce, Cond.instanceMethod yX0_reduce, Cond.selects RX0 yX0_reduce yX0_reduce, Cond.code yX0_reduce cX0_reduce 3 none, Cond.methodLink RX0 16 Lib.MathLoose.abs_long.x, Cond.static Lib.MathLoose.abs_long.x, Cond.initialized "java/lang/Math", Cond.code Lib.MathLoose.abs_long.x Lib.MathLoose.abs_long.code 2 (some .long), Cond.methodLink RX0 22 yX0_commonDivisor, Cond.static yX0_commonDivisor, Cond.code yX0_commonDivisor cX0_commonDivisor 11 (some .long), Cond.methodLink RX6 48 yX5_init, Cond.instanceMethod yX5_init, Cond.code yX5_init cX5_init 7 none, Cond.methodLink RX5 1 objectInit, Cond.instanceMethod objectInit, Cond.code objectInit ⟨#[0xb1]⟩ 1 none, Cond.fieldLink RX5 7 "OhmNets$Share" "upper" "I", Cond.fieldLink RX5 13 "OhmNets$Share" "lower" "I", Cond.fieldLink RX5 16 "OhmNets$Share" "how" "I"]
def wsX9_shareAt_r5 : List Cond := [Cond.fieldLink RX5 19 "OhmNets$Share" "firstParts" "I", Cond.fieldLink RX5 22 "OhmNets$Share" "firstRank" "I", Cond.fieldLink RX5 25 "OhmNets$Share" "secondRank" "I", Cond.methodLink RX6 51 yJx4a65c_add_7a177, Cond.instanceMethod yJx4a65c_add_7a177, Cond.selects RJx4a65c yJx4a65c_add_7a177 yJx4a65c_add_7a177, Cond.code yJx4a65c_add_7a177 cJx4a65c_add_7a177 5 none, Cond.fieldLink RJx4a65c 63 "java/util/ArrayList" "modCount" "I", Cond.sameField "java/util/ArrayList" "java/util/AbstractList" "modCount" "I", Cond.methodLink RJx4a65c 112 arraycopyName, Cond.native arraycopyName, Cond.static arraycopyName, Cond.initialized "java/lang/System", Cond.methodLink RJx4a65c 135 yJx4a65c_rangeCheckForAdd_d00df, Cond.instanceMethod yJx4a65c_rangeCheckForAdd_d00df, Cond.selects RJx4a65c yJx4a65c_rangeCheckForAdd_d00df yJx4a65c_rangeCheckForAdd_d00df, Cond.code yJx4a65c_rangeCheckForAdd_d00df cJx4a65c_rangeCheckForAdd_d00df 2 none, Cond.methodLink RJx4a65c 129 yJx4a65c_grow_d5877, Cond.instanceMethod yJx4a65c_grow_d5877, Cond.selects RJx4a65c yJx4a65c_grow_d5877 yJx4a65c_grow_d5877, Cond.code yJx4a65c_grow_d5877 cJx4a65c_grow_d5877 1 (some (.array (.object "java/lang/Object"))), Cond.methodLink RJx4a65c 69 yJx4a65c_grow_92f84, Cond.instanceMethod yJx4a65c_grow_92f84, Cond.selects RJx4a65c yJx4a65c_grow_92f84 yJx4a65c_grow_92f84]
def wsX9_shareAt_r6 : List Cond := [Cond.code yJx4a65c_grow_92f84 cJx4a65c_grow_92f84 4 (some (.array (.object "java/lang/Object"))), Cond.fieldLink RJx4a65c 39 "java/util/ArrayList" "DEFAULTCAPACITY_EMPTY_ELEMENTDATA" "[Ljava/lang/Object;", Cond.methodLink RJx4a65c 79 Lib.Math.max.name, Cond.static Lib.Math.max.name, Cond.code Lib.Math.max.name Lib.Math.max.code 2 (some .int), Cond.classLink RJx4a65c 7 "java/lang/Object", Cond.methodLink RJx4a65c 73 yJ8_newLength_cabcc, Cond.static yJ8_newLength_cabcc, Cond.initialized RJ8, Cond.code yJ8_newLength_cabcc cJ8_newLength_cabcc 4 (some .int), Cond.methodLink RJ8 194 Lib.Math.max.name, Cond.constant RJ8 200 (2147483639), Cond.methodLink RJ8 201 yJ8_hugeLength_7cf53, Cond.static yJ8_hugeLength_7cf53, Cond.code yJ8_hugeLength_7cf53 cJ8_hugeLength_7cf53 3 (some .int), Cond.methodLink RJx4a65c 66 yJ7_copyOf_1904c, Cond.static yJ7_copyOf_1904c, Cond.initialized RJ7, Cond.code yJ7_copyOf_1904c cJ7_copyOf_1904c 2 (some (.array (.object "java/lang/Object"))), Cond.methodLink RJ7 86 ⟨"java/lang/Object", "getClass", "()Ljava/lang/Class;"⟩, Cond.selects "[Ljava/lang/Object;" ⟨"java/lang/Object", "getClass", "()Ljava/lang/Class;"⟩ ⟨"java/lang/Object", "getClass", "()Ljava/lang/Class;"⟩, Cond.instanceMethod ⟨"java/lang/Object", "getClass", "()Ljava/lang/Class;"⟩, Cond.native ⟨"java/lang/Object", "getClass", "()Ljava/lang/Class;"⟩, Cond.methodLink RJ7 300 yJ7_copyOf_6403c]
def wsX9_shareAt_r7 : List Cond := [Cond.static yJ7_copyOf_6403c, Cond.code yJ7_copyOf_6403c cJ7_copyOf_6403c 4 (some (.array (.object "java/lang/Object"))), Cond.classLink RJ7 110 "[Ljava/lang/Object;", Cond.classLink RJ7 2 "java/lang/Object", Cond.methodLink RJ7 304 Lib.Math.min.name, Cond.static Lib.Math.min.name, Cond.code Lib.Math.min.name Lib.Math.min.code 2 (some .int), Cond.methodLink RJ7 150 arraycopyName, Cond.methodLink RX1 41 yX1_offerPairs, Cond.instanceMethod yX1_offerPairs, Cond.selects RX1 yX1_offerPairs yX1_offerPairs, Cond.code yX1_offerPairs cX1_offerPairs 11 none, Cond.methodLink RX1 45 yX6_size, Cond.instanceMethod yX6_size, Cond.selects RX6 yX6_size yX6_size, Cond.code yX6_size cX6_size 1 (some .int), Cond.methodLink RX1 49 yX6_at, Cond.instanceMethod yX6_at, Cond.selects RX6 yX6_at yX6_at, Cond.code yX6_at cX6_at 2 (some (.object "OhmNets$Share")), Cond.methodLink RX1 53 yX1_join, Cond.instanceMethod yX1_join, Cond.selects RX1 yX1_join yX1_join, Cond.code yX1_join cX1_join 5 (some .boolean)]
def wsX9_shareAt_r8 : List Cond := [Cond.fieldLink RX1 57 "OhmNets$Share" "upper" "I", Cond.fieldLink RX1 62 "OhmNets$Share" "lower" "I", Cond.methodLink RX9 88 yX6_at]
def wsX9_shareAt : List Cond := .code yX9_shareAt cX9_shareAt 3 (some (.object "OhmNets$Share")) :: ((wsX9_shareAt_r1 ++ (wsX9_shareAt_r2 ++ (wsX9_shareAt_r3 ++ (wsX9_shareAt_r4 ++ (wsX9_shareAt_r5 ++ (wsX9_shareAt_r6 ++ (wsX9_shareAt_r7 ++ wsX9_shareAt_r8))))))) ++ wsX90 ++ wsX10 ++ wsX00 ++ wsX60 ++ wsX50 ++ wsJx4a65c0)
def wsX9_share_r1 : List Cond := [Cond.fieldLink RX9 59 "OhmNets$Share" "upper" "I", Cond.fieldLink RX9 65 "OhmNets$Share" "lower" "I", Cond.methodLink RX9 55 yX9_shareAt, Cond.instanceMethod yX9_shareAt, Cond.selects RX9 yX9_shareAt yX9_shareAt, Cond.initialized RX9, Cond.code yX9_shareAt cX9_shareAt 3 (some (.object "OhmNets$Share")), Cond.fieldLink RX9 10 "OhmNets" "likeParts" "LOhmNets$LikeParts;", Cond.methodLink RX9 41 yX9_isWithin, Cond.static yX9_isWithin, Cond.code yX9_isWithin cX9_isWithin 3 (some .boolean), Cond.methodLink RX9 45 yX1_sharesOf, Cond.instanceMethod yX1_sharesOf, Cond.selects RX1 yX1_sharesOf yX1_sharesOf, Cond.initialized RX1, Cond.code yX1_sharesOf cX1_sharesOf 3 (some (.object "OhmNets$Shares")), Cond.fieldLink RX1 24 "OhmNets$LikeParts" "known" "I", Cond.fieldLink RX1 11 "OhmNets$LikeParts" "byParts" "[LOhmNets$Shares;", Cond.methodLink RX1 29 yX1_fill, Cond.instanceMethod yX1_fill, Cond.selects RX1 yX1_fill yX1_fill, Cond.code yX1_fill cX1_fill 4 none, Cond.fieldLink RX1 20 "OhmNets$LikeParts" "value" "LOhmNets$Fraction;", Cond.methodLink RX1 33 yX0_set]
def wsX9_share_r2 : List Cond := [Cond.instanceMethod yX0_set, Cond.selects RX0 yX0_set yX0_set, Cond.initialized RX0, Cond.code yX0_set cX0_set 5 none, Cond.fieldLink RX0 7 "OhmNets$Fraction" "upper" "J", Cond.fieldLink RX0 13 "OhmNets$Fraction" "lower" "J", Cond.methodLink RX1 37 yX6_offer, Cond.instanceMethod yX6_offer, Cond.selects RX6 yX6_offer yX6_offer, Cond.initialized RX6, Cond.code yX6_offer cX6_offer 9 none, Cond.fieldLink RX6 36 "OhmNets$Fraction" "upper" "J", Cond.fieldLink RX6 42 "OhmNets$Fraction" "lower" "J", Cond.fieldLink RX6 12 "OhmNets$Shares" "inOrder" "Ljava/util/ArrayList;", Cond.classLink RX6 26 RX5, Cond.instantiable RX5 6, Cond.initialized RX5, Cond.methodLink RX6 28 yX6_placeOf, Cond.instanceMethod yX6_placeOf, Cond.selects RX6 yX6_placeOf yX6_placeOf, Cond.code yX6_placeOf cX6_placeOf 7 (some .int), Cond.classLink RX6 26 "OhmNets$Share", Cond.methodLink RX6 18 yJx4a65c_size_8abf5, Cond.instanceMethod yJx4a65c_size_8abf5]
def wsX9_share_r3 : List Cond := [Cond.selects RJx4a65c yJx4a65c_size_8abf5 yJx4a65c_size_8abf5, Cond.initialized RJx4a65c, Cond.code yJx4a65c_size_8abf5 cJx4a65c_size_8abf5 1 (some .int), Cond.fieldLink RJx4a65c 48 "java/util/ArrayList" "size" "I", Cond.methodLink RX6 22 yJx4a65c_get_915e3, Cond.instanceMethod yJx4a65c_get_915e3, Cond.selects RJx4a65c yJx4a65c_get_915e3 yJx4a65c_get_915e3, Cond.code yJx4a65c_get_915e3 cJx4a65c_get_915e3 2 (some (.object "java/lang/Object")), Cond.methodLink RJx4a65c 118 yJ15_checkIndex_7cf53, Cond.static yJ15_checkIndex_7cf53, Cond.initialized RJ15, Cond.code yJ15_checkIndex_7cf53 cJ15_checkIndex_7cf53 2 (some .int), Cond.methodLink RJ15 105 yJ3_checkIndex_8e157, Cond.static yJ3_checkIndex_8e157, Cond.initialized RJ3, Cond.code yJ3_checkIndex_8e157 cJ3_checkIndex_8e157 3 (some .int), Cond.methodLink RJx4a65c 123 yJx4a65c_elementData_915e3, Cond.instanceMethod yJx4a65c_elementData_915e3, Cond.selects RJx4a65c yJx4a65c_elementData_915e3 yJx4a65c_elementData_915e3, Cond.code yJx4a65c_elementData_915e3 cJx4a65c_elementData_915e3 2 (some (.object "java/lang/Object")), Cond.fieldLink RJx4a65c 9 "java/util/ArrayList" "elementData" "[Ljava/lang/Object;", Cond.methodLink RX6 55 yX6_compare, Cond.static yX6_compare, Cond.code yX6_compare cX6_compare 3 (some .int)]
def wsX9_share_r4 : List Cond := [Cond.fieldLink RX6 59 "OhmNets$Share" "upper" "I", Cond.fieldLink RX6 62 "OhmNets$Share" "lower" "I", Cond.methodLink RX6 64 yJ13_compare_74951, Cond.static yJ13_compare_74951, Cond.initialized RJ13, Cond.code yJ13_compare_74951 cJ13_compare_74951 4 (some .int), Cond.methodLink RX6 32 yX6_isAt, Cond.instanceMethod yX6_isAt, Cond.selects RX6 yX6_isAt yX6_isAt, Cond.code yX6_isAt cX6_isAt 4 (some .boolean), Cond.methodLink RX6 45 yX0_reduce, Cond.instanceMethod yX0_reduce, Cond.selects RX0 yX0_reduce yX0_reduce, Cond.code yX0_reduce cX0_reduce 3 none, Cond.methodLink RX0 16 Lib.MathLoose.abs_long.x, Cond.static Lib.MathLoose.abs_long.x, Cond.initialized "java/lang/Math", Cond.code Lib.MathLoose.abs_long.x Lib.MathLoose.abs_long.code 2 (some .long), Cond.methodLink RX0 22 yX0_commonDivisor, Cond.static yX0_commonDivisor, Cond.code yX0_commonDivisor cX0_commonDivisor 11 (some .long), Cond.methodLink RX6 48 yX5_init, Cond.instanceMethod yX5_init, Cond.code yX5_init cX5_init 7 none]
def wsX9_share_r5 : List Cond := [Cond.methodLink RX5 1 objectInit, Cond.instanceMethod objectInit, Cond.code objectInit ⟨#[0xb1]⟩ 1 none, Cond.fieldLink RX5 7 "OhmNets$Share" "upper" "I", Cond.fieldLink RX5 13 "OhmNets$Share" "lower" "I", Cond.fieldLink RX5 16 "OhmNets$Share" "how" "I", Cond.fieldLink RX5 19 "OhmNets$Share" "firstParts" "I", Cond.fieldLink RX5 22 "OhmNets$Share" "firstRank" "I", Cond.fieldLink RX5 25 "OhmNets$Share" "secondRank" "I", Cond.methodLink RX6 51 yJx4a65c_add_7a177, Cond.instanceMethod yJx4a65c_add_7a177, Cond.selects RJx4a65c yJx4a65c_add_7a177 yJx4a65c_add_7a177, Cond.code yJx4a65c_add_7a177 cJx4a65c_add_7a177 5 none, Cond.fieldLink RJx4a65c 63 "java/util/ArrayList" "modCount" "I", Cond.sameField "java/util/ArrayList" "java/util/AbstractList" "modCount" "I", Cond.methodLink RJx4a65c 112 arraycopyName, Cond.native arraycopyName, Cond.static arraycopyName, Cond.initialized "java/lang/System", Cond.methodLink RJx4a65c 135 yJx4a65c_rangeCheckForAdd_d00df, Cond.instanceMethod yJx4a65c_rangeCheckForAdd_d00df, Cond.selects RJx4a65c yJx4a65c_rangeCheckForAdd_d00df yJx4a65c_rangeCheckForAdd_d00df, Cond.code yJx4a65c_rangeCheckForAdd_d00df cJx4a65c_rangeCheckForAdd_d00df 2 none, Cond.methodLink RJx4a65c 129 yJx4a65c_grow_d5877]
def wsX9_share_r6 : List Cond := [Cond.instanceMethod yJx4a65c_grow_d5877, Cond.selects RJx4a65c yJx4a65c_grow_d5877 yJx4a65c_grow_d5877, Cond.code yJx4a65c_grow_d5877 cJx4a65c_grow_d5877 1 (some (.array (.object "java/lang/Object"))), Cond.methodLink RJx4a65c 69 yJx4a65c_grow_92f84, Cond.instanceMethod yJx4a65c_grow_92f84, Cond.selects RJx4a65c yJx4a65c_grow_92f84 yJx4a65c_grow_92f84, Cond.code yJx4a65c_grow_92f84 cJx4a65c_grow_92f84 4 (some (.array (.object "java/lang/Object"))), Cond.fieldLink RJx4a65c 39 "java/util/ArrayList" "DEFAULTCAPACITY_EMPTY_ELEMENTDATA" "[Ljava/lang/Object;", Cond.methodLink RJx4a65c 79 Lib.Math.max.name, Cond.static Lib.Math.max.name, Cond.code Lib.Math.max.name Lib.Math.max.code 2 (some .int), Cond.classLink RJx4a65c 7 "java/lang/Object", Cond.methodLink RJx4a65c 73 yJ8_newLength_cabcc, Cond.static yJ8_newLength_cabcc, Cond.initialized RJ8, Cond.code yJ8_newLength_cabcc cJ8_newLength_cabcc 4 (some .int), Cond.methodLink RJ8 194 Lib.Math.max.name, Cond.constant RJ8 200 (2147483639), Cond.methodLink RJ8 201 yJ8_hugeLength_7cf53, Cond.static yJ8_hugeLength_7cf53, Cond.code yJ8_hugeLength_7cf53 cJ8_hugeLength_7cf53 3 (some .int), Cond.methodLink RJx4a65c 66 yJ7_copyOf_1904c, Cond.static yJ7_copyOf_1904c, Cond.initialized RJ7]
def wsX9_share_r7 : List Cond := [Cond.code yJ7_copyOf_1904c cJ7_copyOf_1904c 2 (some (.array (.object "java/lang/Object"))), Cond.methodLink RJ7 86 ⟨"java/lang/Object", "getClass", "()Ljava/lang/Class;"⟩, Cond.selects "[Ljava/lang/Object;" ⟨"java/lang/Object", "getClass", "()Ljava/lang/Class;"⟩ ⟨"java/lang/Object", "getClass", "()Ljava/lang/Class;"⟩, Cond.instanceMethod ⟨"java/lang/Object", "getClass", "()Ljava/lang/Class;"⟩, Cond.native ⟨"java/lang/Object", "getClass", "()Ljava/lang/Class;"⟩, Cond.methodLink RJ7 300 yJ7_copyOf_6403c, Cond.static yJ7_copyOf_6403c, Cond.code yJ7_copyOf_6403c cJ7_copyOf_6403c 4 (some (.array (.object "java/lang/Object"))), Cond.classLink RJ7 110 "[Ljava/lang/Object;", Cond.classLink RJ7 2 "java/lang/Object", Cond.methodLink RJ7 304 Lib.Math.min.name, Cond.static Lib.Math.min.name, Cond.code Lib.Math.min.name Lib.Math.min.code 2 (some .int), Cond.methodLink RJ7 150 arraycopyName, Cond.methodLink RX1 41 yX1_offerPairs, Cond.instanceMethod yX1_offerPairs, Cond.selects RX1 yX1_offerPairs yX1_offerPairs, Cond.code yX1_offerPairs cX1_offerPairs 11 none, Cond.methodLink RX1 45 yX6_size, Cond.instanceMethod yX6_size, Cond.selects RX6 yX6_size yX6_size, Cond.code yX6_size cX6_size 1 (some .int), Cond.methodLink RX1 49 yX6_at, Cond.instanceMethod yX6_at]
def wsX9_share_r8 : List Cond := [Cond.selects RX6 yX6_at yX6_at, Cond.code yX6_at cX6_at 2 (some (.object "OhmNets$Share")), Cond.methodLink RX1 53 yX1_join, Cond.instanceMethod yX1_join, Cond.selects RX1 yX1_join yX1_join, Cond.code yX1_join cX1_join 5 (some .boolean), Cond.fieldLink RX1 57 "OhmNets$Share" "upper" "I", Cond.fieldLink RX1 62 "OhmNets$Share" "lower" "I", Cond.methodLink RX9 88 yX6_at]
def wsX9_share : List Cond := .code yX9_share cX9_share 5 (some .int) :: ((wsX9_share_r1 ++ (wsX9_share_r2 ++ (wsX9_share_r3 ++ (wsX9_share_r4 ++ (wsX9_share_r5 ++ (wsX9_share_r6 ++ (wsX9_share_r7 ++ wsX9_share_r8))))))) ++ wsX50 ++ wsX90 ++ wsX10 ++ wsX00 ++ wsX60 ++ wsJx4a65c0)
def wsX9_isTold : List Cond := .code yX9_isTold cX9_isTold 3 (some .boolean) :: ([.methodLink RX9 41 yX9_isWithin, .static yX9_isWithin, .initialized RX9, .code yX9_isWithin cX9_isWithin 3 (some .boolean)])
def wsX9_rank_r1 : List Cond := [Cond.constant RX9 68 (1000000), Cond.fieldLink RX9 10 "OhmNets" "likeParts" "LOhmNets$LikeParts;", Cond.methodLink RX9 41 yX9_isWithin, Cond.static yX9_isWithin, Cond.initialized RX9, Cond.code yX9_isWithin cX9_isWithin 3 (some .boolean), Cond.methodLink RX9 69 yX9_isTold, Cond.static yX9_isTold, Cond.code yX9_isTold cX9_isTold 3 (some .boolean), Cond.methodLink RX9 45 yX1_sharesOf, Cond.instanceMethod yX1_sharesOf, Cond.selects RX1 yX1_sharesOf yX1_sharesOf, Cond.initialized RX1, Cond.code yX1_sharesOf cX1_sharesOf 3 (some (.object "OhmNets$Shares")), Cond.fieldLink RX1 24 "OhmNets$LikeParts" "known" "I", Cond.fieldLink RX1 11 "OhmNets$LikeParts" "byParts" "[LOhmNets$Shares;", Cond.methodLink RX1 29 yX1_fill, Cond.instanceMethod yX1_fill, Cond.selects RX1 yX1_fill yX1_fill, Cond.code yX1_fill cX1_fill 4 none, Cond.fieldLink RX1 20 "OhmNets$LikeParts" "value" "LOhmNets$Fraction;", Cond.methodLink RX1 33 yX0_set, Cond.instanceMethod yX0_set, Cond.selects RX0 yX0_set yX0_set]
def wsX9_rank_r2 : List Cond := [Cond.initialized RX0, Cond.code yX0_set cX0_set 5 none, Cond.fieldLink RX0 7 "OhmNets$Fraction" "upper" "J", Cond.fieldLink RX0 13 "OhmNets$Fraction" "lower" "J", Cond.methodLink RX1 37 yX6_offer, Cond.instanceMethod yX6_offer, Cond.selects RX6 yX6_offer yX6_offer, Cond.initialized RX6, Cond.code yX6_offer cX6_offer 9 none, Cond.fieldLink RX6 36 "OhmNets$Fraction" "upper" "J", Cond.fieldLink RX6 42 "OhmNets$Fraction" "lower" "J", Cond.fieldLink RX6 12 "OhmNets$Shares" "inOrder" "Ljava/util/ArrayList;", Cond.classLink RX6 26 RX5, Cond.instantiable RX5 6, Cond.initialized RX5, Cond.methodLink RX6 28 yX6_placeOf, Cond.instanceMethod yX6_placeOf, Cond.selects RX6 yX6_placeOf yX6_placeOf, Cond.code yX6_placeOf cX6_placeOf 7 (some .int), Cond.classLink RX6 26 "OhmNets$Share", Cond.methodLink RX6 18 yJx4a65c_size_8abf5, Cond.instanceMethod yJx4a65c_size_8abf5, Cond.selects RJx4a65c yJx4a65c_size_8abf5 yJx4a65c_size_8abf5, Cond.initialized RJx4a65c]
def wsX9_rank_r3 : List Cond := [Cond.code yJx4a65c_size_8abf5 cJx4a65c_size_8abf5 1 (some .int), Cond.fieldLink RJx4a65c 48 "java/util/ArrayList" "size" "I", Cond.methodLink RX6 22 yJx4a65c_get_915e3, Cond.instanceMethod yJx4a65c_get_915e3, Cond.selects RJx4a65c yJx4a65c_get_915e3 yJx4a65c_get_915e3, Cond.code yJx4a65c_get_915e3 cJx4a65c_get_915e3 2 (some (.object "java/lang/Object")), Cond.methodLink RJx4a65c 118 yJ15_checkIndex_7cf53, Cond.static yJ15_checkIndex_7cf53, Cond.initialized RJ15, Cond.code yJ15_checkIndex_7cf53 cJ15_checkIndex_7cf53 2 (some .int), Cond.methodLink RJ15 105 yJ3_checkIndex_8e157, Cond.static yJ3_checkIndex_8e157, Cond.initialized RJ3, Cond.code yJ3_checkIndex_8e157 cJ3_checkIndex_8e157 3 (some .int), Cond.methodLink RJx4a65c 123 yJx4a65c_elementData_915e3, Cond.instanceMethod yJx4a65c_elementData_915e3, Cond.selects RJx4a65c yJx4a65c_elementData_915e3 yJx4a65c_elementData_915e3, Cond.code yJx4a65c_elementData_915e3 cJx4a65c_elementData_915e3 2 (some (.object "java/lang/Object")), Cond.fieldLink RJx4a65c 9 "java/util/ArrayList" "elementData" "[Ljava/lang/Object;", Cond.methodLink RX6 55 yX6_compare, Cond.static yX6_compare, Cond.code yX6_compare cX6_compare 3 (some .int), Cond.fieldLink RX6 59 "OhmNets$Share" "upper" "I", Cond.fieldLink RX6 62 "OhmNets$Share" "lower" "I"]
def wsX9_rank_r4 : List Cond := [Cond.methodLink RX6 64 yJ13_compare_74951, Cond.static yJ13_compare_74951, Cond.initialized RJ13, Cond.code yJ13_compare_74951 cJ13_compare_74951 4 (some .int), Cond.methodLink RX6 32 yX6_isAt, Cond.instanceMethod yX6_isAt, Cond.selects RX6 yX6_isAt yX6_isAt, Cond.code yX6_isAt cX6_isAt 4 (some .boolean), Cond.methodLink RX6 45 yX0_reduce, Cond.instanceMethod yX0_reduce, Cond.selects RX0 yX0_reduce yX0_reduce, Cond.code yX0_reduce cX0_reduce 3 none, Cond.methodLink RX0 16 Lib.MathLoose.abs_long.x, Cond.static Lib.MathLoose.abs_long.x, Cond.initialized "java/lang/Math", Cond.code Lib.MathLoose.abs_long.x Lib.MathLoose.abs_long.code 2 (some .long), Cond.methodLink RX0 22 yX0_commonDivisor, Cond.static yX0_commonDivisor, Cond.code yX0_commonDivisor cX0_commonDivisor 11 (some .long), Cond.methodLink RX6 48 yX5_init, Cond.instanceMethod yX5_init, Cond.code yX5_init cX5_init 7 none, Cond.methodLink RX5 1 objectInit, Cond.instanceMethod objectInit]
def wsX9_rank_r5 : List Cond := [Cond.code objectInit ⟨#[0xb1]⟩ 1 none, Cond.fieldLink RX5 7 "OhmNets$Share" "upper" "I", Cond.fieldLink RX5 13 "OhmNets$Share" "lower" "I", Cond.fieldLink RX5 16 "OhmNets$Share" "how" "I", Cond.fieldLink RX5 19 "OhmNets$Share" "firstParts" "I", Cond.fieldLink RX5 22 "OhmNets$Share" "firstRank" "I", Cond.fieldLink RX5 25 "OhmNets$Share" "secondRank" "I", Cond.methodLink RX6 51 yJx4a65c_add_7a177, Cond.instanceMethod yJx4a65c_add_7a177, Cond.selects RJx4a65c yJx4a65c_add_7a177 yJx4a65c_add_7a177, Cond.code yJx4a65c_add_7a177 cJx4a65c_add_7a177 5 none, Cond.fieldLink RJx4a65c 63 "java/util/ArrayList" "modCount" "I", Cond.sameField "java/util/ArrayList" "java/util/AbstractList" "modCount" "I", Cond.methodLink RJx4a65c 112 arraycopyName, Cond.native arraycopyName, Cond.static arraycopyName, Cond.initialized "java/lang/System", Cond.methodLink RJx4a65c 135 yJx4a65c_rangeCheckForAdd_d00df, Cond.instanceMethod yJx4a65c_rangeCheckForAdd_d00df, Cond.selects RJx4a65c yJx4a65c_rangeCheckForAdd_d00df yJx4a65c_rangeCheckForAdd_d00df, Cond.code yJx4a65c_rangeCheckForAdd_d00df cJx4a65c_rangeCheckForAdd_d00df 2 none, Cond.methodLink RJx4a65c 129 yJx4a65c_grow_d5877, Cond.instanceMethod yJx4a65c_grow_d5877, Cond.selects RJx4a65c yJx4a65c_grow_d5877 yJx4a65c_grow_d5877]
def wsX9_rank_r6 : List Cond := [Cond.code yJx4a65c_grow_d5877 cJx4a65c_grow_d5877 1 (some (.array (.object "java/lang/Object"))), Cond.methodLink RJx4a65c 69 yJx4a65c_grow_92f84, Cond.instanceMethod yJx4a65c_grow_92f84, Cond.selects RJx4a65c yJx4a65c_grow_92f84 yJx4a65c_grow_92f84, Cond.code yJx4a65c_grow_92f84 cJx4a65c_grow_92f84 4 (some (.array (.object "java/lang/Object"))), Cond.fieldLink RJx4a65c 39 "java/util/ArrayList" "DEFAULTCAPACITY_EMPTY_ELEMENTDATA" "[Ljava/lang/Object;", Cond.methodLink RJx4a65c 79 Lib.Math.max.name, Cond.static Lib.Math.max.name, Cond.code Lib.Math.max.name Lib.Math.max.code 2 (some .int), Cond.classLink RJx4a65c 7 "java/lang/Object", Cond.methodLink RJx4a65c 73 yJ8_newLength_cabcc, Cond.static yJ8_newLength_cabcc, Cond.initialized RJ8, Cond.code yJ8_newLength_cabcc cJ8_newLength_cabcc 4 (some .int), Cond.methodLink RJ8 194 Lib.Math.max.name, Cond.constant RJ8 200 (2147483639), Cond.methodLink RJ8 201 yJ8_hugeLength_7cf53, Cond.static yJ8_hugeLength_7cf53, Cond.code yJ8_hugeLength_7cf53 cJ8_hugeLength_7cf53 3 (some .int), Cond.methodLink RJx4a65c 66 yJ7_copyOf_1904c, Cond.static yJ7_copyOf_1904c, Cond.initialized RJ7, Cond.code yJ7_copyOf_1904c cJ7_copyOf_1904c 2 (some (.array (.object "java/lang/Object"))), Cond.methodLink RJ7 86 ⟨"java/lang/Object", "getClass", "()Ljava/lang/Class;"⟩]
def wsX9_rank_r7 : List Cond := [Cond.selects "[Ljava/lang/Object;" ⟨"java/lang/Object", "getClass", "()Ljava/lang/Class;"⟩ ⟨"java/lang/Object", "getClass", "()Ljava/lang/Class;"⟩, Cond.instanceMethod ⟨"java/lang/Object", "getClass", "()Ljava/lang/Class;"⟩, Cond.native ⟨"java/lang/Object", "getClass", "()Ljava/lang/Class;"⟩, Cond.methodLink RJ7 300 yJ7_copyOf_6403c, Cond.static yJ7_copyOf_6403c, Cond.code yJ7_copyOf_6403c cJ7_copyOf_6403c 4 (some (.array (.object "java/lang/Object"))), Cond.classLink RJ7 110 "[Ljava/lang/Object;", Cond.classLink RJ7 2 "java/lang/Object", Cond.methodLink RJ7 304 Lib.Math.min.name, Cond.static Lib.Math.min.name, Cond.code Lib.Math.min.name Lib.Math.min.code 2 (some .int), Cond.methodLink RJ7 150 arraycopyName, Cond.methodLink RX1 41 yX1_offerPairs, Cond.instanceMethod yX1_offerPairs, Cond.selects RX1 yX1_offerPairs yX1_offerPairs, Cond.code yX1_offerPairs cX1_offerPairs 11 none, Cond.methodLink RX1 45 yX6_size, Cond.instanceMethod yX6_size, Cond.selects RX6 yX6_size yX6_size, Cond.code yX6_size cX6_size 1 (some .int), Cond.methodLink RX1 49 yX6_at, Cond.instanceMethod yX6_at, Cond.selects RX6 yX6_at yX6_at, Cond.code yX6_at cX6_at 2 (some (.object "OhmNets$Share"))]
def wsX9_rank_r8 : List Cond := [Cond.methodLink RX1 53 yX1_join, Cond.instanceMethod yX1_join, Cond.selects RX1 yX1_join yX1_join, Cond.code yX1_join cX1_join 5 (some .boolean), Cond.fieldLink RX1 57 "OhmNets$Share" "upper" "I", Cond.fieldLink RX1 62 "OhmNets$Share" "lower" "I", Cond.methodLink RX9 72 yX6_find, Cond.instanceMethod yX6_find, Cond.selects RX6 yX6_find yX6_find, Cond.code yX6_find cX6_find 4 (some .int)]
def wsX9_rank : List Cond := .code yX9_rank cX9_rank 4 (some .int) :: ((wsX9_rank_r1 ++ (wsX9_rank_r2 ++ (wsX9_rank_r3 ++ (wsX9_rank_r4 ++ (wsX9_rank_r5 ++ (wsX9_rank_r6 ++ (wsX9_rank_r7 ++ wsX9_rank_r8))))))) ++ wsX90 ++ wsX10 ++ wsX00 ++ wsX60 ++ wsX50 ++ wsJx4a65c0)
def wsX9_fewest_r1 : List Cond := [Cond.constant RX9 68 (1000000), Cond.fieldLink RX9 10 "OhmNets" "likeParts" "LOhmNets$LikeParts;", Cond.methodLink RX9 69 yX9_isTold, Cond.static yX9_isTold, Cond.initialized RX9, Cond.code yX9_isTold cX9_isTold 3 (some .boolean), Cond.methodLink RX9 41 yX9_isWithin, Cond.static yX9_isWithin, Cond.code yX9_isWithin cX9_isWithin 3 (some .boolean), Cond.methodLink RX9 45 yX1_sharesOf, Cond.instanceMethod yX1_sharesOf, Cond.selects RX1 yX1_sharesOf yX1_sharesOf, Cond.initialized RX1, Cond.code yX1_sharesOf cX1_sharesOf 3 (some (.object "OhmNets$Shares")), Cond.fieldLink RX1 24 "OhmNets$LikeParts" "known" "I", Cond.fieldLink RX1 11 "OhmNets$LikeParts" "byParts" "[LOhmNets$Shares;", Cond.methodLink RX1 29 yX1_fill, Cond.instanceMethod yX1_fill, Cond.selects RX1 yX1_fill yX1_fill, Cond.code yX1_fill cX1_fill 4 none, Cond.fieldLink RX1 20 "OhmNets$LikeParts" "value" "LOhmNets$Fraction;", Cond.methodLink RX1 33 yX0_set, Cond.instanceMethod yX0_set, Cond.selects RX0 yX0_set yX0_set]
def wsX9_fewest_r2 : List Cond := [Cond.initialized RX0, Cond.code yX0_set cX0_set 5 none, Cond.fieldLink RX0 7 "OhmNets$Fraction" "upper" "J", Cond.fieldLink RX0 13 "OhmNets$Fraction" "lower" "J", Cond.methodLink RX1 37 yX6_offer, Cond.instanceMethod yX6_offer, Cond.selects RX6 yX6_offer yX6_offer, Cond.initialized RX6, Cond.code yX6_offer cX6_offer 9 none, Cond.fieldLink RX6 36 "OhmNets$Fraction" "upper" "J", Cond.fieldLink RX6 42 "OhmNets$Fraction" "lower" "J", Cond.fieldLink RX6 12 "OhmNets$Shares" "inOrder" "Ljava/util/ArrayList;", Cond.classLink RX6 26 RX5, Cond.instantiable RX5 6, Cond.initialized RX5, Cond.methodLink RX6 28 yX6_placeOf, Cond.instanceMethod yX6_placeOf, Cond.selects RX6 yX6_placeOf yX6_placeOf, Cond.code yX6_placeOf cX6_placeOf 7 (some .int), Cond.classLink RX6 26 "OhmNets$Share", Cond.methodLink RX6 18 yJx4a65c_size_8abf5, Cond.instanceMethod yJx4a65c_size_8abf5, Cond.selects RJx4a65c yJx4a65c_size_8abf5 yJx4a65c_size_8abf5, Cond.initialized RJx4a65c]
def wsX9_fewest_r3 : List Cond := [Cond.code yJx4a65c_size_8abf5 cJx4a65c_size_8abf5 1 (some .int), Cond.fieldLink RJx4a65c 48 "java/util/ArrayList" "size" "I", Cond.methodLink RX6 22 yJx4a65c_get_915e3, Cond.instanceMethod yJx4a65c_get_915e3, Cond.selects RJx4a65c yJx4a65c_get_915e3 yJx4a65c_get_915e3, Cond.code yJx4a65c_get_915e3 cJx4a65c_get_915e3 2 (some (.object "java/lang/Object")), Cond.methodLink RJx4a65c 118 yJ15_checkIndex_7cf53, Cond.static yJ15_checkIndex_7cf53, Cond.initialized RJ15, Cond.code yJ15_checkIndex_7cf53 cJ15_checkIndex_7cf53 2 (some .int), Cond.methodLink RJ15 105 yJ3_checkIndex_8e157, Cond.static yJ3_checkIndex_8e157, Cond.initialized RJ3, Cond.code yJ3_checkIndex_8e157 cJ3_checkIndex_8e157 3 (some .int), Cond.methodLink RJx4a65c 123 yJx4a65c_elementData_915e3, Cond.instanceMethod yJx4a65c_elementData_915e3, Cond.selects RJx4a65c yJx4a65c_elementData_915e3 yJx4a65c_elementData_915e3, Cond.code yJx4a65c_elementData_915e3 cJx4a65c_elementData_915e3 2 (some (.object "java/lang/Object")), Cond.fieldLink RJx4a65c 9 "java/util/ArrayList" "elementData" "[Ljava/lang/Object;", Cond.methodLink RX6 55 yX6_compare, Cond.static yX6_compare, Cond.code yX6_compare cX6_compare 3 (some .int), Cond.fieldLink RX6 59 "OhmNets$Share" "upper" "I", Cond.fieldLink RX6 62 "OhmNets$Share" "lower" "I"]
def wsX9_fewest_r4 : List Cond := [Cond.methodLink RX6 64 yJ13_compare_74951, Cond.static yJ13_compare_74951, Cond.initialized RJ13, Cond.code yJ13_compare_74951 cJ13_compare_74951 4 (some .int), Cond.methodLink RX6 32 yX6_isAt, Cond.instanceMethod yX6_isAt, Cond.selects RX6 yX6_isAt yX6_isAt, Cond.code yX6_isAt cX6_isAt 4 (some .boolean), Cond.methodLink RX6 45 yX0_reduce, Cond.instanceMethod yX0_reduce, Cond.selects RX0 yX0_reduce yX0_reduce, Cond.code yX0_reduce cX0_reduce 3 none, Cond.methodLink RX0 16 Lib.MathLoose.abs_long.x, Cond.static Lib.MathLoose.abs_long.x, Cond.initialized "java/lang/Math", Cond.code Lib.MathLoose.abs_long.x Lib.MathLoose.abs_long.code 2 (some .long), Cond.methodLink RX0 22 yX0_commonDivisor, Cond.static yX0_commonDivisor, Cond.code yX0_commonDivisor cX0_commonDivisor 11 (some .long), Cond.methodLink RX6 48 yX5_init, Cond.instanceMethod yX5_init, Cond.code yX5_init cX5_init 7 none, Cond.methodLink RX5 1 objectInit, Cond.instanceMethod objectInit]
def wsX9_fewest_r5 : List Cond := [Cond.code objectInit ⟨#[0xb1]⟩ 1 none, Cond.fieldLink RX5 7 "OhmNets$Share" "upper" "I", Cond.fieldLink RX5 13 "OhmNets$Share" "lower" "I", Cond.fieldLink RX5 16 "OhmNets$Share" "how" "I", Cond.fieldLink RX5 19 "OhmNets$Share" "firstParts" "I", Cond.fieldLink RX5 22 "OhmNets$Share" "firstRank" "I", Cond.fieldLink RX5 25 "OhmNets$Share" "secondRank" "I", Cond.methodLink RX6 51 yJx4a65c_add_7a177, Cond.instanceMethod yJx4a65c_add_7a177, Cond.selects RJx4a65c yJx4a65c_add_7a177 yJx4a65c_add_7a177, Cond.code yJx4a65c_add_7a177 cJx4a65c_add_7a177 5 none, Cond.fieldLink RJx4a65c 63 "java/util/ArrayList" "modCount" "I", Cond.sameField "java/util/ArrayList" "java/util/AbstractList" "modCount" "I", Cond.methodLink RJx4a65c 112 arraycopyName, Cond.native arraycopyName, Cond.static arraycopyName, Cond.initialized "java/lang/System", Cond.methodLink RJx4a65c 135 yJx4a65c_rangeCheckForAdd_d00df, Cond.instanceMethod yJx4a65c_rangeCheckForAdd_d00df, Cond.selects RJx4a65c yJx4a65c_rangeCheckForAdd_d00df yJx4a65c_rangeCheckForAdd_d00df, Cond.code yJx4a65c_rangeCheckForAdd_d00df cJx4a65c_rangeCheckForAdd_d00df 2 none, Cond.methodLink RJx4a65c 129 yJx4a65c_grow_d5877, Cond.instanceMethod yJx4a65c_grow_d5877, Cond.selects RJx4a65c yJx4a65c_grow_d5877 yJx4a65c_grow_d5877]
def wsX9_fewest_r6 : List Cond := [Cond.code yJx4a65c_grow_d5877 cJx4a65c_grow_d5877 1 (some (.array (.object "java/lang/Object"))), Cond.methodLink RJx4a65c 69 yJx4a65c_grow_92f84, Cond.instanceMethod yJx4a65c_grow_92f84, Cond.selects RJx4a65c yJx4a65c_grow_92f84 yJx4a65c_grow_92f84, Cond.code yJx4a65c_grow_92f84 cJx4a65c_grow_92f84 4 (some (.array (.object "java/lang/Object"))), Cond.fieldLink RJx4a65c 39 "java/util/ArrayList" "DEFAULTCAPACITY_EMPTY_ELEMENTDATA" "[Ljava/lang/Object;", Cond.methodLink RJx4a65c 79 Lib.Math.max.name, Cond.static Lib.Math.max.name, Cond.code Lib.Math.max.name Lib.Math.max.code 2 (some .int), Cond.classLink RJx4a65c 7 "java/lang/Object", Cond.methodLink RJx4a65c 73 yJ8_newLength_cabcc, Cond.static yJ8_newLength_cabcc, Cond.initialized RJ8, Cond.code yJ8_newLength_cabcc cJ8_newLength_cabcc 4 (some .int), Cond.methodLink RJ8 194 Lib.Math.max.name, Cond.constant RJ8 200 (2147483639), Cond.methodLink RJ8 201 yJ8_hugeLength_7cf53, Cond.static yJ8_hugeLength_7cf53, Cond.code yJ8_hugeLength_7cf53 cJ8_hugeLength_7cf53 3 (some .int), Cond.methodLink RJx4a65c 66 yJ7_copyOf_1904c, Cond.static yJ7_copyOf_1904c, Cond.initialized RJ7, Cond.code yJ7_copyOf_1904c cJ7_copyOf_1904c 2 (some (.array (.object "java/lang/Object"))), Cond.methodLink RJ7 86 ⟨"java/lang/Object", "getClass", "()Ljava/lang/Class;"⟩]
def wsX9_fewest_r7 : List Cond := [Cond.selects "[Ljava/lang/Object;" ⟨"java/lang/Object", "getClass", "()Ljava/lang/Class;"⟩ ⟨"java/lang/Object", "getClass", "()Ljava/lang/Class;"⟩, Cond.instanceMethod ⟨"java/lang/Object", "getClass", "()Ljava/lang/Class;"⟩, Cond.native ⟨"java/lang/Object", "getClass", "()Ljava/lang/Class;"⟩, Cond.methodLink RJ7 300 yJ7_copyOf_6403c, Cond.static yJ7_copyOf_6403c, Cond.code yJ7_copyOf_6403c cJ7_copyOf_6403c 4 (some (.array (.object "java/lang/Object"))), Cond.classLink RJ7 110 "[Ljava/lang/Object;", Cond.classLink RJ7 2 "java/lang/Object", Cond.methodLink RJ7 304 Lib.Math.min.name, Cond.static Lib.Math.min.name, Cond.code Lib.Math.min.name Lib.Math.min.code 2 (some .int), Cond.methodLink RJ7 150 arraycopyName, Cond.methodLink RX1 41 yX1_offerPairs, Cond.instanceMethod yX1_offerPairs, Cond.selects RX1 yX1_offerPairs yX1_offerPairs, Cond.code yX1_offerPairs cX1_offerPairs 11 none, Cond.methodLink RX1 45 yX6_size, Cond.instanceMethod yX6_size, Cond.selects RX6 yX6_size yX6_size, Cond.code yX6_size cX6_size 1 (some .int), Cond.methodLink RX1 49 yX6_at, Cond.instanceMethod yX6_at, Cond.selects RX6 yX6_at yX6_at, Cond.code yX6_at cX6_at 2 (some (.object "OhmNets$Share"))]
def wsX9_fewest_r8 : List Cond := [Cond.methodLink RX1 53 yX1_join, Cond.instanceMethod yX1_join, Cond.selects RX1 yX1_join yX1_join, Cond.code yX1_join cX1_join 5 (some .boolean), Cond.fieldLink RX1 57 "OhmNets$Share" "upper" "I", Cond.fieldLink RX1 62 "OhmNets$Share" "lower" "I", Cond.methodLink RX9 72 yX6_find, Cond.instanceMethod yX6_find, Cond.selects RX6 yX6_find yX6_find, Cond.code yX6_find cX6_find 4 (some .int)]
def wsX9_fewest : List Cond := .code yX9_fewest cX9_fewest 4 (some .int) :: ((wsX9_fewest_r1 ++ (wsX9_fewest_r2 ++ (wsX9_fewest_r3 ++ (wsX9_fewest_r4 ++ (wsX9_fewest_r5 ++ (wsX9_fewest_r6 ++ (wsX9_fewest_r7 ++ wsX9_fewest_r8))))))) ++ wsX90 ++ wsX10 ++ wsX00 ++ wsX60 ++ wsX50 ++ wsJx4a65c0)
def wsX9_made_r1 : List Cond := [Cond.fieldLink RX9 76 "OhmNets$Share" "how" "I", Cond.fieldLink RX9 79 "OhmNets$Share" "firstParts" "I", Cond.fieldLink RX9 82 "OhmNets$Share" "firstRank" "I", Cond.fieldLink RX9 85 "OhmNets$Share" "secondRank" "I", Cond.methodLink RX9 55 yX9_shareAt, Cond.instanceMethod yX9_shareAt, Cond.selects RX9 yX9_shareAt yX9_shareAt, Cond.initialized RX9, Cond.code yX9_shareAt cX9_shareAt 3 (some (.object "OhmNets$Share")), Cond.fieldLink RX9 10 "OhmNets" "likeParts" "LOhmNets$LikeParts;", Cond.methodLink RX9 41 yX9_isWithin, Cond.static yX9_isWithin, Cond.code yX9_isWithin cX9_isWithin 3 (some .boolean), Cond.methodLink RX9 45 yX1_sharesOf, Cond.instanceMethod yX1_sharesOf, Cond.selects RX1 yX1_sharesOf yX1_sharesOf, Cond.initialized RX1, Cond.code yX1_sharesOf cX1_sharesOf 3 (some (.object "OhmNets$Shares")), Cond.fieldLink RX1 24 "OhmNets$LikeParts" "known" "I", Cond.fieldLink RX1 11 "OhmNets$LikeParts" "byParts" "[LOhmNets$Shares;", Cond.methodLink RX1 29 yX1_fill, Cond.instanceMethod yX1_fill, Cond.selects RX1 yX1_fill yX1_fill, Cond.code yX1_fill cX1_fill 4 none]
def wsX9_made_r2 : List Cond := [Cond.fieldLink RX1 20 "OhmNets$LikeParts" "value" "LOhmNets$Fraction;", Cond.methodLink RX1 33 yX0_set, Cond.instanceMethod yX0_set, Cond.selects RX0 yX0_set yX0_set, Cond.initialized RX0, Cond.code yX0_set cX0_set 5 none, Cond.fieldLink RX0 7 "OhmNets$Fraction" "upper" "J", Cond.fieldLink RX0 13 "OhmNets$Fraction" "lower" "J", Cond.methodLink RX1 37 yX6_offer, Cond.instanceMethod yX6_offer, Cond.selects RX6 yX6_offer yX6_offer, Cond.initialized RX6, Cond.code yX6_offer cX6_offer 9 none, Cond.fieldLink RX6 36 "OhmNets$Fraction" "upper" "J", Cond.fieldLink RX6 42 "OhmNets$Fraction" "lower" "J", Cond.fieldLink RX6 12 "OhmNets$Shares" "inOrder" "Ljava/util/ArrayList;", Cond.classLink RX6 26 RX5, Cond.instantiable RX5 6, Cond.initialized RX5, Cond.methodLink RX6 28 yX6_placeOf, Cond.instanceMethod yX6_placeOf, Cond.selects RX6 yX6_placeOf yX6_placeOf, Cond.code yX6_placeOf cX6_placeOf 7 (some .int), Cond.classLink RX6 26 "OhmNets$Share"]
def wsX9_made_r3 : List Cond := [Cond.methodLink RX6 18 yJx4a65c_size_8abf5, Cond.instanceMethod yJx4a65c_size_8abf5, Cond.selects RJx4a65c yJx4a65c_size_8abf5 yJx4a65c_size_8abf5, Cond.initialized RJx4a65c, Cond.code yJx4a65c_size_8abf5 cJx4a65c_size_8abf5 1 (some .int), Cond.fieldLink RJx4a65c 48 "java/util/ArrayList" "size" "I", Cond.methodLink RX6 22 yJx4a65c_get_915e3, Cond.instanceMethod yJx4a65c_get_915e3, Cond.selects RJx4a65c yJx4a65c_get_915e3 yJx4a65c_get_915e3, Cond.code yJx4a65c_get_915e3 cJx4a65c_get_915e3 2 (some (.object "java/lang/Object")), Cond.methodLink RJx4a65c 118 yJ15_checkIndex_7cf53, Cond.static yJ15_checkIndex_7cf53, Cond.initialized RJ15, Cond.code yJ15_checkIndex_7cf53 cJ15_checkIndex_7cf53 2 (some .int), Cond.methodLink RJ15 105 yJ3_checkIndex_8e157, Cond.static yJ3_checkIndex_8e157, Cond.initialized RJ3, Cond.code yJ3_checkIndex_8e157 cJ3_checkIndex_8e157 3 (some .int), Cond.methodLink RJx4a65c 123 yJx4a65c_elementData_915e3, Cond.instanceMethod yJx4a65c_elementData_915e3, Cond.selects RJx4a65c yJx4a65c_elementData_915e3 yJx4a65c_elementData_915e3, Cond.code yJx4a65c_elementData_915e3 cJx4a65c_elementData_915e3 2 (some (.object "java/lang/Object")), Cond.fieldLink RJx4a65c 9 "java/util/ArrayList" "elementData" "[Ljava/lang/Object;", Cond.methodLink RX6 55 yX6_compare]
def wsX9_made_r4 : List Cond := [Cond.static yX6_compare, Cond.code yX6_compare cX6_compare 3 (some .int), Cond.fieldLink RX6 59 "OhmNets$Share" "upper" "I", Cond.fieldLink RX6 62 "OhmNets$Share" "lower" "I", Cond.methodLink RX6 64 yJ13_compare_74951, Cond.static yJ13_compare_74951, Cond.initialized RJ13, Cond.code yJ13_compare_74951 cJ13_compare_74951 4 (some .int), Cond.methodLink RX6 32 yX6_isAt, Cond.instanceMethod yX6_isAt, Cond.selects RX6 yX6_isAt yX6_isAt, Cond.code yX6_isAt cX6_isAt 4 (some .boolean), Cond.methodLink RX6 45 yX0_reduce, Cond.instanceMethod yX0_reduce, Cond.selects RX0 yX0_reduce yX0_reduce, Cond.code yX0_reduce cX0_reduce 3 none, Cond.methodLink RX0 16 Lib.MathLoose.abs_long.x, Cond.static Lib.MathLoose.abs_long.x, Cond.initialized "java/lang/Math", Cond.code Lib.MathLoose.abs_long.x Lib.MathLoose.abs_long.code 2 (some .long), Cond.methodLink RX0 22 yX0_commonDivisor, Cond.static yX0_commonDivisor, Cond.code yX0_commonDivisor cX0_commonDivisor 11 (some .long), Cond.methodLink RX6 48 yX5_init]
def wsX9_made_r5 : List Cond := [Cond.instanceMethod yX5_init, Cond.code yX5_init cX5_init 7 none, Cond.methodLink RX5 1 objectInit, Cond.instanceMethod objectInit, Cond.code objectInit ⟨#[0xb1]⟩ 1 none, Cond.fieldLink RX5 7 "OhmNets$Share" "upper" "I", Cond.fieldLink RX5 13 "OhmNets$Share" "lower" "I", Cond.fieldLink RX5 16 "OhmNets$Share" "how" "I", Cond.fieldLink RX5 19 "OhmNets$Share" "firstParts" "I", Cond.fieldLink RX5 22 "OhmNets$Share" "firstRank" "I", Cond.fieldLink RX5 25 "OhmNets$Share" "secondRank" "I", Cond.methodLink RX6 51 yJx4a65c_add_7a177, Cond.instanceMethod yJx4a65c_add_7a177, Cond.selects RJx4a65c yJx4a65c_add_7a177 yJx4a65c_add_7a177, Cond.code yJx4a65c_add_7a177 cJx4a65c_add_7a177 5 none, Cond.fieldLink RJx4a65c 63 "java/util/ArrayList" "modCount" "I", Cond.sameField "java/util/ArrayList" "java/util/AbstractList" "modCount" "I", Cond.methodLink RJx4a65c 112 arraycopyName, Cond.native arraycopyName, Cond.static arraycopyName, Cond.initialized "java/lang/System", Cond.methodLink RJx4a65c 135 yJx4a65c_rangeCheckForAdd_d00df, Cond.instanceMethod yJx4a65c_rangeCheckForAdd_d00df, Cond.selects RJx4a65c yJx4a65c_rangeCheckForAdd_d00df yJx4a65c_rangeCheckForAdd_d00df]
def wsX9_made_r6 : List Cond := [Cond.code yJx4a65c_rangeCheckForAdd_d00df cJx4a65c_rangeCheckForAdd_d00df 2 none, Cond.methodLink RJx4a65c 129 yJx4a65c_grow_d5877, Cond.instanceMethod yJx4a65c_grow_d5877, Cond.selects RJx4a65c yJx4a65c_grow_d5877 yJx4a65c_grow_d5877, Cond.code yJx4a65c_grow_d5877 cJx4a65c_grow_d5877 1 (some (.array (.object "java/lang/Object"))), Cond.methodLink RJx4a65c 69 yJx4a65c_grow_92f84, Cond.instanceMethod yJx4a65c_grow_92f84, Cond.selects RJx4a65c yJx4a65c_grow_92f84 yJx4a65c_grow_92f84, Cond.code yJx4a65c_grow_92f84 cJx4a65c_grow_92f84 4 (some (.array (.object "java/lang/Object"))), Cond.fieldLink RJx4a65c 39 "java/util/ArrayList" "DEFAULTCAPACITY_EMPTY_ELEMENTDATA" "[Ljava/lang/Object;", Cond.methodLink RJx4a65c 79 Lib.Math.max.name, Cond.static Lib.Math.max.name, Cond.code Lib.Math.max.name Lib.Math.max.code 2 (some .int), Cond.classLink RJx4a65c 7 "java/lang/Object", Cond.methodLink RJx4a65c 73 yJ8_newLength_cabcc, Cond.static yJ8_newLength_cabcc, Cond.initialized RJ8, Cond.code yJ8_newLength_cabcc cJ8_newLength_cabcc 4 (some .int), Cond.methodLink RJ8 194 Lib.Math.max.name, Cond.constant RJ8 200 (2147483639), Cond.methodLink RJ8 201 yJ8_hugeLength_7cf53, Cond.static yJ8_hugeLength_7cf53, Cond.code yJ8_hugeLength_7cf53 cJ8_hugeLength_7cf53 3 (some .int), Cond.methodLink RJx4a65c 66 yJ7_copyOf_1904c]
def wsX9_made_r7 : List Cond := [Cond.static yJ7_copyOf_1904c, Cond.initialized RJ7, Cond.code yJ7_copyOf_1904c cJ7_copyOf_1904c 2 (some (.array (.object "java/lang/Object"))), Cond.methodLink RJ7 86 ⟨"java/lang/Object", "getClass", "()Ljava/lang/Class;"⟩, Cond.selects "[Ljava/lang/Object;" ⟨"java/lang/Object", "getClass", "()Ljava/lang/Class;"⟩ ⟨"java/lang/Object", "getClass", "()Ljava/lang/Class;"⟩, Cond.instanceMethod ⟨"java/lang/Object", "getClass", "()Ljava/lang/Class;"⟩, Cond.native ⟨"java/lang/Object", "getClass", "()Ljava/lang/Class;"⟩, Cond.methodLink RJ7 300 yJ7_copyOf_6403c, Cond.static yJ7_copyOf_6403c, Cond.code yJ7_copyOf_6403c cJ7_copyOf_6403c 4 (some (.array (.object "java/lang/Object"))), Cond.classLink RJ7 110 "[Ljava/lang/Object;", Cond.classLink RJ7 2 "java/lang/Object", Cond.methodLink RJ7 304 Lib.Math.min.name, Cond.static Lib.Math.min.name, Cond.code Lib.Math.min.name Lib.Math.min.code 2 (some .int), Cond.methodLink RJ7 150 arraycopyName, Cond.methodLink RX1 41 yX1_offerPairs, Cond.instanceMethod yX1_offerPairs, Cond.selects RX1 yX1_offerPairs yX1_offerPairs, Cond.code yX1_offerPairs cX1_offerPairs 11 none, Cond.methodLink RX1 45 yX6_size, Cond.instanceMethod yX6_size, Cond.selects RX6 yX6_size yX6_size, Cond.code yX6_size cX6_size 1 (some .int)]
def wsX9_made_r8 : List Cond := [Cond.methodLink RX1 49 yX6_at, Cond.instanceMethod yX6_at, Cond.selects RX6 yX6_at yX6_at, Cond.code yX6_at cX6_at 2 (some (.object "OhmNets$Share")), Cond.methodLink RX1 53 yX1_join, Cond.instanceMethod yX1_join, Cond.selects RX1 yX1_join yX1_join, Cond.code yX1_join cX1_join 5 (some .boolean), Cond.fieldLink RX1 57 "OhmNets$Share" "upper" "I", Cond.fieldLink RX1 62 "OhmNets$Share" "lower" "I", Cond.methodLink RX9 88 yX6_at]
def wsX9_made : List Cond := .code yX9_made cX9_made 5 (some .int) :: ((wsX9_made_r1 ++ (wsX9_made_r2 ++ (wsX9_made_r3 ++ (wsX9_made_r4 ++ (wsX9_made_r5 ++ (wsX9_made_r6 ++ (wsX9_made_r7 ++ wsX9_made_r8))))))) ++ wsX50 ++ wsX90 ++ wsX10 ++ wsX00 ++ wsX60 ++ wsJx4a65c0)
def wsX9_turned_r1 : List Cond := [Cond.fieldLink RX9 10 "OhmNets" "likeParts" "LOhmNets$LikeParts;", Cond.methodLink RX9 55 yX9_shareAt, Cond.instanceMethod yX9_shareAt, Cond.selects RX9 yX9_shareAt yX9_shareAt, Cond.initialized RX9, Cond.code yX9_shareAt cX9_shareAt 3 (some (.object "OhmNets$Share")), Cond.methodLink RX9 41 yX9_isWithin, Cond.static yX9_isWithin, Cond.code yX9_isWithin cX9_isWithin 3 (some .boolean), Cond.methodLink RX9 45 yX1_sharesOf, Cond.instanceMethod yX1_sharesOf, Cond.selects RX1 yX1_sharesOf yX1_sharesOf, Cond.initialized RX1, Cond.code yX1_sharesOf cX1_sharesOf 3 (some (.object "OhmNets$Shares")), Cond.fieldLink RX1 24 "OhmNets$LikeParts" "known" "I", Cond.fieldLink RX1 11 "OhmNets$LikeParts" "byParts" "[LOhmNets$Shares;", Cond.methodLink RX1 29 yX1_fill, Cond.instanceMethod yX1_fill, Cond.selects RX1 yX1_fill yX1_fill, Cond.code yX1_fill cX1_fill 4 none, Cond.fieldLink RX1 20 "OhmNets$LikeParts" "value" "LOhmNets$Fraction;", Cond.methodLink RX1 33 yX0_set, Cond.instanceMethod yX0_set, Cond.selects RX0 yX0_set yX0_set]
def wsX9_turned_r2 : List Cond := [Cond.initialized RX0, Cond.code yX0_set cX0_set 5 none, Cond.fieldLink RX0 7 "OhmNets$Fraction" "upper" "J", Cond.fieldLink RX0 13 "OhmNets$Fraction" "lower" "J", Cond.methodLink RX1 37 yX6_offer, Cond.instanceMethod yX6_offer, Cond.selects RX6 yX6_offer yX6_offer, Cond.initialized RX6, Cond.code yX6_offer cX6_offer 9 none, Cond.fieldLink RX6 36 "OhmNets$Fraction" "upper" "J", Cond.fieldLink RX6 42 "OhmNets$Fraction" "lower" "J", Cond.fieldLink RX6 12 "OhmNets$Shares" "inOrder" "Ljava/util/ArrayList;", Cond.classLink RX6 26 RX5, Cond.instantiable RX5 6, Cond.initialized RX5, Cond.methodLink RX6 28 yX6_placeOf, Cond.instanceMethod yX6_placeOf, Cond.selects RX6 yX6_placeOf yX6_placeOf, Cond.code yX6_placeOf cX6_placeOf 7 (some .int), Cond.classLink RX6 26 "OhmNets$Share", Cond.methodLink RX6 18 yJx4a65c_size_8abf5, Cond.instanceMethod yJx4a65c_size_8abf5, Cond.selects RJx4a65c yJx4a65c_size_8abf5 yJx4a65c_size_8abf5, Cond.initialized RJx4a65c]
def wsX9_turned_r3 : List Cond := [Cond.code yJx4a65c_size_8abf5 cJx4a65c_size_8abf5 1 (some .int), Cond.fieldLink RJx4a65c 48 "java/util/ArrayList" "size" "I", Cond.methodLink RX6 22 yJx4a65c_get_915e3, Cond.instanceMethod yJx4a65c_get_915e3, Cond.selects RJx4a65c yJx4a65c_get_915e3 yJx4a65c_get_915e3, Cond.code yJx4a65c_get_915e3 cJx4a65c_get_915e3 2 (some (.object "java/lang/Object")), Cond.methodLink RJx4a65c 118 yJ15_checkIndex_7cf53, Cond.static yJ15_checkIndex_7cf53, Cond.initialized RJ15, Cond.code yJ15_checkIndex_7cf53 cJ15_checkIndex_7cf53 2 (some .int), Cond.methodLink RJ15 105 yJ3_checkIndex_8e157, Cond.static yJ3_checkIndex_8e157, Cond.initialized RJ3, Cond.code yJ3_checkIndex_8e157 cJ3_checkIndex_8e157 3 (some .int), Cond.methodLink RJx4a65c 123 yJx4a65c_elementData_915e3, Cond.instanceMethod yJx4a65c_elementData_915e3, Cond.selects RJx4a65c yJx4a65c_elementData_915e3 yJx4a65c_elementData_915e3, Cond.code yJx4a65c_elementData_915e3 cJx4a65c_elementData_915e3 2 (some (.object "java/lang/Object")), Cond.fieldLink RJx4a65c 9 "java/util/ArrayList" "elementData" "[Ljava/lang/Object;", Cond.methodLink RX6 55 yX6_compare, Cond.static yX6_compare, Cond.code yX6_compare cX6_compare 3 (some .int), Cond.fieldLink RX6 59 "OhmNets$Share" "upper" "I", Cond.fieldLink RX6 62 "OhmNets$Share" "lower" "I"]
def wsX9_turned_r4 : List Cond := [Cond.methodLink RX6 64 yJ13_compare_74951, Cond.static yJ13_compare_74951, Cond.initialized RJ13, Cond.code yJ13_compare_74951 cJ13_compare_74951 4 (some .int), Cond.methodLink RX6 32 yX6_isAt, Cond.instanceMethod yX6_isAt, Cond.selects RX6 yX6_isAt yX6_isAt, Cond.code yX6_isAt cX6_isAt 4 (some .boolean), Cond.methodLink RX6 45 yX0_reduce, Cond.instanceMethod yX0_reduce, Cond.selects RX0 yX0_reduce yX0_reduce, Cond.code yX0_reduce cX0_reduce 3 none, Cond.methodLink RX0 16 Lib.MathLoose.abs_long.x, Cond.static Lib.MathLoose.abs_long.x, Cond.initialized "java/lang/Math", Cond.code Lib.MathLoose.abs_long.x Lib.MathLoose.abs_long.code 2 (some .long), Cond.methodLink RX0 22 yX0_commonDivisor, Cond.static yX0_commonDivisor, Cond.code yX0_commonDivisor cX0_commonDivisor 11 (some .long), Cond.methodLink RX6 48 yX5_init, Cond.instanceMethod yX5_init, Cond.code yX5_init cX5_init 7 none, Cond.methodLink RX5 1 objectInit, Cond.instanceMethod objectInit]
def wsX9_turned_r5 : List Cond := [Cond.code objectInit ⟨#[0xb1]⟩ 1 none, Cond.fieldLink RX5 7 "OhmNets$Share" "upper" "I", Cond.fieldLink RX5 13 "OhmNets$Share" "lower" "I", Cond.fieldLink RX5 16 "OhmNets$Share" "how" "I", Cond.fieldLink RX5 19 "OhmNets$Share" "firstParts" "I", Cond.fieldLink RX5 22 "OhmNets$Share" "firstRank" "I", Cond.fieldLink RX5 25 "OhmNets$Share" "secondRank" "I", Cond.methodLink RX6 51 yJx4a65c_add_7a177, Cond.instanceMethod yJx4a65c_add_7a177, Cond.selects RJx4a65c yJx4a65c_add_7a177 yJx4a65c_add_7a177, Cond.code yJx4a65c_add_7a177 cJx4a65c_add_7a177 5 none, Cond.fieldLink RJx4a65c 63 "java/util/ArrayList" "modCount" "I", Cond.sameField "java/util/ArrayList" "java/util/AbstractList" "modCount" "I", Cond.methodLink RJx4a65c 112 arraycopyName, Cond.native arraycopyName, Cond.static arraycopyName, Cond.initialized "java/lang/System", Cond.methodLink RJx4a65c 135 yJx4a65c_rangeCheckForAdd_d00df, Cond.instanceMethod yJx4a65c_rangeCheckForAdd_d00df, Cond.selects RJx4a65c yJx4a65c_rangeCheckForAdd_d00df yJx4a65c_rangeCheckForAdd_d00df, Cond.code yJx4a65c_rangeCheckForAdd_d00df cJx4a65c_rangeCheckForAdd_d00df 2 none, Cond.methodLink RJx4a65c 129 yJx4a65c_grow_d5877, Cond.instanceMethod yJx4a65c_grow_d5877, Cond.selects RJx4a65c yJx4a65c_grow_d5877 yJx4a65c_grow_d5877]
def wsX9_turned_r6 : List Cond := [Cond.code yJx4a65c_grow_d5877 cJx4a65c_grow_d5877 1 (some (.array (.object "java/lang/Object"))), Cond.methodLink RJx4a65c 69 yJx4a65c_grow_92f84, Cond.instanceMethod yJx4a65c_grow_92f84, Cond.selects RJx4a65c yJx4a65c_grow_92f84 yJx4a65c_grow_92f84, Cond.code yJx4a65c_grow_92f84 cJx4a65c_grow_92f84 4 (some (.array (.object "java/lang/Object"))), Cond.fieldLink RJx4a65c 39 "java/util/ArrayList" "DEFAULTCAPACITY_EMPTY_ELEMENTDATA" "[Ljava/lang/Object;", Cond.methodLink RJx4a65c 79 Lib.Math.max.name, Cond.static Lib.Math.max.name, Cond.code Lib.Math.max.name Lib.Math.max.code 2 (some .int), Cond.classLink RJx4a65c 7 "java/lang/Object", Cond.methodLink RJx4a65c 73 yJ8_newLength_cabcc, Cond.static yJ8_newLength_cabcc, Cond.initialized RJ8, Cond.code yJ8_newLength_cabcc cJ8_newLength_cabcc 4 (some .int), Cond.methodLink RJ8 194 Lib.Math.max.name, Cond.constant RJ8 200 (2147483639), Cond.methodLink RJ8 201 yJ8_hugeLength_7cf53, Cond.static yJ8_hugeLength_7cf53, Cond.code yJ8_hugeLength_7cf53 cJ8_hugeLength_7cf53 3 (some .int), Cond.methodLink RJx4a65c 66 yJ7_copyOf_1904c, Cond.static yJ7_copyOf_1904c, Cond.initialized RJ7, Cond.code yJ7_copyOf_1904c cJ7_copyOf_1904c 2 (some (.array (.object "java/lang/Object"))), Cond.methodLink RJ7 86 ⟨"java/lang/Object", "getClass", "()Ljava/lang/Class;"⟩]
def wsX9_turned_r7 : List Cond := [Cond.selects "[Ljava/lang/Object;" ⟨"java/lang/Object", "getClass", "()Ljava/lang/Class;"⟩ ⟨"java/lang/Object", "getClass", "()Ljava/lang/Class;"⟩, Cond.instanceMethod ⟨"java/lang/Object", "getClass", "()Ljava/lang/Class;"⟩, Cond.native ⟨"java/lang/Object", "getClass", "()Ljava/lang/Class;"⟩, Cond.methodLink RJ7 300 yJ7_copyOf_6403c, Cond.static yJ7_copyOf_6403c, Cond.code yJ7_copyOf_6403c cJ7_copyOf_6403c 4 (some (.array (.object "java/lang/Object"))), Cond.classLink RJ7 110 "[Ljava/lang/Object;", Cond.classLink RJ7 2 "java/lang/Object", Cond.methodLink RJ7 304 Lib.Math.min.name, Cond.static Lib.Math.min.name, Cond.code Lib.Math.min.name Lib.Math.min.code 2 (some .int), Cond.methodLink RJ7 150 arraycopyName, Cond.methodLink RX1 41 yX1_offerPairs, Cond.instanceMethod yX1_offerPairs, Cond.selects RX1 yX1_offerPairs yX1_offerPairs, Cond.code yX1_offerPairs cX1_offerPairs 11 none, Cond.methodLink RX1 45 yX6_size, Cond.instanceMethod yX6_size, Cond.selects RX6 yX6_size yX6_size, Cond.code yX6_size cX6_size 1 (some .int), Cond.methodLink RX1 49 yX6_at, Cond.instanceMethod yX6_at, Cond.selects RX6 yX6_at yX6_at, Cond.code yX6_at cX6_at 2 (some (.object "OhmNets$Share"))]
def wsX9_turned_r8 : List Cond := [Cond.methodLink RX1 53 yX1_join, Cond.instanceMethod yX1_join, Cond.selects RX1 yX1_join yX1_join, Cond.code yX1_join cX1_join 5 (some .boolean), Cond.fieldLink RX1 57 "OhmNets$Share" "upper" "I", Cond.fieldLink RX1 62 "OhmNets$Share" "lower" "I", Cond.methodLink RX9 88 yX6_at, Cond.methodLink RX9 49 yX6_size]
def wsX9_turned : List Cond := .code yX9_turned cX9_turned 3 (some .int) :: ((wsX9_turned_r1 ++ (wsX9_turned_r2 ++ (wsX9_turned_r3 ++ (wsX9_turned_r4 ++ (wsX9_turned_r5 ++ (wsX9_turned_r6 ++ (wsX9_turned_r7 ++ wsX9_turned_r8))))))) ++ wsX90 ++ wsX10 ++ wsX00 ++ wsX60 ++ wsX50 ++ wsJx4a65c0)
def wsX9_isKnot : List Cond := .code yX9_isKnot cX9_isKnot 1 (some .boolean) :: ([.methodLink RX9 41 yX9_isWithin, .static yX9_isWithin, .initialized RX9, .code yX9_isWithin cX9_isWithin 3 (some .boolean)])
def wsX9_areTwoKnots : List Cond := .code yX9_areTwoKnots cX9_areTwoKnots 2 (some .boolean) :: ([.methodLink RX9 146 yX9_isKnot, .static yX9_isKnot, .initialized RX9, .code yX9_isKnot cX9_isKnot 1 (some .boolean), .methodLink RX9 41 yX9_isWithin, .static yX9_isWithin, .code yX9_isWithin cX9_isWithin 3 (some .boolean)])
def wsX9_newWire_r1 : List Cond := [Cond.classLink RX9 105 RX8, Cond.instantiable RX8 5, Cond.initialized RX8, Cond.classLink RX9 110 RX2, Cond.instantiable RX2 4, Cond.initialized RX2, Cond.classLink RX9 115 RX4, Cond.instantiable RX4 3, Cond.initialized RX4, Cond.methodLink RX9 107 yX8_init, Cond.instanceMethod yX8_init, Cond.code yX8_init cX8_init 6 none, Cond.fieldLink RX8 7 "OhmNets$ThickWire" "m" "I", Cond.methodLink RX8 1 yX2_init, Cond.instanceMethod yX2_init, Cond.code yX2_init cX2_init 5 none, Cond.fieldLink RX2 7 "OhmNets$LongWire" "k" "I", Cond.methodLink RX2 1 yX4_init, Cond.instanceMethod yX4_init, Cond.code yX4_init cX4_init 4 none, Cond.methodLink RX4 1 objectInit, Cond.instanceMethod objectInit, Cond.code objectInit ⟨#[0xb1]⟩ 1 none, Cond.fieldLink RX4 7 "OhmNets$OneWire" "kind" "I"]
def wsX9_newWire_r2 : List Cond := [Cond.fieldLink RX4 13 "OhmNets$OneWire" "first" "I", Cond.fieldLink RX4 16 "OhmNets$OneWire" "second" "I", Cond.methodLink RX9 112 yX2_init, Cond.methodLink RX9 117 yX4_init]
def wsX9_newWire : List Cond := .code yX9_newWire cX9_newWire 5 (some (.object "OhmNets$OneWire")) :: ((wsX9_newWire_r1 ++ wsX9_newWire_r2) ++ wsX80 ++ wsX20 ++ wsX40)
def wsX9_wire_r1 : List Cond := [Cond.fieldLink RX9 19 "OhmNets" "net" "LOhmNets$Net;", Cond.methodLink RX9 41 yX9_isWithin, Cond.static yX9_isWithin, Cond.initialized RX9, Cond.code yX9_isWithin cX9_isWithin 3 (some .boolean), Cond.methodLink RX9 92 yX9_areTwoKnots, Cond.static yX9_areTwoKnots, Cond.code yX9_areTwoKnots cX9_areTwoKnots 2 (some .boolean), Cond.methodLink RX9 146 yX9_isKnot, Cond.static yX9_isKnot, Cond.code yX9_isKnot cX9_isKnot 1 (some .boolean), Cond.methodLink RX9 96 yX3_size, Cond.instanceMethod yX3_size, Cond.selects RX3 yX3_size yX3_size, Cond.initialized RX3, Cond.code yX3_size cX3_size 1 (some .int), Cond.fieldLink RX3 21 "OhmNets$Net" "size" "I", Cond.methodLink RX9 97 yX9_newWire, Cond.static yX9_newWire, Cond.code yX9_newWire cX9_newWire 5 (some (.object "OhmNets$OneWire")), Cond.classLink RX9 105 RX8, Cond.instantiable RX8 5, Cond.initialized RX8, Cond.classLink RX9 110 RX2]
def wsX9_wire_r2 : List Cond := [Cond.instantiable RX2 4, Cond.initialized RX2, Cond.classLink RX9 115 RX4, Cond.instantiable RX4 3, Cond.initialized RX4, Cond.methodLink RX9 107 yX8_init, Cond.instanceMethod yX8_init, Cond.code yX8_init cX8_init 6 none, Cond.fieldLink RX8 7 "OhmNets$ThickWire" "m" "I", Cond.methodLink RX8 1 yX2_init, Cond.instanceMethod yX2_init, Cond.code yX2_init cX2_init 5 none, Cond.fieldLink RX2 7 "OhmNets$LongWire" "k" "I", Cond.methodLink RX2 1 yX4_init, Cond.instanceMethod yX4_init, Cond.code yX4_init cX4_init 4 none, Cond.methodLink RX4 1 objectInit, Cond.instanceMethod objectInit, Cond.code objectInit ⟨#[0xb1]⟩ 1 none, Cond.fieldLink RX4 7 "OhmNets$OneWire" "kind" "I", Cond.fieldLink RX4 13 "OhmNets$OneWire" "first" "I", Cond.fieldLink RX4 16 "OhmNets$OneWire" "second" "I", Cond.methodLink RX9 112 yX2_init, Cond.methodLink RX9 117 yX4_init]
def wsX9_wire_r3 : List Cond := [Cond.methodLink RX9 101 yX3_add, Cond.instanceMethod yX3_add, Cond.selects RX3 yX3_add yX3_add, Cond.code yX3_add cX3_add 2 (some .int), Cond.fieldLink RX3 11 "OhmNets$Net" "wires" "[LOhmNets$OneWire;", Cond.fieldLink RX3 17 "OhmNets$Net" "flows" "[J", Cond.methodLink RX3 47 yX3_flowOf, Cond.instanceMethod yX3_flowOf, Cond.selects RX3 yX3_flowOf yX3_flowOf, Cond.code yX3_flowOf cX3_flowOf 2 (some .long), Cond.fieldLink RX3 28 "OhmNets$Net" "measured" "LOhmNets$Fraction;", Cond.fieldLink RX3 55 "OhmNets$Fraction" "upper" "J", Cond.constantLong RX3 59 (12), Cond.fieldLink RX3 61 "OhmNets$Fraction" "lower" "J", Cond.methodLink RX3 51 ⟨"OhmNets$OneWire", "measure", "(LOhmNets$Fraction;)I"⟩, Cond.sameMethod "OhmNets$OneWire" "OhmNets$OneWire" "measure" "(LOhmNets$Fraction;)I", Cond.instanceMethod ⟨"OhmNets$OneWire", "measure", "(LOhmNets$Fraction;)I"⟩, Cond.selects RX2 ⟨"OhmNets$OneWire", "measure", "(LOhmNets$Fraction;)I"⟩ yX2_measure, Cond.instanceMethod yX2_measure, Cond.code yX2_measure cX2_measure 3 (some .int), Cond.fieldLink RX2 17 "OhmNets$Fraction" "upper" "J", Cond.methodLink RX2 13 yX4_measure, Cond.superclass RX2 RX4, Cond.instanceMethod yX4_measure]
def wsX9_wire_r4 : List Cond := [Cond.code yX4_measure cX4_measure 2 (some .int), Cond.methodLink RX4 19 yX0_set, Cond.instanceMethod yX0_set, Cond.selects RX0 yX0_set yX0_set, Cond.initialized RX0, Cond.code yX0_set cX0_set 5 none, Cond.fieldLink RX0 7 "OhmNets$Fraction" "upper" "J", Cond.fieldLink RX0 13 "OhmNets$Fraction" "lower" "J", Cond.methodLink RX3 51 yX4_measure, Cond.selects RX4 yX4_measure yX4_measure, Cond.selects RX8 ⟨"OhmNets$OneWire", "measure", "(LOhmNets$Fraction;)I"⟩ yX8_measure, Cond.instanceMethod yX8_measure, Cond.code yX8_measure cX8_measure 3 (some .int), Cond.fieldLink RX8 17 "OhmNets$Fraction" "lower" "J", Cond.methodLink RX8 13 yX2_measure, Cond.sameMethod "OhmNets$LongWire" "OhmNets$LongWire" "measure" "(LOhmNets$Fraction;)I", Cond.superclass RX8 RX2]
def wsX9_wire : List Cond := .code yX9_wire cX9_wire 6 (some .int) :: ((wsX9_wire_r1 ++ (wsX9_wire_r2 ++ (wsX9_wire_r3 ++ wsX9_wire_r4))) ++ wsX90 ++ wsX30 ++ wsX80 ++ wsX20 ++ wsX40 ++ wsX00)
def wsX9_cut : List Cond := .code yX9_cut cX9_cut 1 (some .int) :: ([.fieldLink RX9 19 "OhmNets" "net" "LOhmNets$Net;", .methodLink RX9 96 yX3_size, .instanceMethod yX3_size, .selects RX3 yX3_size yX3_size, .initialized RX3, .code yX3_size cX3_size 1 (some .int), .fieldLink RX3 21 "OhmNets$Net" "size" "I", .methodLink RX9 120 yX3_removeLatest, .instanceMethod yX3_removeLatest, .selects RX3 yX3_removeLatest yX3_removeLatest, .code yX3_removeLatest cX3_removeLatest 1 (some .int), .fieldLink RX3 11 "OhmNets$Net" "wires" "[LOhmNets$OneWire;"] ++ wsX90 ++ wsX30)
def wsX9_ohms_r1 : List Cond := [Cond.fieldLink RX9 19 "OhmNets" "net" "LOhmNets$Net;", Cond.fieldLink RX9 37 "OhmNets" "traced" "J", Cond.fieldLink RX9 33 "OhmNets" "answer" "LOhmNets$Fraction;", Cond.methodLink RX9 123 yX3_at, Cond.instanceMethod yX3_at, Cond.selects RX3 yX3_at yX3_at, Cond.initialized RX3, Cond.code yX3_at cX3_at 2 (some (.object "OhmNets$OneWire")), Cond.fieldLink RX3 21 "OhmNets$Net" "size" "I", Cond.fieldLink RX3 11 "OhmNets$Net" "wires" "[LOhmNets$OneWire;", Cond.methodLink RX9 41 yX9_isWithin, Cond.static yX9_isWithin, Cond.initialized RX9, Cond.code yX9_isWithin cX9_isWithin 3 (some .boolean), Cond.methodLink RX9 126 ⟨"OhmNets$OneWire", "measure", "(LOhmNets$Fraction;)I"⟩, Cond.sameMethod "OhmNets$OneWire" "OhmNets$OneWire" "measure" "(LOhmNets$Fraction;)I", Cond.instanceMethod ⟨"OhmNets$OneWire", "measure", "(LOhmNets$Fraction;)I"⟩, Cond.selects RX2 ⟨"OhmNets$OneWire", "measure", "(LOhmNets$Fraction;)I"⟩ yX2_measure, Cond.instanceMethod yX2_measure, Cond.initialized RX2, Cond.code yX2_measure cX2_measure 3 (some .int), Cond.fieldLink RX2 17 "OhmNets$Fraction" "upper" "J", Cond.fieldLink RX2 7 "OhmNets$LongWire" "k" "I", Cond.methodLink RX2 13 yX4_measure]
def wsX9_ohms_r2 : List Cond := [Cond.superclass RX2 RX4, Cond.instanceMethod yX4_measure, Cond.initialized RX4, Cond.code yX4_measure cX4_measure 2 (some .int), Cond.methodLink RX4 19 yX0_set, Cond.instanceMethod yX0_set, Cond.selects RX0 yX0_set yX0_set, Cond.initialized RX0, Cond.code yX0_set cX0_set 5 none, Cond.fieldLink RX0 7 "OhmNets$Fraction" "upper" "J", Cond.fieldLink RX0 13 "OhmNets$Fraction" "lower" "J", Cond.methodLink RX9 126 yX4_measure, Cond.selects RX4 yX4_measure yX4_measure, Cond.selects RX8 ⟨"OhmNets$OneWire", "measure", "(LOhmNets$Fraction;)I"⟩ yX8_measure, Cond.instanceMethod yX8_measure, Cond.initialized RX8, Cond.code yX8_measure cX8_measure 3 (some .int), Cond.fieldLink RX8 17 "OhmNets$Fraction" "lower" "J", Cond.fieldLink RX8 7 "OhmNets$ThickWire" "m" "I", Cond.methodLink RX8 13 yX2_measure, Cond.sameMethod "OhmNets$LongWire" "OhmNets$LongWire" "measure" "(LOhmNets$Fraction;)I", Cond.superclass RX8 RX2, Cond.methodLink RX9 130 yX0_reduce, Cond.instanceMethod yX0_reduce]
def wsX9_ohms_r3 : List Cond := [Cond.selects RX0 yX0_reduce yX0_reduce, Cond.code yX0_reduce cX0_reduce 3 none, Cond.methodLink RX0 16 Lib.MathLoose.abs_long.x, Cond.static Lib.MathLoose.abs_long.x, Cond.initialized "java/lang/Math", Cond.code Lib.MathLoose.abs_long.x Lib.MathLoose.abs_long.code 2 (some .long), Cond.methodLink RX0 22 yX0_commonDivisor, Cond.static yX0_commonDivisor, Cond.code yX0_commonDivisor cX0_commonDivisor 11 (some .long), Cond.methodLink RX9 133 yX0_part, Cond.instanceMethod yX0_part, Cond.selects RX0 yX0_part yX0_part, Cond.code yX0_part cX0_part 2 (some .long)]
def wsX9_ohms : List Cond := .code yX9_ohms cX9_ohms 4 (some .int) :: ((wsX9_ohms_r1 ++ (wsX9_ohms_r2 ++ wsX9_ohms_r3)) ++ wsX90 ++ wsX30 ++ wsX00 ++ wsX20 ++ wsX80)
def wsX9_about : List Cond := .code yX9_about cX9_about 4 (some .int) :: ([.fieldLink RX9 19 "OhmNets" "net" "LOhmNets$Net;", .fieldLink RX9 137 "OhmNets$OneWire" "kind" "I", .fieldLink RX9 140 "OhmNets$OneWire" "first" "I", .fieldLink RX9 143 "OhmNets$OneWire" "second" "I", .methodLink RX9 123 yX3_at, .instanceMethod yX3_at, .selects RX3 yX3_at yX3_at, .initialized RX3, .code yX3_at cX3_at 2 (some (.object "OhmNets$OneWire")), .fieldLink RX3 21 "OhmNets$Net" "size" "I", .fieldLink RX3 11 "OhmNets$Net" "wires" "[LOhmNets$OneWire;"] ++ wsX90 ++ wsX20 ++ wsX40 ++ wsX80 ++ wsX30)
def wsX9_between_r1 : List Cond := [Cond.constantLong RX9 150 (-1), Cond.fieldLink RX9 19 "OhmNets" "net" "LOhmNets$Net;", Cond.constantLong RX9 155 (-2), Cond.fieldLink RX9 33 "OhmNets" "answer" "LOhmNets$Fraction;", Cond.methodLink RX9 146 yX9_isKnot, Cond.static yX9_isKnot, Cond.initialized RX9, Cond.code yX9_isKnot cX9_isKnot 1 (some .boolean), Cond.methodLink RX9 41 yX9_isWithin, Cond.static yX9_isWithin, Cond.code yX9_isWithin cX9_isWithin 3 (some .boolean), Cond.methodLink RX9 152 yX3_hangTogether, Cond.instanceMethod yX3_hangTogether, Cond.selects RX3 yX3_hangTogether yX3_hangTogether, Cond.initialized RX3, Cond.code yX3_hangTogether cX3_hangTogether 3 (some .boolean), Cond.methodLink RX3 70 yX3_reachedFrom, Cond.instanceMethod yX3_reachedFrom, Cond.selects RX3 yX3_reachedFrom yX3_reachedFrom, Cond.code yX3_reachedFrom cX3_reachedFrom 5 (some .int), Cond.fieldLink RX3 21 "OhmNets$Net" "size" "I", Cond.fieldLink RX3 11 "OhmNets$Net" "wires" "[LOhmNets$OneWire;", Cond.fieldLink RX3 64 "OhmNets$OneWire" "first" "I", Cond.fieldLink RX3 67 "OhmNets$OneWire" "second" "I"]
def wsX9_between_r2 : List Cond := [Cond.methodLink RX3 74 ⟨"OhmNets$OneWire", "touches", "(I)Z"⟩, Cond.sameMethod "OhmNets$OneWire" "OhmNets$OneWire" "touches" "(I)Z", Cond.selects RX2 ⟨"OhmNets$OneWire", "touches", "(I)Z"⟩ yX4_touches, Cond.instanceMethod yX4_touches, Cond.initialized RX4, Cond.code yX4_touches cX4_touches 2 (some .boolean), Cond.fieldLink RX4 13 "OhmNets$OneWire" "first" "I", Cond.fieldLink RX4 16 "OhmNets$OneWire" "second" "I", Cond.methodLink RX3 74 yX4_touches, Cond.selects RX4 yX4_touches yX4_touches, Cond.selects RX8 ⟨"OhmNets$OneWire", "touches", "(I)Z"⟩ yX4_touches, Cond.methodLink RX9 157 yX3_solveBetween, Cond.instanceMethod yX3_solveBetween, Cond.selects RX3 yX3_solveBetween yX3_solveBetween, Cond.code yX3_solveBetween cX3_solveBetween 6 none, Cond.constantLong RX3 59 (12), Cond.methodLink RX3 78 yX0_set, Cond.instanceMethod yX0_set, Cond.selects RX0 yX0_set yX0_set, Cond.initialized RX0, Cond.code yX0_set cX0_set 5 none, Cond.fieldLink RX0 7 "OhmNets$Fraction" "upper" "J", Cond.fieldLink RX0 13 "OhmNets$Fraction" "lower" "J", Cond.methodLink RX3 82 yX3_solve]
def wsX9_between_r3 : List Cond := [Cond.instanceMethod yX3_solve, Cond.selects RX3 yX3_solve yX3_solve, Cond.code yX3_solve cX3_solve 4 (some .long), Cond.fieldLink RX3 41 "OhmNets$Net" "lineOf" "[I", Cond.fieldLink RX3 38 "OhmNets$Net" "lines" "[[J", Cond.fieldLink RX3 44 "OhmNets$Net" "lineCount" "I", Cond.methodLink RX3 93 yX3_layLines, Cond.instanceMethod yX3_layLines, Cond.selects RX3 yX3_layLines yX3_layLines, Cond.code yX3_layLines cX3_layLines 9 none, Cond.fieldLink RX3 17 "OhmNets$Net" "flows" "[J", Cond.methodLink RX3 110 yX3_numberLines, Cond.instanceMethod yX3_numberLines, Cond.selects RX3 yX3_numberLines yX3_numberLines, Cond.code yX3_numberLines cX3_numberLines 3 none, Cond.methodLink RX3 114 yX3_layEnd, Cond.instanceMethod yX3_layEnd, Cond.selects RX3 yX3_layEnd yX3_layEnd, Cond.code yX3_layEnd cX3_layEnd 5 none, Cond.methodLink RX3 97 yX3_eliminate, Cond.instanceMethod yX3_eliminate, Cond.selects RX3 yX3_eliminate yX3_eliminate, Cond.code yX3_eliminate cX3_eliminate 7 (some .long), Cond.methodLink RX3 118 yX3_subtract]
def wsX9_between_r4 : List Cond := [Cond.instanceMethod yX3_subtract, Cond.selects RX3 yX3_subtract yX3_subtract, Cond.code yX3_subtract cX3_subtract 10 none, Cond.methodLink RX3 86 yX3_numberOf, Cond.instanceMethod yX3_numberOf, Cond.selects RX3 yX3_numberOf yX3_numberOf, Cond.code yX3_numberOf cX3_numberOf 3 (some .long), Cond.methodLink RX3 90 yX0_reduce, Cond.instanceMethod yX0_reduce, Cond.selects RX0 yX0_reduce yX0_reduce, Cond.code yX0_reduce cX0_reduce 3 none, Cond.methodLink RX0 16 Lib.MathLoose.abs_long.x, Cond.static Lib.MathLoose.abs_long.x, Cond.initialized "java/lang/Math", Cond.code Lib.MathLoose.abs_long.x Lib.MathLoose.abs_long.code 2 (some .long), Cond.methodLink RX0 22 yX0_commonDivisor, Cond.static yX0_commonDivisor, Cond.code yX0_commonDivisor cX0_commonDivisor 11 (some .long), Cond.methodLink RX9 133 yX0_part, Cond.instanceMethod yX0_part, Cond.selects RX0 yX0_part yX0_part, Cond.code yX0_part cX0_part 2 (some .long)]
def wsX9_between : List Cond := .code yX9_between cX9_between 4 (some .long) :: ((wsX9_between_r1 ++ (wsX9_between_r2 ++ (wsX9_between_r3 ++ wsX9_between_r4))) ++ wsX90 ++ wsX30 ++ wsX20 ++ wsX40 ++ wsX80 ++ wsX00)
def wsX9_through_r1 : List Cond := [Cond.fieldLink RX9 19 "OhmNets" "net" "LOhmNets$Net;", Cond.constantLong RX9 163 (-9223372036854775808), Cond.fieldLink RX9 33 "OhmNets" "answer" "LOhmNets$Fraction;", Cond.methodLink RX9 123 yX3_at, Cond.instanceMethod yX3_at, Cond.selects RX3 yX3_at yX3_at, Cond.initialized RX3, Cond.code yX3_at cX3_at 2 (some (.object "OhmNets$OneWire")), Cond.fieldLink RX3 21 "OhmNets$Net" "size" "I", Cond.fieldLink RX3 11 "OhmNets$Net" "wires" "[LOhmNets$OneWire;", Cond.methodLink RX9 92 yX9_areTwoKnots, Cond.static yX9_areTwoKnots, Cond.initialized RX9, Cond.code yX9_areTwoKnots cX9_areTwoKnots 2 (some .boolean), Cond.methodLink RX9 146 yX9_isKnot, Cond.static yX9_isKnot, Cond.code yX9_isKnot cX9_isKnot 1 (some .boolean), Cond.methodLink RX9 41 yX9_isWithin, Cond.static yX9_isWithin, Cond.code yX9_isWithin cX9_isWithin 3 (some .boolean), Cond.methodLink RX9 152 yX3_hangTogether, Cond.instanceMethod yX3_hangTogether, Cond.selects RX3 yX3_hangTogether yX3_hangTogether, Cond.code yX3_hangTogether cX3_hangTogether 3 (some .boolean)]
def wsX9_through_r2 : List Cond := [Cond.methodLink RX3 70 yX3_reachedFrom, Cond.instanceMethod yX3_reachedFrom, Cond.selects RX3 yX3_reachedFrom yX3_reachedFrom, Cond.code yX3_reachedFrom cX3_reachedFrom 5 (some .int), Cond.fieldLink RX3 64 "OhmNets$OneWire" "first" "I", Cond.fieldLink RX3 67 "OhmNets$OneWire" "second" "I", Cond.methodLink RX3 74 ⟨"OhmNets$OneWire", "touches", "(I)Z"⟩, Cond.sameMethod "OhmNets$OneWire" "OhmNets$OneWire" "touches" "(I)Z", Cond.selects RX2 ⟨"OhmNets$OneWire", "touches", "(I)Z"⟩ yX4_touches, Cond.instanceMethod yX4_touches, Cond.initialized RX4, Cond.code yX4_touches cX4_touches 2 (some .boolean), Cond.fieldLink RX4 13 "OhmNets$OneWire" "first" "I", Cond.fieldLink RX4 16 "OhmNets$OneWire" "second" "I", Cond.methodLink RX3 74 yX4_touches, Cond.selects RX4 yX4_touches yX4_touches, Cond.selects RX8 ⟨"OhmNets$OneWire", "touches", "(I)Z"⟩ yX4_touches, Cond.methodLink RX9 165 yX3_solveThrough, Cond.instanceMethod yX3_solveThrough, Cond.selects RX3 yX3_solveThrough yX3_solveThrough, Cond.code yX3_solveThrough cX3_solveThrough 9 none, Cond.fieldLink RX3 17 "OhmNets$Net" "flows" "[J", Cond.methodLink RX3 82 yX3_solve, Cond.instanceMethod yX3_solve]
def wsX9_through_r3 : List Cond := [Cond.selects RX3 yX3_solve yX3_solve, Cond.code yX3_solve cX3_solve 4 (some .long), Cond.fieldLink RX3 41 "OhmNets$Net" "lineOf" "[I", Cond.fieldLink RX3 38 "OhmNets$Net" "lines" "[[J", Cond.fieldLink RX3 44 "OhmNets$Net" "lineCount" "I", Cond.methodLink RX3 93 yX3_layLines, Cond.instanceMethod yX3_layLines, Cond.selects RX3 yX3_layLines yX3_layLines, Cond.code yX3_layLines cX3_layLines 9 none, Cond.methodLink RX3 110 yX3_numberLines, Cond.instanceMethod yX3_numberLines, Cond.selects RX3 yX3_numberLines yX3_numberLines, Cond.code yX3_numberLines cX3_numberLines 3 none, Cond.methodLink RX3 114 yX3_layEnd, Cond.instanceMethod yX3_layEnd, Cond.selects RX3 yX3_layEnd yX3_layEnd, Cond.code yX3_layEnd cX3_layEnd 5 none, Cond.methodLink RX3 97 yX3_eliminate, Cond.instanceMethod yX3_eliminate, Cond.selects RX3 yX3_eliminate yX3_eliminate, Cond.code yX3_eliminate cX3_eliminate 7 (some .long), Cond.methodLink RX3 118 yX3_subtract, Cond.instanceMethod yX3_subtract, Cond.selects RX3 yX3_subtract yX3_subtract]
def wsX9_through_r4 : List Cond := [Cond.code yX3_subtract cX3_subtract 10 none, Cond.methodLink RX3 86 yX3_numberOf, Cond.instanceMethod yX3_numberOf, Cond.selects RX3 yX3_numberOf yX3_numberOf, Cond.code yX3_numberOf cX3_numberOf 3 (some .long), Cond.methodLink RX3 78 yX0_set, Cond.instanceMethod yX0_set, Cond.selects RX0 yX0_set yX0_set, Cond.initialized RX0, Cond.code yX0_set cX0_set 5 none, Cond.fieldLink RX0 7 "OhmNets$Fraction" "upper" "J", Cond.fieldLink RX0 13 "OhmNets$Fraction" "lower" "J", Cond.methodLink RX3 90 yX0_reduce, Cond.instanceMethod yX0_reduce, Cond.selects RX0 yX0_reduce yX0_reduce, Cond.code yX0_reduce cX0_reduce 3 none, Cond.methodLink RX0 16 Lib.MathLoose.abs_long.x, Cond.static Lib.MathLoose.abs_long.x, Cond.initialized "java/lang/Math", Cond.code Lib.MathLoose.abs_long.x Lib.MathLoose.abs_long.code 2 (some .long), Cond.methodLink RX0 22 yX0_commonDivisor, Cond.static yX0_commonDivisor, Cond.code yX0_commonDivisor cX0_commonDivisor 11 (some .long), Cond.methodLink RX9 133 yX0_part]
def wsX9_through_r5 : List Cond := [Cond.instanceMethod yX0_part, Cond.selects RX0 yX0_part yX0_part, Cond.code yX0_part cX0_part 2 (some .long)]
def wsX9_through : List Cond := .code yX9_through cX9_through 5 (some .long) :: ((wsX9_through_r1 ++ (wsX9_through_r2 ++ (wsX9_through_r3 ++ (wsX9_through_r4 ++ wsX9_through_r5)))) ++ wsX90 ++ wsX30 ++ wsX20 ++ wsX40 ++ wsX80 ++ wsX00)
def wsX9_trees_r1 : List Cond := [Cond.fieldLink RX9 19 "OhmNets" "net" "LOhmNets$Net;", Cond.methodLink RX9 169 yX3_countTrees, Cond.instanceMethod yX3_countTrees, Cond.selects RX3 yX3_countTrees yX3_countTrees, Cond.initialized RX3, Cond.code yX3_countTrees cX3_countTrees 2 (some .int), Cond.methodLink RX3 101 yX3_knotsWithWires, Cond.instanceMethod yX3_knotsWithWires, Cond.selects RX3 yX3_knotsWithWires yX3_knotsWithWires, Cond.code yX3_knotsWithWires cX3_knotsWithWires 3 (some .int), Cond.fieldLink RX3 21 "OhmNets$Net" "size" "I", Cond.fieldLink RX3 11 "OhmNets$Net" "wires" "[LOhmNets$OneWire;", Cond.fieldLink RX3 64 "OhmNets$OneWire" "first" "I", Cond.fieldLink RX3 67 "OhmNets$OneWire" "second" "I", Cond.methodLink RX3 105 yJ6_numberOfTrailingZeros_0f7a4, Cond.static yJ6_numberOfTrailingZeros_0f7a4, Cond.initialized RJ6, Cond.code yJ6_numberOfTrailingZeros_0f7a4 cJ6_numberOfTrailingZeros_0f7a4 2 (some .int), Cond.constant RJ6 264 (65536), Cond.methodLink RX3 93 yX3_layLines, Cond.instanceMethod yX3_layLines, Cond.selects RX3 yX3_layLines yX3_layLines, Cond.code yX3_layLines cX3_layLines 9 none, Cond.fieldLink RX3 44 "OhmNets$Net" "lineCount" "I"]
def wsX9_trees_r2 : List Cond := [Cond.fieldLink RX3 38 "OhmNets$Net" "lines" "[[J", Cond.fieldLink RX3 41 "OhmNets$Net" "lineOf" "[I", Cond.fieldLink RX3 17 "OhmNets$Net" "flows" "[J", Cond.methodLink RX3 110 yX3_numberLines, Cond.instanceMethod yX3_numberLines, Cond.selects RX3 yX3_numberLines yX3_numberLines, Cond.code yX3_numberLines cX3_numberLines 3 none, Cond.methodLink RX3 114 yX3_layEnd, Cond.instanceMethod yX3_layEnd, Cond.selects RX3 yX3_layEnd yX3_layEnd, Cond.code yX3_layEnd cX3_layEnd 5 none, Cond.methodLink RX3 97 yX3_eliminate, Cond.instanceMethod yX3_eliminate, Cond.selects RX3 yX3_eliminate yX3_eliminate, Cond.code yX3_eliminate cX3_eliminate 7 (some .long), Cond.methodLink RX3 118 yX3_subtract, Cond.instanceMethod yX3_subtract, Cond.selects RX3 yX3_subtract yX3_subtract, Cond.code yX3_subtract cX3_subtract 10 none]
def wsX9_trees : List Cond := .code yX9_trees cX9_trees 1 (some .int) :: ((wsX9_trees_r1 ++ wsX9_trees_r2) ++ wsX90 ++ wsX30 ++ wsX20 ++ wsX40 ++ wsX80)
def wsX9_falls_r1 : List Cond := [Cond.fieldLink RX9 19 "OhmNets" "net" "LOhmNets$Net;", Cond.methodLink RX9 92 yX9_areTwoKnots, Cond.static yX9_areTwoKnots, Cond.initialized RX9, Cond.code yX9_areTwoKnots cX9_areTwoKnots 2 (some .boolean), Cond.methodLink RX9 146 yX9_isKnot, Cond.static yX9_isKnot, Cond.code yX9_isKnot cX9_isKnot 1 (some .boolean), Cond.methodLink RX9 41 yX9_isWithin, Cond.static yX9_isWithin, Cond.code yX9_isWithin cX9_isWithin 3 (some .boolean), Cond.methodLink RX9 152 yX3_hangTogether, Cond.instanceMethod yX3_hangTogether, Cond.selects RX3 yX3_hangTogether yX3_hangTogether, Cond.initialized RX3, Cond.code yX3_hangTogether cX3_hangTogether 3 (some .boolean), Cond.methodLink RX3 70 yX3_reachedFrom, Cond.instanceMethod yX3_reachedFrom, Cond.selects RX3 yX3_reachedFrom yX3_reachedFrom, Cond.code yX3_reachedFrom cX3_reachedFrom 5 (some .int), Cond.fieldLink RX3 21 "OhmNets$Net" "size" "I", Cond.fieldLink RX3 11 "OhmNets$Net" "wires" "[LOhmNets$OneWire;", Cond.fieldLink RX3 64 "OhmNets$OneWire" "first" "I", Cond.fieldLink RX3 67 "OhmNets$OneWire" "second" "I"]
def wsX9_falls_r2 : List Cond := [Cond.methodLink RX3 74 ⟨"OhmNets$OneWire", "touches", "(I)Z"⟩, Cond.sameMethod "OhmNets$OneWire" "OhmNets$OneWire" "touches" "(I)Z", Cond.selects RX2 ⟨"OhmNets$OneWire", "touches", "(I)Z"⟩ yX4_touches, Cond.instanceMethod yX4_touches, Cond.initialized RX4, Cond.code yX4_touches cX4_touches 2 (some .boolean), Cond.fieldLink RX4 13 "OhmNets$OneWire" "first" "I", Cond.fieldLink RX4 16 "OhmNets$OneWire" "second" "I", Cond.methodLink RX3 74 yX4_touches, Cond.selects RX4 yX4_touches yX4_touches, Cond.selects RX8 ⟨"OhmNets$OneWire", "touches", "(I)Z"⟩ yX4_touches, Cond.methodLink RX9 172 yX3_fallsTogether, Cond.instanceMethod yX3_fallsTogether, Cond.selects RX3 yX3_fallsTogether yX3_fallsTogether, Cond.code yX3_fallsTogether cX3_fallsTogether 6 (some .boolean), Cond.fieldLink RX3 32 "OhmNets$Net" "neighbours" "[I", Cond.methodLink RX3 121 yX3_layNeighbours, Cond.instanceMethod yX3_layNeighbours, Cond.selects RX3 yX3_layNeighbours yX3_layNeighbours, Cond.code yX3_layNeighbours cX3_layNeighbours 3 none, Cond.methodLink RX3 130 yX3_link, Cond.instanceMethod yX3_link, Cond.selects RX3 yX3_link yX3_link, Cond.code yX3_link cX3_link 3 none]
def wsX9_falls_r3 : List Cond := [Cond.methodLink RX3 124 yJ6_bitCount_0f7a4, Cond.static yJ6_bitCount_0f7a4, Cond.initialized RJ6, Cond.code yJ6_bitCount_0f7a4 cJ6_bitCount_0f7a4 1 (some .int), Cond.constant RJ6 265 (1431655765), Cond.constant RJ6 266 (858993459), Cond.constant RJ6 267 (252645135), Cond.methodLink RX3 127 yX3_takeAway, Cond.instanceMethod yX3_takeAway, Cond.selects RX3 yX3_takeAway yX3_takeAway, Cond.code yX3_takeAway cX3_takeAway 5 none, Cond.methodLink RX3 105 yJ6_numberOfTrailingZeros_0f7a4, Cond.static yJ6_numberOfTrailingZeros_0f7a4, Cond.code yJ6_numberOfTrailingZeros_0f7a4 cJ6_numberOfTrailingZeros_0f7a4 2 (some .int), Cond.constant RJ6 264 (65536)]
def wsX9_falls : List Cond := .code yX9_falls cX9_falls 3 (some .int) :: ((wsX9_falls_r1 ++ (wsX9_falls_r2 ++ wsX9_falls_r3)) ++ wsX90 ++ wsX30 ++ wsX20 ++ wsX40 ++ wsX80)
def wsX9_sort : List Cond := .code yX9_sort cX9_sort 3 (some .int) :: ([.fieldLink RX9 26 "OhmNets" "shop" "LOhmNets$Shop;", .methodLink RX9 41 yX9_isWithin, .static yX9_isWithin, .initialized RX9, .code yX9_isWithin cX9_isWithin 3 (some .boolean), .methodLink RX9 175 yX7_size, .instanceMethod yX7_size, .selects RX7 yX7_size yX7_size, .initialized RX7, .code yX7_size cX7_size 1 (some .int), .fieldLink RX7 18 "OhmNets$Shop" "size" "I", .methodLink RX9 176 yX7_add, .instanceMethod yX7_add, .selects RX7 yX7_add yX7_add, .code yX7_add cX7_add 3 (some .int), .fieldLink RX7 9 "OhmNets$Shop" "sortOhms" "[I", .fieldLink RX7 15 "OhmNets$Shop" "sortPrices" "[I"] ++ wsX90 ++ wsX70)
def wsX9_nearest_r1 : List Cond := [Cond.fieldLink RX9 26 "OhmNets" "shop" "LOhmNets$Shop;", Cond.methodLink RX9 69 yX9_isTold, Cond.static yX9_isTold, Cond.initialized RX9, Cond.code yX9_isTold cX9_isTold 3 (some .boolean), Cond.methodLink RX9 41 yX9_isWithin, Cond.static yX9_isWithin, Cond.code yX9_isWithin cX9_isWithin 3 (some .boolean), Cond.methodLink RX9 175 yX7_size, Cond.instanceMethod yX7_size, Cond.selects RX7 yX7_size yX7_size, Cond.initialized RX7, Cond.code yX7_size cX7_size 1 (some .int), Cond.fieldLink RX7 18 "OhmNets$Shop" "size" "I", Cond.methodLink RX9 178 yX7_nearestTo, Cond.instanceMethod yX7_nearestTo, Cond.selects RX7 yX7_nearestTo yX7_nearestTo, Cond.code yX7_nearestTo cX7_nearestTo 5 (some .int), Cond.fieldLink RX7 25 "OhmNets$Shop" "tried" "LOhmNets$Fraction;", Cond.fieldLink RX7 29 "OhmNets$Shop" "kept" "LOhmNets$Fraction;", Cond.fieldLink RX7 58 "OhmNets$Fraction" "upper" "J", Cond.fieldLink RX7 62 "OhmNets$Fraction" "lower" "J", Cond.methodLink RX7 47 yX7_has, Cond.instanceMethod yX7_has]
def wsX9_nearest_r2 : List Cond := [Cond.selects RX7 yX7_has yX7_has, Cond.code yX7_has cX7_has 2 (some .boolean), Cond.methodLink RX7 32 yX7_isOneSort, Cond.static yX7_isOneSort, Cond.code yX7_isOneSort cX7_isOneSort 1 (some .boolean), Cond.methodLink RX7 36 yX7_firstOf, Cond.static yX7_firstOf, Cond.code yX7_firstOf cX7_firstOf 1 (some .int), Cond.methodLink RX7 40 yX7_secondOf, Cond.static yX7_secondOf, Cond.code yX7_secondOf cX7_secondOf 1 (some .int), Cond.methodLink RX7 50 yX7_measure, Cond.instanceMethod yX7_measure, Cond.selects RX7 yX7_measure yX7_measure, Cond.code yX7_measure cX7_measure 5 none, Cond.fieldLink RX7 9 "OhmNets$Shop" "sortOhms" "[I", Cond.methodLink RX7 43 yX0_set, Cond.instanceMethod yX0_set, Cond.selects RX0 yX0_set yX0_set, Cond.initialized RX0, Cond.code yX0_set cX0_set 5 none, Cond.fieldLink RX0 7 "OhmNets$Fraction" "upper" "J", Cond.fieldLink RX0 13 "OhmNets$Fraction" "lower" "J", Cond.methodLink RX7 54 yX7_isTriedBetter]
def wsX9_nearest_r3 : List Cond := [Cond.instanceMethod yX7_isTriedBetter, Cond.selects RX7 yX7_isTriedBetter yX7_isTriedBetter, Cond.code yX7_isTriedBetter cX7_isTriedBetter 9 (some .boolean), Cond.methodLink RX7 65 yX7_gap, Cond.static yX7_gap, Cond.code yX7_gap cX7_gap 3 (some .long), Cond.methodLink RX7 72 Lib.MathLoose.abs_long.x, Cond.static Lib.MathLoose.abs_long.x, Cond.initialized "java/lang/Math", Cond.code Lib.MathLoose.abs_long.x Lib.MathLoose.abs_long.code 2 (some .long), Cond.methodLink RX7 69 yX7_priceOf, Cond.instanceMethod yX7_priceOf, Cond.selects RX7 yX7_priceOf yX7_priceOf, Cond.code yX7_priceOf cX7_priceOf 3 (some .int), Cond.fieldLink RX7 15 "OhmNets$Shop" "sortPrices" "[I"]
def wsX9_nearest : List Cond := .code yX9_nearest cX9_nearest 3 (some .int) :: ((wsX9_nearest_r1 ++ (wsX9_nearest_r2 ++ wsX9_nearest_r3)) ++ wsX90 ++ wsX70 ++ wsX00)
def wsX9_choice_r1 : List Cond := [Cond.fieldLink RX9 26 "OhmNets" "shop" "LOhmNets$Shop;", Cond.fieldLink RX9 33 "OhmNets" "answer" "LOhmNets$Fraction;", Cond.methodLink RX9 181 yX7_has, Cond.instanceMethod yX7_has, Cond.selects RX7 yX7_has yX7_has, Cond.initialized RX7, Cond.code yX7_has cX7_has 2 (some .boolean), Cond.fieldLink RX7 18 "OhmNets$Shop" "size" "I", Cond.methodLink RX7 32 yX7_isOneSort, Cond.static yX7_isOneSort, Cond.code yX7_isOneSort cX7_isOneSort 1 (some .boolean), Cond.methodLink RX7 36 yX7_firstOf, Cond.static yX7_firstOf, Cond.code yX7_firstOf cX7_firstOf 1 (some .int), Cond.methodLink RX7 40 yX7_secondOf, Cond.static yX7_secondOf, Cond.code yX7_secondOf cX7_secondOf 1 (some .int), Cond.methodLink RX9 41 yX9_isWithin, Cond.static yX9_isWithin, Cond.initialized RX9, Cond.code yX9_isWithin cX9_isWithin 3 (some .boolean), Cond.methodLink RX9 184 yX7_priceOf, Cond.instanceMethod yX7_priceOf, Cond.selects RX7 yX7_priceOf yX7_priceOf]
def wsX9_choice_r2 : List Cond := [Cond.code yX7_priceOf cX7_priceOf 3 (some .int), Cond.fieldLink RX7 15 "OhmNets$Shop" "sortPrices" "[I", Cond.methodLink RX9 188 yX7_measure, Cond.instanceMethod yX7_measure, Cond.selects RX7 yX7_measure yX7_measure, Cond.code yX7_measure cX7_measure 5 none, Cond.fieldLink RX7 9 "OhmNets$Shop" "sortOhms" "[I", Cond.methodLink RX7 43 yX0_set, Cond.instanceMethod yX0_set, Cond.selects RX0 yX0_set yX0_set, Cond.initialized RX0, Cond.code yX0_set cX0_set 5 none, Cond.fieldLink RX0 7 "OhmNets$Fraction" "upper" "J", Cond.fieldLink RX0 13 "OhmNets$Fraction" "lower" "J", Cond.methodLink RX9 130 yX0_reduce, Cond.instanceMethod yX0_reduce, Cond.selects RX0 yX0_reduce yX0_reduce, Cond.code yX0_reduce cX0_reduce 3 none, Cond.methodLink RX0 16 Lib.MathLoose.abs_long.x, Cond.static Lib.MathLoose.abs_long.x, Cond.initialized "java/lang/Math", Cond.code Lib.MathLoose.abs_long.x Lib.MathLoose.abs_long.code 2 (some .long), Cond.methodLink RX0 22 yX0_commonDivisor, Cond.static yX0_commonDivisor]
def wsX9_choice_r3 : List Cond := [Cond.code yX0_commonDivisor cX0_commonDivisor 11 (some .long), Cond.methodLink RX9 133 yX0_part, Cond.instanceMethod yX0_part, Cond.selects RX0 yX0_part yX0_part, Cond.code yX0_part cX0_part 2 (some .long)]
def wsX9_choice : List Cond := .code yX9_choice cX9_choice 3 (some .int) :: ((wsX9_choice_r1 ++ (wsX9_choice_r2 ++ wsX9_choice_r3)) ++ wsX90 ++ wsX70 ++ wsX00)
def wsX9_count_r1 : List Cond := [Cond.fieldLink RX9 19 "OhmNets" "net" "LOhmNets$Net;", Cond.fieldLink RX9 26 "OhmNets" "shop" "LOhmNets$Shop;", Cond.methodLink RX9 96 yX3_size, Cond.instanceMethod yX3_size, Cond.selects RX3 yX3_size yX3_size, Cond.initialized RX3, Cond.code yX3_size cX3_size 1 (some .int), Cond.fieldLink RX3 21 "OhmNets$Net" "size" "I", Cond.methodLink RX9 175 yX7_size, Cond.instanceMethod yX7_size, Cond.selects RX7 yX7_size yX7_size, Cond.initialized RX7, Cond.code yX7_size cX7_size 1 (some .int), Cond.fieldLink RX7 18 "OhmNets$Shop" "size" "I", Cond.methodLink RX9 191 yX3_knotsWithWires, Cond.instanceMethod yX3_knotsWithWires, Cond.selects RX3 yX3_knotsWithWires yX3_knotsWithWires, Cond.code yX3_knotsWithWires cX3_knotsWithWires 3 (some .int), Cond.fieldLink RX3 11 "OhmNets$Net" "wires" "[LOhmNets$OneWire;", Cond.fieldLink RX3 64 "OhmNets$OneWire" "first" "I", Cond.fieldLink RX3 67 "OhmNets$OneWire" "second" "I", Cond.methodLink RX9 194 yJ6_bitCount_0f7a4, Cond.static yJ6_bitCount_0f7a4, Cond.initialized RJ6]
def wsX9_count_r2 : List Cond := [Cond.code yJ6_bitCount_0f7a4 cJ6_bitCount_0f7a4 1 (some .int), Cond.constant RJ6 265 (1431655765), Cond.constant RJ6 266 (858993459), Cond.constant RJ6 267 (252645135)]
def wsX9_count : List Cond := .code yX9_count cX9_count 2 (some .int) :: ((wsX9_count_r1 ++ wsX9_count_r2) ++ wsX90 ++ wsX30 ++ wsX70 ++ wsX20 ++ wsX40 ++ wsX80)
def wsX9_trace : List Cond := .code yX9_trace cX9_trace 1 (some .long) :: ([.fieldLink RX9 37 "OhmNets" "traced" "J"] ++ wsX90)
def wsX10_init : List Cond := .code yX10_init cX10_init 1 none :: ([.methodLink RX10 1 objectInit, .instanceMethod objectInit, .code objectInit ⟨#[0xb1]⟩ 1 none, .arrayClass .int, .fieldLink RX10 7 "OhmNetsModel" "upper" "[I", .fieldLink RX10 13 "OhmNetsModel" "lower" "[I", .fieldLink RX10 16 "OhmNetsModel" "begins" "[I", .fieldLink RX10 19 "OhmNetsModel" "kind" "[I", .fieldLink RX10 22 "OhmNetsModel" "first" "[I", .fieldLink RX10 25 "OhmNetsModel" "second" "[I", .fieldLink RX10 28 "OhmNetsModel" "times" "[I", .fieldLink RX10 31 "OhmNetsModel" "by" "[I", .fieldLink RX10 34 "OhmNetsModel" "group" "[I", .fieldLink RX10 37 "OhmNetsModel" "whole" "[I", .fieldLink RX10 40 "OhmNetsModel" "from" "[I", .fieldLink RX10 43 "OhmNetsModel" "to" "[I", .arrayClass .boolean, .fieldLink RX10 46 "OhmNetsModel" "isThere" "[Z", .fieldLink RX10 50 "OhmNetsModel" "way" "[I", .fieldLink RX10 53 "OhmNetsModel" "ohms" "[I", .fieldLink RX10 56 "OhmNetsModel" "price" "[I", .fieldLink RX10 59 "OhmNetsModel" "thrown" "I"] ++ wsX100)
def wsX10_in : List Cond := .code yX10_in cX10_in 3 (some .boolean) :: ([])
def wsX10_common : List Cond := .code yX10_common cX10_common 10 (some .long) :: ([])
def wsX10_least : List Cond := .code yX10_least cX10_least 7 none :: ([.fieldLink RX10 67 "OhmNetsModel" "above" "J", .fieldLink RX10 71 "OhmNetsModel" "below" "J", .methodLink RX10 63 yX10_common, .static yX10_common, .initialized RX10, .code yX10_common cX10_common 10 (some .long)] ++ wsX100)
def wsX10_puts : List Cond := .code yX10_puts cX10_puts 8 none :: ([.fieldLink RX10 78 "OhmNetsModel" "size" "I", .fieldLink RX10 67 "OhmNetsModel" "above" "J", .fieldLink RX10 13 "OhmNetsModel" "lower" "[I", .fieldLink RX10 71 "OhmNetsModel" "below" "J", .fieldLink RX10 7 "OhmNetsModel" "upper" "[I", .methodLink RX10 74 yX10_least, .instanceMethod yX10_least, .selects RX10 yX10_least yX10_least, .initialized RX10, .code yX10_least cX10_least 7 none, .methodLink RX10 63 yX10_common, .static yX10_common, .code yX10_common cX10_common 10 (some .long)] ++ wsX100)
def wsX10_needShares : List Cond := .code yX10_needShares cX10_needShares 7 none :: ([.fieldLink RX10 81 "OhmNetsModel" "hasShares" "Z", .fieldLink RX10 78 "OhmNetsModel" "size" "I", .fieldLink RX10 16 "OhmNetsModel" "begins" "[I", .fieldLink RX10 7 "OhmNetsModel" "upper" "[I", .fieldLink RX10 13 "OhmNetsModel" "lower" "[I", .methodLink RX10 85 yX10_puts, .instanceMethod yX10_puts, .selects RX10 yX10_puts yX10_puts, .initialized RX10, .code yX10_puts cX10_puts 8 none, .fieldLink RX10 67 "OhmNetsModel" "above" "J", .fieldLink RX10 71 "OhmNetsModel" "below" "J", .methodLink RX10 74 yX10_least, .instanceMethod yX10_least, .selects RX10 yX10_least yX10_least, .code yX10_least cX10_least 7 none, .methodLink RX10 63 yX10_common, .static yX10_common, .code yX10_common cX10_common 10 (some .long)] ++ wsX100)
def wsX10_isParts : List Cond := .code yX10_isParts cX10_isParts 1 (some .boolean) :: ([.methodLink RX10 89 yX10_in, .static yX10_in, .initialized RX10, .code yX10_in cX10_in 3 (some .boolean)])
def wsX10_countOf : List Cond := .code yX10_countOf cX10_countOf 2 (some .int) :: ([.fieldLink RX10 16 "OhmNetsModel" "begins" "[I", .methodLink RX10 93 yX10_needShares, .instanceMethod yX10_needShares, .selects RX10 yX10_needShares yX10_needShares, .initialized RX10, .code yX10_needShares cX10_needShares 7 none, .fieldLink RX10 81 "OhmNetsModel" "hasShares" "Z", .fieldLink RX10 78 "OhmNetsModel" "size" "I", .fieldLink RX10 7 "OhmNetsModel" "upper" "[I", .fieldLink RX10 13 "OhmNetsModel" "lower" "[I", .methodLink RX10 85 yX10_puts, .instanceMethod yX10_puts, .selects RX10 yX10_puts yX10_puts, .code yX10_puts cX10_puts 8 none, .fieldLink RX10 67 "OhmNetsModel" "above" "J", .fieldLink RX10 71 "OhmNetsModel" "below" "J", .methodLink RX10 74 yX10_least, .instanceMethod yX10_least, .selects RX10 yX10_least yX10_least, .code yX10_least cX10_least 7 none, .methodLink RX10 63 yX10_common, .static yX10_common, .code yX10_common cX10_common 10 (some .long)] ++ wsX100)
def wsX10_isShare_r1 : List Cond := [Cond.methodLink RX10 96 yX10_isParts, Cond.static yX10_isParts, Cond.initialized RX10, Cond.code yX10_isParts cX10_isParts 1 (some .boolean), Cond.methodLink RX10 89 yX10_in, Cond.static yX10_in, Cond.code yX10_in cX10_in 3 (some .boolean), Cond.methodLink RX10 100 yX10_countOf, Cond.instanceMethod yX10_countOf, Cond.selects RX10 yX10_countOf yX10_countOf, Cond.code yX10_countOf cX10_countOf 2 (some .int), Cond.fieldLink RX10 16 "OhmNetsModel" "begins" "[I", Cond.methodLink RX10 93 yX10_needShares, Cond.instanceMethod yX10_needShares, Cond.selects RX10 yX10_needShares yX10_needShares, Cond.code yX10_needShares cX10_needShares 7 none, Cond.fieldLink RX10 81 "OhmNetsModel" "hasShares" "Z", Cond.fieldLink RX10 78 "OhmNetsModel" "size" "I", Cond.fieldLink RX10 7 "OhmNetsModel" "upper" "[I", Cond.fieldLink RX10 13 "OhmNetsModel" "lower" "[I", Cond.methodLink RX10 85 yX10_puts, Cond.instanceMethod yX10_puts, Cond.selects RX10 yX10_puts yX10_puts, Cond.code yX10_puts cX10_puts 8 none]
def wsX10_isShare_r2 : List Cond := [Cond.fieldLink RX10 67 "OhmNetsModel" "above" "J", Cond.fieldLink RX10 71 "OhmNetsModel" "below" "J", Cond.methodLink RX10 74 yX10_least, Cond.instanceMethod yX10_least, Cond.selects RX10 yX10_least yX10_least, Cond.code yX10_least cX10_least 7 none, Cond.methodLink RX10 63 yX10_common, Cond.static yX10_common, Cond.code yX10_common cX10_common 10 (some .long)]
def wsX10_isShare : List Cond := .code yX10_isShare cX10_isShare 3 (some .boolean) :: ((wsX10_isShare_r1 ++ wsX10_isShare_r2) ++ wsX100)
def wsX10_rankOf : List Cond := .code yX10_rankOf cX10_rankOf 7 (some .int) :: ([.fieldLink RX10 16 "OhmNetsModel" "begins" "[I", .fieldLink RX10 13 "OhmNetsModel" "lower" "[I", .fieldLink RX10 7 "OhmNetsModel" "upper" "[I", .methodLink RX10 93 yX10_needShares, .instanceMethod yX10_needShares, .selects RX10 yX10_needShares yX10_needShares, .initialized RX10, .code yX10_needShares cX10_needShares 7 none, .fieldLink RX10 81 "OhmNetsModel" "hasShares" "Z", .fieldLink RX10 78 "OhmNetsModel" "size" "I", .methodLink RX10 85 yX10_puts, .instanceMethod yX10_puts, .selects RX10 yX10_puts yX10_puts, .code yX10_puts cX10_puts 8 none, .fieldLink RX10 67 "OhmNetsModel" "above" "J", .fieldLink RX10 71 "OhmNetsModel" "below" "J", .methodLink RX10 74 yX10_least, .instanceMethod yX10_least, .selects RX10 yX10_least yX10_least, .code yX10_least cX10_least 7 none, .methodLink RX10 63 yX10_common, .static yX10_common, .code yX10_common cX10_common 10 (some .long)] ++ wsX100)
def wsX10_many_r1 : List Cond := [Cond.fieldLink RX10 59 "OhmNetsModel" "thrown" "I", Cond.methodLink RX10 96 yX10_isParts, Cond.static yX10_isParts, Cond.initialized RX10, Cond.code yX10_isParts cX10_isParts 1 (some .boolean), Cond.methodLink RX10 89 yX10_in, Cond.static yX10_in, Cond.code yX10_in cX10_in 3 (some .boolean), Cond.methodLink RX10 100 yX10_countOf, Cond.instanceMethod yX10_countOf, Cond.selects RX10 yX10_countOf yX10_countOf, Cond.code yX10_countOf cX10_countOf 2 (some .int), Cond.fieldLink RX10 16 "OhmNetsModel" "begins" "[I", Cond.methodLink RX10 93 yX10_needShares, Cond.instanceMethod yX10_needShares, Cond.selects RX10 yX10_needShares yX10_needShares, Cond.code yX10_needShares cX10_needShares 7 none, Cond.fieldLink RX10 81 "OhmNetsModel" "hasShares" "Z", Cond.fieldLink RX10 78 "OhmNetsModel" "size" "I", Cond.fieldLink RX10 7 "OhmNetsModel" "upper" "[I", Cond.fieldLink RX10 13 "OhmNetsModel" "lower" "[I", Cond.methodLink RX10 85 yX10_puts, Cond.instanceMethod yX10_puts, Cond.selects RX10 yX10_puts yX10_puts]
def wsX10_many_r2 : List Cond := [Cond.code yX10_puts cX10_puts 8 none, Cond.fieldLink RX10 67 "OhmNetsModel" "above" "J", Cond.fieldLink RX10 71 "OhmNetsModel" "below" "J", Cond.methodLink RX10 74 yX10_least, Cond.instanceMethod yX10_least, Cond.selects RX10 yX10_least yX10_least, Cond.code yX10_least cX10_least 7 none, Cond.methodLink RX10 63 yX10_common, Cond.static yX10_common, Cond.code yX10_common cX10_common 10 (some .long)]
def wsX10_many : List Cond := .code yX10_many cX10_many 2 (some .int) :: ((wsX10_many_r1 ++ wsX10_many_r2) ++ wsX100)
def wsX10_share_r1 : List Cond := [Cond.fieldLink RX10 59 "OhmNetsModel" "thrown" "I", Cond.fieldLink RX10 7 "OhmNetsModel" "upper" "[I", Cond.fieldLink RX10 16 "OhmNetsModel" "begins" "[I", Cond.fieldLink RX10 13 "OhmNetsModel" "lower" "[I", Cond.methodLink RX10 104 yX10_isShare, Cond.instanceMethod yX10_isShare, Cond.selects RX10 yX10_isShare yX10_isShare, Cond.initialized RX10, Cond.code yX10_isShare cX10_isShare 3 (some .boolean), Cond.methodLink RX10 96 yX10_isParts, Cond.static yX10_isParts, Cond.code yX10_isParts cX10_isParts 1 (some .boolean), Cond.methodLink RX10 89 yX10_in, Cond.static yX10_in, Cond.code yX10_in cX10_in 3 (some .boolean), Cond.methodLink RX10 100 yX10_countOf, Cond.instanceMethod yX10_countOf, Cond.selects RX10 yX10_countOf yX10_countOf, Cond.code yX10_countOf cX10_countOf 2 (some .int), Cond.methodLink RX10 93 yX10_needShares, Cond.instanceMethod yX10_needShares, Cond.selects RX10 yX10_needShares yX10_needShares, Cond.code yX10_needShares cX10_needShares 7 none, Cond.fieldLink RX10 81 "OhmNetsModel" "hasShares" "Z"]
def wsX10_share_r2 : List Cond := [Cond.fieldLink RX10 78 "OhmNetsModel" "size" "I", Cond.methodLink RX10 85 yX10_puts, Cond.instanceMethod yX10_puts, Cond.selects RX10 yX10_puts yX10_puts, Cond.code yX10_puts cX10_puts 8 none, Cond.fieldLink RX10 67 "OhmNetsModel" "above" "J", Cond.fieldLink RX10 71 "OhmNetsModel" "below" "J", Cond.methodLink RX10 74 yX10_least, Cond.instanceMethod yX10_least, Cond.selects RX10 yX10_least yX10_least, Cond.code yX10_least cX10_least 7 none, Cond.methodLink RX10 63 yX10_common, Cond.static yX10_common, Cond.code yX10_common cX10_common 10 (some .long)]
def wsX10_share : List Cond := .code yX10_share cX10_share 4 (some .int) :: ((wsX10_share_r1 ++ wsX10_share_r2) ++ wsX100)
def wsX10_isFraction : List Cond := .code yX10_isFraction cX10_isFraction 2 (some .boolean) :: ([.constant RX10 108 (1000000), .methodLink RX10 89 yX10_in, .static yX10_in, .initialized RX10, .code yX10_in cX10_in 3 (some .boolean)])
def wsX10_rank_r1 : List Cond := [Cond.fieldLink RX10 59 "OhmNetsModel" "thrown" "I", Cond.methodLink RX10 96 yX10_isParts, Cond.static yX10_isParts, Cond.initialized RX10, Cond.code yX10_isParts cX10_isParts 1 (some .boolean), Cond.methodLink RX10 89 yX10_in, Cond.static yX10_in, Cond.code yX10_in cX10_in 3 (some .boolean), Cond.methodLink RX10 109 yX10_isFraction, Cond.static yX10_isFraction, Cond.code yX10_isFraction cX10_isFraction 2 (some .boolean), Cond.constant RX10 108 (1000000), Cond.methodLink RX10 112 yX10_rankOf, Cond.instanceMethod yX10_rankOf, Cond.selects RX10 yX10_rankOf yX10_rankOf, Cond.code yX10_rankOf cX10_rankOf 7 (some .int), Cond.fieldLink RX10 16 "OhmNetsModel" "begins" "[I", Cond.fieldLink RX10 13 "OhmNetsModel" "lower" "[I", Cond.fieldLink RX10 7 "OhmNetsModel" "upper" "[I", Cond.methodLink RX10 93 yX10_needShares, Cond.instanceMethod yX10_needShares, Cond.selects RX10 yX10_needShares yX10_needShares, Cond.code yX10_needShares cX10_needShares 7 none, Cond.fieldLink RX10 81 "OhmNetsModel" "hasShares" "Z"]
def wsX10_rank_r2 : List Cond := [Cond.fieldLink RX10 78 "OhmNetsModel" "size" "I", Cond.methodLink RX10 85 yX10_puts, Cond.instanceMethod yX10_puts, Cond.selects RX10 yX10_puts yX10_puts, Cond.code yX10_puts cX10_puts 8 none, Cond.fieldLink RX10 67 "OhmNetsModel" "above" "J", Cond.fieldLink RX10 71 "OhmNetsModel" "below" "J", Cond.methodLink RX10 74 yX10_least, Cond.instanceMethod yX10_least, Cond.selects RX10 yX10_least yX10_least, Cond.code yX10_least cX10_least 7 none, Cond.methodLink RX10 63 yX10_common, Cond.static yX10_common, Cond.code yX10_common cX10_common 10 (some .long)]
def wsX10_rank : List Cond := .code yX10_rank cX10_rank 4 (some .int) :: ((wsX10_rank_r1 ++ wsX10_rank_r2) ++ wsX100)
def wsX10_fewest_r1 : List Cond := [Cond.fieldLink RX10 59 "OhmNetsModel" "thrown" "I", Cond.methodLink RX10 109 yX10_isFraction, Cond.static yX10_isFraction, Cond.initialized RX10, Cond.code yX10_isFraction cX10_isFraction 2 (some .boolean), Cond.constant RX10 108 (1000000), Cond.methodLink RX10 89 yX10_in, Cond.static yX10_in, Cond.code yX10_in cX10_in 3 (some .boolean), Cond.methodLink RX10 112 yX10_rankOf, Cond.instanceMethod yX10_rankOf, Cond.selects RX10 yX10_rankOf yX10_rankOf, Cond.code yX10_rankOf cX10_rankOf 7 (some .int), Cond.fieldLink RX10 16 "OhmNetsModel" "begins" "[I", Cond.fieldLink RX10 13 "OhmNetsModel" "lower" "[I", Cond.fieldLink RX10 7 "OhmNetsModel" "upper" "[I", Cond.methodLink RX10 93 yX10_needShares, Cond.instanceMethod yX10_needShares, Cond.selects RX10 yX10_needShares yX10_needShares, Cond.code yX10_needShares cX10_needShares 7 none, Cond.fieldLink RX10 81 "OhmNetsModel" "hasShares" "Z", Cond.fieldLink RX10 78 "OhmNetsModel" "size" "I", Cond.methodLink RX10 85 yX10_puts, Cond.instanceMethod yX10_puts]
def wsX10_fewest_r2 : List Cond := [Cond.selects RX10 yX10_puts yX10_puts, Cond.code yX10_puts cX10_puts 8 none, Cond.fieldLink RX10 67 "OhmNetsModel" "above" "J", Cond.fieldLink RX10 71 "OhmNetsModel" "below" "J", Cond.methodLink RX10 74 yX10_least, Cond.instanceMethod yX10_least, Cond.selects RX10 yX10_least yX10_least, Cond.code yX10_least cX10_least 7 none, Cond.methodLink RX10 63 yX10_common, Cond.static yX10_common, Cond.code yX10_common cX10_common 10 (some .long)]
def wsX10_fewest : List Cond := .code yX10_fewest cX10_fewest 4 (some .int) :: ((wsX10_fewest_r1 ++ wsX10_fewest_r2) ++ wsX100)
def wsX10_made_r1 : List Cond := [Cond.fieldLink RX10 59 "OhmNetsModel" "thrown" "I", Cond.fieldLink RX10 16 "OhmNetsModel" "begins" "[I", Cond.fieldLink RX10 7 "OhmNetsModel" "upper" "[I", Cond.fieldLink RX10 13 "OhmNetsModel" "lower" "[I", Cond.methodLink RX10 104 yX10_isShare, Cond.instanceMethod yX10_isShare, Cond.selects RX10 yX10_isShare yX10_isShare, Cond.initialized RX10, Cond.code yX10_isShare cX10_isShare 3 (some .boolean), Cond.methodLink RX10 96 yX10_isParts, Cond.static yX10_isParts, Cond.code yX10_isParts cX10_isParts 1 (some .boolean), Cond.methodLink RX10 89 yX10_in, Cond.static yX10_in, Cond.code yX10_in cX10_in 3 (some .boolean), Cond.methodLink RX10 100 yX10_countOf, Cond.instanceMethod yX10_countOf, Cond.selects RX10 yX10_countOf yX10_countOf, Cond.code yX10_countOf cX10_countOf 2 (some .int), Cond.methodLink RX10 93 yX10_needShares, Cond.instanceMethod yX10_needShares, Cond.selects RX10 yX10_needShares yX10_needShares, Cond.code yX10_needShares cX10_needShares 7 none, Cond.fieldLink RX10 81 "OhmNetsModel" "hasShares" "Z"]
def wsX10_made_r2 : List Cond := [Cond.fieldLink RX10 78 "OhmNetsModel" "size" "I", Cond.methodLink RX10 85 yX10_puts, Cond.instanceMethod yX10_puts, Cond.selects RX10 yX10_puts yX10_puts, Cond.code yX10_puts cX10_puts 8 none, Cond.fieldLink RX10 67 "OhmNetsModel" "above" "J", Cond.fieldLink RX10 71 "OhmNetsModel" "below" "J", Cond.methodLink RX10 74 yX10_least, Cond.instanceMethod yX10_least, Cond.selects RX10 yX10_least yX10_least, Cond.code yX10_least cX10_least 7 none, Cond.methodLink RX10 63 yX10_common, Cond.static yX10_common, Cond.code yX10_common cX10_common 10 (some .long), Cond.methodLink RX10 112 yX10_rankOf, Cond.instanceMethod yX10_rankOf, Cond.selects RX10 yX10_rankOf yX10_rankOf, Cond.code yX10_rankOf cX10_rankOf 7 (some .int)]
def wsX10_made : List Cond := .code yX10_made cX10_made 19 (some .int) :: ((wsX10_made_r1 ++ wsX10_made_r2) ++ wsX100)
def wsX10_turned_r1 : List Cond := [Cond.fieldLink RX10 59 "OhmNetsModel" "thrown" "I", Cond.fieldLink RX10 13 "OhmNetsModel" "lower" "[I", Cond.fieldLink RX10 16 "OhmNetsModel" "begins" "[I", Cond.fieldLink RX10 7 "OhmNetsModel" "upper" "[I", Cond.methodLink RX10 104 yX10_isShare, Cond.instanceMethod yX10_isShare, Cond.selects RX10 yX10_isShare yX10_isShare, Cond.initialized RX10, Cond.code yX10_isShare cX10_isShare 3 (some .boolean), Cond.methodLink RX10 96 yX10_isParts, Cond.static yX10_isParts, Cond.code yX10_isParts cX10_isParts 1 (some .boolean), Cond.methodLink RX10 89 yX10_in, Cond.static yX10_in, Cond.code yX10_in cX10_in 3 (some .boolean), Cond.methodLink RX10 100 yX10_countOf, Cond.instanceMethod yX10_countOf, Cond.selects RX10 yX10_countOf yX10_countOf, Cond.code yX10_countOf cX10_countOf 2 (some .int), Cond.methodLink RX10 93 yX10_needShares, Cond.instanceMethod yX10_needShares, Cond.selects RX10 yX10_needShares yX10_needShares, Cond.code yX10_needShares cX10_needShares 7 none, Cond.fieldLink RX10 81 "OhmNetsModel" "hasShares" "Z"]
def wsX10_turned_r2 : List Cond := [Cond.fieldLink RX10 78 "OhmNetsModel" "size" "I", Cond.methodLink RX10 85 yX10_puts, Cond.instanceMethod yX10_puts, Cond.selects RX10 yX10_puts yX10_puts, Cond.code yX10_puts cX10_puts 8 none, Cond.fieldLink RX10 67 "OhmNetsModel" "above" "J", Cond.fieldLink RX10 71 "OhmNetsModel" "below" "J", Cond.methodLink RX10 74 yX10_least, Cond.instanceMethod yX10_least, Cond.selects RX10 yX10_least yX10_least, Cond.code yX10_least cX10_least 7 none, Cond.methodLink RX10 63 yX10_common, Cond.static yX10_common, Cond.code yX10_common cX10_common 10 (some .long), Cond.methodLink RX10 112 yX10_rankOf, Cond.instanceMethod yX10_rankOf, Cond.selects RX10 yX10_rankOf yX10_rankOf, Cond.code yX10_rankOf cX10_rankOf 7 (some .int)]
def wsX10_turned : List Cond := .code yX10_turned cX10_turned 3 (some .int) :: ((wsX10_turned_r1 ++ wsX10_turned_r2) ++ wsX100)
def wsX10_isKnot : List Cond := .code yX10_isKnot cX10_isKnot 1 (some .boolean) :: ([.methodLink RX10 89 yX10_in, .static yX10_in, .initialized RX10, .code yX10_in cX10_in 3 (some .boolean)])
def wsX10_wire : List Cond := .code yX10_wire cX10_wire 6 (some .int) :: ([.fieldLink RX10 59 "OhmNetsModel" "thrown" "I", .fieldLink RX10 119 "OhmNetsModel" "wires" "I", .fieldLink RX10 19 "OhmNetsModel" "kind" "[I", .fieldLink RX10 22 "OhmNetsModel" "first" "[I", .fieldLink RX10 25 "OhmNetsModel" "second" "[I", .fieldLink RX10 28 "OhmNetsModel" "times" "[I", .fieldLink RX10 31 "OhmNetsModel" "by" "[I", .methodLink RX10 89 yX10_in, .static yX10_in, .initialized RX10, .code yX10_in cX10_in 3 (some .boolean), .methodLink RX10 116 yX10_isKnot, .static yX10_isKnot, .code yX10_isKnot cX10_isKnot 1 (some .boolean)] ++ wsX100)
def wsX10_cut : List Cond := .code yX10_cut cX10_cut 1 (some .int) :: ([.fieldLink RX10 59 "OhmNetsModel" "thrown" "I", .fieldLink RX10 119 "OhmNetsModel" "wires" "I"] ++ wsX100)
def wsX10_isWire : List Cond := .code yX10_isWire cX10_isWire 2 (some .boolean) :: ([.fieldLink RX10 119 "OhmNetsModel" "wires" "I", .methodLink RX10 89 yX10_in, .static yX10_in, .initialized RX10, .code yX10_in cX10_in 3 (some .boolean)] ++ wsX100)
def wsX10_ohms_r1 : List Cond := [Cond.fieldLink RX10 59 "OhmNetsModel" "thrown" "I", Cond.fieldLink RX10 125 "OhmNetsModel" "trace" "J", Cond.fieldLink RX10 19 "OhmNetsModel" "kind" "[I", Cond.constantLong RX10 128 (11), Cond.constantLong RX10 130 (111), Cond.fieldLink RX10 28 "OhmNetsModel" "times" "[I", Cond.fieldLink RX10 31 "OhmNetsModel" "by" "[I", Cond.fieldLink RX10 67 "OhmNetsModel" "above" "J", Cond.fieldLink RX10 71 "OhmNetsModel" "below" "J", Cond.methodLink RX10 122 yX10_isWire, Cond.instanceMethod yX10_isWire, Cond.selects RX10 yX10_isWire yX10_isWire, Cond.initialized RX10, Cond.code yX10_isWire cX10_isWire 2 (some .boolean), Cond.fieldLink RX10 119 "OhmNetsModel" "wires" "I", Cond.methodLink RX10 89 yX10_in, Cond.static yX10_in, Cond.code yX10_in cX10_in 3 (some .boolean), Cond.methodLink RX10 74 yX10_least, Cond.instanceMethod yX10_least, Cond.selects RX10 yX10_least yX10_least, Cond.code yX10_least cX10_least 7 none, Cond.methodLink RX10 63 yX10_common, Cond.static yX10_common]
def wsX10_ohms_r2 : List Cond := [Cond.code yX10_common cX10_common 10 (some .long)]
def wsX10_ohms : List Cond := .code yX10_ohms cX10_ohms 3 (some .int) :: ((wsX10_ohms_r1 ++ wsX10_ohms_r2) ++ wsX100)
def wsX10_about : List Cond := .code yX10_about cX10_about 3 (some .int) :: ([.fieldLink RX10 59 "OhmNetsModel" "thrown" "I", .fieldLink RX10 19 "OhmNetsModel" "kind" "[I", .fieldLink RX10 22 "OhmNetsModel" "first" "[I", .fieldLink RX10 25 "OhmNetsModel" "second" "[I", .methodLink RX10 122 yX10_isWire, .instanceMethod yX10_isWire, .selects RX10 yX10_isWire yX10_isWire, .initialized RX10, .code yX10_isWire cX10_isWire 2 (some .boolean), .fieldLink RX10 119 "OhmNetsModel" "wires" "I", .methodLink RX10 89 yX10_in, .static yX10_in, .code yX10_in cX10_in 3 (some .boolean)] ++ wsX100)
def wsX10_joins : List Cond := .code yX10_joins cX10_joins 7 (some .boolean) :: ([.fieldLink RX10 34 "OhmNetsModel" "group" "[I", .fieldLink RX10 119 "OhmNetsModel" "wires" "I", .fieldLink RX10 22 "OhmNetsModel" "first" "[I", .fieldLink RX10 25 "OhmNetsModel" "second" "[I"] ++ wsX100)
def wsX10_hang : List Cond := .code yX10_hang cX10_hang 4 (some .boolean) :: ([.fieldLink RX10 119 "OhmNetsModel" "wires" "I", .fieldLink RX10 37 "OhmNetsModel" "whole" "[I", .fieldLink RX10 34 "OhmNetsModel" "group" "[I", .methodLink RX10 132 yX10_joins, .instanceMethod yX10_joins, .selects RX10 yX10_joins yX10_joins, .initialized RX10, .code yX10_joins cX10_joins 7 (some .boolean), .fieldLink RX10 22 "OhmNetsModel" "first" "[I", .fieldLink RX10 25 "OhmNetsModel" "second" "[I"] ++ wsX100)
def wsX10_sizeOf : List Cond := .code yX10_sizeOf cX10_sizeOf 4 (some .int) :: ([.fieldLink RX10 37 "OhmNetsModel" "whole" "[I"] ++ wsX100)
def wsX10_bits : List Cond := .code yX10_bits cX10_bits 3 (some .int) :: ([])
def wsX10_isOf : List Cond := .code yX10_isOf cX10_isOf 5 (some .boolean) :: ([.fieldLink RX10 119 "OhmNetsModel" "wires" "I", .fieldLink RX10 37 "OhmNetsModel" "whole" "[I", .fieldLink RX10 22 "OhmNetsModel" "first" "[I"] ++ wsX100)
def wsX10_weight : List Cond := .code yX10_weight cX10_weight 5 (some .long) :: ([.fieldLink RX10 119 "OhmNetsModel" "wires" "I", .fieldLink RX10 31 "OhmNetsModel" "by" "[I", .fieldLink RX10 28 "OhmNetsModel" "times" "[I"] ++ wsX100)
def wsX10_between_r1 : List Cond := [Cond.fieldLink RX10 59 "OhmNetsModel" "thrown" "I", Cond.constantLong RX10 135 (-1), Cond.constantLong RX10 140 (-2), Cond.fieldLink RX10 119 "OhmNetsModel" "wires" "I", Cond.fieldLink RX10 34 "OhmNetsModel" "group" "[I", Cond.constantLong RX10 155 (12), Cond.fieldLink RX10 67 "OhmNetsModel" "above" "J", Cond.fieldLink RX10 71 "OhmNetsModel" "below" "J", Cond.methodLink RX10 116 yX10_isKnot, Cond.static yX10_isKnot, Cond.initialized RX10, Cond.code yX10_isKnot cX10_isKnot 1 (some .boolean), Cond.methodLink RX10 89 yX10_in, Cond.static yX10_in, Cond.code yX10_in cX10_in 3 (some .boolean), Cond.methodLink RX10 137 yX10_hang, Cond.instanceMethod yX10_hang, Cond.selects RX10 yX10_hang yX10_hang, Cond.code yX10_hang cX10_hang 4 (some .boolean), Cond.fieldLink RX10 37 "OhmNetsModel" "whole" "[I", Cond.methodLink RX10 132 yX10_joins, Cond.instanceMethod yX10_joins, Cond.selects RX10 yX10_joins yX10_joins, Cond.code yX10_joins cX10_joins 7 (some .boolean)]
def wsX10_between_r2 : List Cond := [Cond.fieldLink RX10 22 "OhmNetsModel" "first" "[I", Cond.fieldLink RX10 25 "OhmNetsModel" "second" "[I", Cond.methodLink RX10 142 yX10_sizeOf, Cond.instanceMethod yX10_sizeOf, Cond.selects RX10 yX10_sizeOf yX10_sizeOf, Cond.code yX10_sizeOf cX10_sizeOf 4 (some .int), Cond.methodLink RX10 145 yX10_bits, Cond.static yX10_bits, Cond.code yX10_bits cX10_bits 3 (some .int), Cond.methodLink RX10 148 yX10_isOf, Cond.instanceMethod yX10_isOf, Cond.selects RX10 yX10_isOf yX10_isOf, Cond.code yX10_isOf cX10_isOf 5 (some .boolean), Cond.methodLink RX10 151 yX10_weight, Cond.instanceMethod yX10_weight, Cond.selects RX10 yX10_weight yX10_weight, Cond.code yX10_weight cX10_weight 5 (some .long), Cond.fieldLink RX10 31 "OhmNetsModel" "by" "[I", Cond.fieldLink RX10 28 "OhmNetsModel" "times" "[I", Cond.methodLink RX10 74 yX10_least, Cond.instanceMethod yX10_least, Cond.selects RX10 yX10_least yX10_least, Cond.code yX10_least cX10_least 7 none, Cond.methodLink RX10 63 yX10_common]
def wsX10_between_r3 : List Cond := [Cond.static yX10_common, Cond.code yX10_common cX10_common 10 (some .long)]
def wsX10_between : List Cond := .code yX10_between cX10_between 11 (some .long) :: ((wsX10_between_r1 ++ (wsX10_between_r2 ++ wsX10_between_r3)) ++ wsX100)
def wsX10_goes : List Cond := .code yX10_goes cX10_goes 5 (some .int) :: ([.fieldLink RX10 34 "OhmNetsModel" "group" "[I", .fieldLink RX10 22 "OhmNetsModel" "first" "[I", .methodLink RX10 132 yX10_joins, .instanceMethod yX10_joins, .selects RX10 yX10_joins yX10_joins, .initialized RX10, .code yX10_joins cX10_joins 7 (some .boolean), .fieldLink RX10 119 "OhmNetsModel" "wires" "I", .fieldLink RX10 25 "OhmNetsModel" "second" "[I"] ++ wsX100)
def wsX10_through_r1 : List Cond := [Cond.fieldLink RX10 59 "OhmNetsModel" "thrown" "I", Cond.constantLong RX10 157 (-9223372036854775808), Cond.fieldLink RX10 119 "OhmNetsModel" "wires" "I", Cond.fieldLink RX10 67 "OhmNetsModel" "above" "J", Cond.fieldLink RX10 71 "OhmNetsModel" "below" "J", Cond.methodLink RX10 122 yX10_isWire, Cond.instanceMethod yX10_isWire, Cond.selects RX10 yX10_isWire yX10_isWire, Cond.initialized RX10, Cond.code yX10_isWire cX10_isWire 2 (some .boolean), Cond.methodLink RX10 89 yX10_in, Cond.static yX10_in, Cond.code yX10_in cX10_in 3 (some .boolean), Cond.methodLink RX10 116 yX10_isKnot, Cond.static yX10_isKnot, Cond.code yX10_isKnot cX10_isKnot 1 (some .boolean), Cond.methodLink RX10 137 yX10_hang, Cond.instanceMethod yX10_hang, Cond.selects RX10 yX10_hang yX10_hang, Cond.code yX10_hang cX10_hang 4 (some .boolean), Cond.fieldLink RX10 37 "OhmNetsModel" "whole" "[I", Cond.fieldLink RX10 34 "OhmNetsModel" "group" "[I", Cond.methodLink RX10 132 yX10_joins, Cond.instanceMethod yX10_joins]
def wsX10_through_r2 : List Cond := [Cond.selects RX10 yX10_joins yX10_joins, Cond.code yX10_joins cX10_joins 7 (some .boolean), Cond.fieldLink RX10 22 "OhmNetsModel" "first" "[I", Cond.fieldLink RX10 25 "OhmNetsModel" "second" "[I", Cond.methodLink RX10 142 yX10_sizeOf, Cond.instanceMethod yX10_sizeOf, Cond.selects RX10 yX10_sizeOf yX10_sizeOf, Cond.code yX10_sizeOf cX10_sizeOf 4 (some .int), Cond.methodLink RX10 145 yX10_bits, Cond.static yX10_bits, Cond.code yX10_bits cX10_bits 3 (some .int), Cond.methodLink RX10 148 yX10_isOf, Cond.instanceMethod yX10_isOf, Cond.selects RX10 yX10_isOf yX10_isOf, Cond.code yX10_isOf cX10_isOf 5 (some .boolean), Cond.methodLink RX10 151 yX10_weight, Cond.instanceMethod yX10_weight, Cond.selects RX10 yX10_weight yX10_weight, Cond.code yX10_weight cX10_weight 5 (some .long), Cond.fieldLink RX10 31 "OhmNetsModel" "by" "[I", Cond.fieldLink RX10 28 "OhmNetsModel" "times" "[I", Cond.methodLink RX10 159 yX10_goes, Cond.instanceMethod yX10_goes, Cond.selects RX10 yX10_goes yX10_goes]
def wsX10_through_r3 : List Cond := [Cond.code yX10_goes cX10_goes 5 (some .int), Cond.methodLink RX10 74 yX10_least, Cond.instanceMethod yX10_least, Cond.selects RX10 yX10_least yX10_least, Cond.code yX10_least cX10_least 7 none, Cond.methodLink RX10 63 yX10_common, Cond.static yX10_common, Cond.code yX10_common cX10_common 10 (some .long)]
def wsX10_through : List Cond := .code yX10_through cX10_through 13 (some .long) :: ((wsX10_through_r1 ++ (wsX10_through_r2 ++ wsX10_through_r3)) ++ wsX100)
def wsX10_hasWire : List Cond := .code yX10_hasWire cX10_hasWire 4 (some .boolean) :: ([.fieldLink RX10 119 "OhmNetsModel" "wires" "I", .fieldLink RX10 22 "OhmNetsModel" "first" "[I", .fieldLink RX10 25 "OhmNetsModel" "second" "[I"] ++ wsX100)
def wsX10_knots : List Cond := .code yX10_knots cX10_knots 3 (some .int) :: ([.methodLink RX10 163 yX10_hasWire, .instanceMethod yX10_hasWire, .selects RX10 yX10_hasWire yX10_hasWire, .initialized RX10, .code yX10_hasWire cX10_hasWire 4 (some .boolean), .fieldLink RX10 119 "OhmNetsModel" "wires" "I", .fieldLink RX10 22 "OhmNetsModel" "first" "[I", .fieldLink RX10 25 "OhmNetsModel" "second" "[I"] ++ wsX100)
def wsX10_trees : List Cond := .code yX10_trees cX10_trees 4 (some .int) :: ([.fieldLink RX10 59 "OhmNetsModel" "thrown" "I", .fieldLink RX10 119 "OhmNetsModel" "wires" "I", .methodLink RX10 166 yX10_knots, .instanceMethod yX10_knots, .selects RX10 yX10_knots yX10_knots, .initialized RX10, .code yX10_knots cX10_knots 3 (some .int), .methodLink RX10 163 yX10_hasWire, .instanceMethod yX10_hasWire, .selects RX10 yX10_hasWire yX10_hasWire, .code yX10_hasWire cX10_hasWire 4 (some .boolean), .fieldLink RX10 22 "OhmNetsModel" "first" "[I", .fieldLink RX10 25 "OhmNetsModel" "second" "[I", .methodLink RX10 145 yX10_bits, .static yX10_bits, .code yX10_bits cX10_bits 3 (some .int), .methodLink RX10 132 yX10_joins, .instanceMethod yX10_joins, .selects RX10 yX10_joins yX10_joins, .code yX10_joins cX10_joins 7 (some .boolean), .fieldLink RX10 34 "OhmNetsModel" "group" "[I"] ++ wsX100)
def wsX10_wiresAt : List Cond := .code yX10_wiresAt cX10_wiresAt 4 (some .int) :: ([.fieldLink RX10 119 "OhmNetsModel" "wires" "I", .fieldLink RX10 46 "OhmNetsModel" "isThere" "[Z", .fieldLink RX10 40 "OhmNetsModel" "from" "[I", .fieldLink RX10 43 "OhmNetsModel" "to" "[I"] ++ wsX100)
def wsX10_links : List Cond := .code yX10_links cX10_links 5 none :: ([.fieldLink RX10 119 "OhmNetsModel" "wires" "I", .fieldLink RX10 46 "OhmNetsModel" "isThere" "[Z", .fieldLink RX10 40 "OhmNetsModel" "from" "[I", .fieldLink RX10 43 "OhmNetsModel" "to" "[I"] ++ wsX100)
def wsX10_lessens : List Cond := .code yX10_lessens cX10_lessens 6 (some .boolean) :: ([.fieldLink RX10 119 "OhmNetsModel" "wires" "I", .fieldLink RX10 46 "OhmNetsModel" "isThere" "[Z", .fieldLink RX10 40 "OhmNetsModel" "from" "[I", .fieldLink RX10 43 "OhmNetsModel" "to" "[I", .methodLink RX10 170 yX10_wiresAt, .instanceMethod yX10_wiresAt, .selects RX10 yX10_wiresAt yX10_wiresAt, .initialized RX10, .code yX10_wiresAt cX10_wiresAt 4 (some .int), .methodLink RX10 173 yX10_links, .instanceMethod yX10_links, .selects RX10 yX10_links yX10_links, .code yX10_links cX10_links 5 none] ++ wsX100)
def wsX10_falls_r1 : List Cond := [Cond.fieldLink RX10 59 "OhmNetsModel" "thrown" "I", Cond.fieldLink RX10 119 "OhmNetsModel" "wires" "I", Cond.fieldLink RX10 40 "OhmNetsModel" "from" "[I", Cond.fieldLink RX10 22 "OhmNetsModel" "first" "[I", Cond.fieldLink RX10 43 "OhmNetsModel" "to" "[I", Cond.fieldLink RX10 25 "OhmNetsModel" "second" "[I", Cond.fieldLink RX10 46 "OhmNetsModel" "isThere" "[Z", Cond.fieldLink RX10 37 "OhmNetsModel" "whole" "[I", Cond.methodLink RX10 116 yX10_isKnot, Cond.static yX10_isKnot, Cond.initialized RX10, Cond.code yX10_isKnot cX10_isKnot 1 (some .boolean), Cond.methodLink RX10 89 yX10_in, Cond.static yX10_in, Cond.code yX10_in cX10_in 3 (some .boolean), Cond.methodLink RX10 137 yX10_hang, Cond.instanceMethod yX10_hang, Cond.selects RX10 yX10_hang yX10_hang, Cond.code yX10_hang cX10_hang 4 (some .boolean), Cond.fieldLink RX10 34 "OhmNetsModel" "group" "[I", Cond.methodLink RX10 132 yX10_joins, Cond.instanceMethod yX10_joins, Cond.selects RX10 yX10_joins yX10_joins, Cond.code yX10_joins cX10_joins 7 (some .boolean)]
def wsX10_falls_r2 : List Cond := [Cond.methodLink RX10 177 yX10_lessens, Cond.instanceMethod yX10_lessens, Cond.selects RX10 yX10_lessens yX10_lessens, Cond.code yX10_lessens cX10_lessens 6 (some .boolean), Cond.methodLink RX10 170 yX10_wiresAt, Cond.instanceMethod yX10_wiresAt, Cond.selects RX10 yX10_wiresAt yX10_wiresAt, Cond.code yX10_wiresAt cX10_wiresAt 4 (some .int), Cond.methodLink RX10 173 yX10_links, Cond.instanceMethod yX10_links, Cond.selects RX10 yX10_links yX10_links, Cond.code yX10_links cX10_links 5 none]
def wsX10_falls : List Cond := .code yX10_falls cX10_falls 7 (some .int) :: ((wsX10_falls_r1 ++ wsX10_falls_r2) ++ wsX100)
def wsX10_sort : List Cond := .code yX10_sort cX10_sort 3 (some .int) :: ([.fieldLink RX10 59 "OhmNetsModel" "thrown" "I", .fieldLink RX10 180 "OhmNetsModel" "sorts" "I", .fieldLink RX10 53 "OhmNetsModel" "ohms" "[I", .fieldLink RX10 56 "OhmNetsModel" "price" "[I", .methodLink RX10 89 yX10_in, .static yX10_in, .initialized RX10, .code yX10_in cX10_in 3 (some .boolean)] ++ wsX100)
def wsX10_isChoice : List Cond := .code yX10_isChoice cX10_isChoice 3 (some .boolean) :: ([.fieldLink RX10 180 "OhmNetsModel" "sorts" "I", .methodLink RX10 89 yX10_in, .static yX10_in, .initialized RX10, .code yX10_in cX10_in 3 (some .boolean)] ++ wsX100)
def wsX10_looks : List Cond := .code yX10_looks cX10_looks 5 (some .int) :: ([.fieldLink RX10 53 "OhmNetsModel" "ohms" "[I", .fieldLink RX10 56 "OhmNetsModel" "price" "[I", .methodLink RX10 74 yX10_least, .instanceMethod yX10_least, .selects RX10 yX10_least yX10_least, .initialized RX10, .code yX10_least cX10_least 7 none, .fieldLink RX10 67 "OhmNetsModel" "above" "J", .fieldLink RX10 71 "OhmNetsModel" "below" "J", .methodLink RX10 63 yX10_common, .static yX10_common, .code yX10_common cX10_common 10 (some .long)] ++ wsX100)
def wsX10_nearest_r1 : List Cond := [Cond.fieldLink RX10 59 "OhmNetsModel" "thrown" "I", Cond.fieldLink RX10 180 "OhmNetsModel" "sorts" "I", Cond.fieldLink RX10 67 "OhmNetsModel" "above" "J", Cond.fieldLink RX10 71 "OhmNetsModel" "below" "J", Cond.methodLink RX10 89 yX10_in, Cond.static yX10_in, Cond.initialized RX10, Cond.code yX10_in cX10_in 3 (some .boolean), Cond.methodLink RX10 183 yX10_isChoice, Cond.instanceMethod yX10_isChoice, Cond.selects RX10 yX10_isChoice yX10_isChoice, Cond.code yX10_isChoice cX10_isChoice 3 (some .boolean), Cond.methodLink RX10 186 yX10_looks, Cond.instanceMethod yX10_looks, Cond.selects RX10 yX10_looks yX10_looks, Cond.code yX10_looks cX10_looks 5 (some .int), Cond.fieldLink RX10 53 "OhmNetsModel" "ohms" "[I", Cond.fieldLink RX10 56 "OhmNetsModel" "price" "[I", Cond.methodLink RX10 74 yX10_least, Cond.instanceMethod yX10_least, Cond.selects RX10 yX10_least yX10_least, Cond.code yX10_least cX10_least 7 none, Cond.methodLink RX10 63 yX10_common, Cond.static yX10_common]
def wsX10_nearest_r2 : List Cond := [Cond.code yX10_common cX10_common 10 (some .long)]
def wsX10_nearest : List Cond := .code yX10_nearest cX10_nearest 17 (some .int) :: ((wsX10_nearest_r1 ++ wsX10_nearest_r2) ++ wsX100)
def wsX10_choice_r1 : List Cond := [Cond.fieldLink RX10 59 "OhmNetsModel" "thrown" "I", Cond.fieldLink RX10 67 "OhmNetsModel" "above" "J", Cond.fieldLink RX10 71 "OhmNetsModel" "below" "J", Cond.methodLink RX10 183 yX10_isChoice, Cond.instanceMethod yX10_isChoice, Cond.selects RX10 yX10_isChoice yX10_isChoice, Cond.initialized RX10, Cond.code yX10_isChoice cX10_isChoice 3 (some .boolean), Cond.fieldLink RX10 180 "OhmNetsModel" "sorts" "I", Cond.methodLink RX10 89 yX10_in, Cond.static yX10_in, Cond.code yX10_in cX10_in 3 (some .boolean), Cond.methodLink RX10 186 yX10_looks, Cond.instanceMethod yX10_looks, Cond.selects RX10 yX10_looks yX10_looks, Cond.code yX10_looks cX10_looks 5 (some .int), Cond.fieldLink RX10 53 "OhmNetsModel" "ohms" "[I", Cond.fieldLink RX10 56 "OhmNetsModel" "price" "[I", Cond.methodLink RX10 74 yX10_least, Cond.instanceMethod yX10_least, Cond.selects RX10 yX10_least yX10_least, Cond.code yX10_least cX10_least 7 none, Cond.methodLink RX10 63 yX10_common, Cond.static yX10_common]
def wsX10_choice_r2 : List Cond := [Cond.code yX10_common cX10_common 10 (some .long)]
def wsX10_choice : List Cond := .code yX10_choice cX10_choice 4 (some .int) :: ((wsX10_choice_r1 ++ wsX10_choice_r2) ++ wsX100)
def wsX10_count : List Cond := .code yX10_count cX10_count 2 (some .int) :: ([.fieldLink RX10 59 "OhmNetsModel" "thrown" "I", .fieldLink RX10 119 "OhmNetsModel" "wires" "I", .fieldLink RX10 180 "OhmNetsModel" "sorts" "I", .methodLink RX10 166 yX10_knots, .instanceMethod yX10_knots, .selects RX10 yX10_knots yX10_knots, .initialized RX10, .code yX10_knots cX10_knots 3 (some .int), .methodLink RX10 163 yX10_hasWire, .instanceMethod yX10_hasWire, .selects RX10 yX10_hasWire yX10_hasWire, .code yX10_hasWire cX10_hasWire 4 (some .boolean), .fieldLink RX10 22 "OhmNetsModel" "first" "[I", .fieldLink RX10 25 "OhmNetsModel" "second" "[I"] ++ wsX100)
def wsX10_trace : List Cond := .code yX10_trace cX10_trace 1 (some .long) :: ([.fieldLink RX10 59 "OhmNetsModel" "thrown" "I", .fieldLink RX10 125 "OhmNetsModel" "trace" "J"] ++ wsX100)
def wsJ9_abs_067f4 : List Cond := .code yJ9_abs_067f4 cJ9_abs_067f4 2 (some .long) :: ([])
def wsJ9_max_7cf53 : List Cond := .code yJ9_max_7cf53 cJ9_max_7cf53 2 (some .int) :: ([])
def wsJ9_min_7cf53 : List Cond := .code yJ9_min_7cf53 cJ9_min_7cf53 2 (some .int) :: ([])
abbrev vwCl : List vw_C := [(RJx4a65c, TJx4a65c, 3), (RX0, TX0, 2), (RX1, TX1, 3), (RX2, TX2, 4), (RX3, TX3, 8), (RX4, TX4, 3), (RX5, TX5, 6), (RX6, TX6, 1), (RX7, TX7, 5), (RX8, TX8, 5), (RX9, TX9, 5), (RX10, TX10, 24)]
end
section
theorem dX0_init_0 : decode cX0_init 0 = .ok (.aload_n 0, 1) := by decide +kernel
theorem dX0_init_1 : decode cX0_init 1 = .ok (.invokespecial 1, 3) := by decide +kernel
theorem dX0_init_4 : decode cX0_init 4 = .ok (.aload_n 0, 1) := by decide +kernel
theorem dX0_init_5 : decode cX0_init 5 = .ok (.lconst 0, 1) := by decide +kernel
theorem dX0_init_6 : decode cX0_init 6 = .ok (.putfield 7, 3) := by decide +kernel
theorem dX0_init_9 : decode cX0_init 9 = .ok (.aload_n 0, 1) := by decide +kernel
theorem dX0_init_10 : decode cX0_init 10 = .ok (.lconst 1, 1) := by decide +kernel
theorem dX0_init_11 : decode cX0_init 11 = .ok (.putfield 13, 3) := by decide +kernel
theorem dX0_init_14 : decode cX0_init 14 = .ok (.return_, 1) := by decide +kernel
theorem dX0_set_0 : decode cX0_set 0 = .ok (.aload_n 0, 1) := by decide +kernel
theorem dX0_set_1 : decode cX0_set 1 = .ok (.lload_n 1, 1) := by decide +kernel
theorem dX0_set_2 : decode cX0_set 2 = .ok (.putfield 7, 3) := by decide +kernel
theorem dX0_set_5 : decode cX0_set 5 = .ok (.aload_n 0, 1) := by decide +kernel
theorem dX0_set_6 : decode cX0_set 6 = .ok (.lload_n 3, 1) := by decide +kernel
theorem dX0_set_7 : decode cX0_set 7 = .ok (.putfield 13, 3) := by decide +kernel
theorem dX0_set_10 : decode cX0_set 10 = .ok (.return_, 1) := by decide +kernel
set_option maxRecDepth 20000 in
theorem ggX0_reduce_X0_commonDivisor : GoodIn wsX0_reduce wsX0_commonDivisor := goodIn_r _ [10] (by decide +kernel) (by decide +kernel)
set_option maxRecDepth 20000 in
theorem gX0_reduce_X0_commonDivisor : GoodIn wsX0_reduce (va_wsS RX0 22 yX0_commonDivisor wsX0_commonDivisor) := goodIn_app (goodIn_of _ (by decide +kernel)) ggX0_reduce_X0_commonDivisor
theorem dX0_reduce_0 : decode cX0_reduce 0 = .ok (.aload_n 0, 1) := by decide +kernel
theorem dX0_reduce_1 : decode cX0_reduce 1 = .ok (.getfield 7, 3) := by decide +kernel
theorem dX0_reduce_4 : decode cX0_reduce 4 = .ok (.invokestatic 16, 3) := by decide +kernel
theorem dX0_reduce_7 : decode cX0_reduce 7 = .ok (.aload_n 0, 1) := by decide +kernel
theorem dX0_reduce_8 : decode cX0_reduce 8 = .ok (.getfield 13, 3) := by decide +kernel
theorem dX0_reduce_11 : decode cX0_reduce 11 = .ok (.invokestatic 22, 3) := by decide +kernel
theorem dX0_reduce_14 : decode cX0_reduce 14 = .ok (.lstore_n 1, 1) := by decide +kernel
theorem dX0_reduce_15 : decode cX0_reduce 15 = .ok (.lload_n 1, 1) := by decide +kernel
theorem dX0_reduce_16 : decode cX0_reduce 16 = .ok (.lconst 1, 1) := by decide +kernel
theorem dX0_reduce_17 : decode cX0_reduce 17 = .ok (.lcmp, 1) := by decide +kernel
theorem dX0_reduce_18 : decode cX0_reduce 18 = .ok (.ifCond .le 23, 3) := by decide +kernel
theorem dX0_reduce_21 : decode cX0_reduce 21 = .ok (.aload_n 0, 1) := by decide +kernel
theorem dX0_reduce_22 : decode cX0_reduce 22 = .ok (.dup, 1) := by decide +kernel
theorem dX0_reduce_23 : decode cX0_reduce 23 = .ok (.getfield 7, 3) := by decide +kernel
theorem dX0_reduce_26 : decode cX0_reduce 26 = .ok (.lload_n 1, 1) := by decide +kernel
theorem dX0_reduce_27 : decode cX0_reduce 27 = .ok (.ldiv, 1) := by decide +kernel
theorem dX0_reduce_28 : decode cX0_reduce 28 = .ok (.putfield 7, 3) := by decide +kernel
theorem dX0_reduce_31 : decode cX0_reduce 31 = .ok (.aload_n 0, 1) := by decide +kernel
theorem dX0_reduce_32 : decode cX0_reduce 32 = .ok (.dup, 1) := by decide +kernel
theorem dX0_reduce_33 : decode cX0_reduce 33 = .ok (.getfield 13, 3) := by decide +kernel
theorem dX0_reduce_36 : decode cX0_reduce 36 = .ok (.lload_n 1, 1) := by decide +kernel
theorem dX0_reduce_37 : decode cX0_reduce 37 = .ok (.ldiv, 1) := by decide +kernel
theorem dX0_reduce_38 : decode cX0_reduce 38 = .ok (.putfield 13, 3) := by decide +kernel
theorem dX0_reduce_41 : decode cX0_reduce 41 = .ok (.return_, 1) := by decide +kernel
theorem dX0_part_0 : decode cX0_part 0 = .ok (.iload_n 1, 1) := by decide +kernel
theorem dX0_part_1 : decode cX0_part 1 = .ok (.ifCond .ne 10, 3) := by decide +kernel
theorem dX0_part_4 : decode cX0_part 4 = .ok (.aload_n 0, 1) := by decide +kernel
theorem dX0_part_5 : decode cX0_part 5 = .ok (.getfield 7, 3) := by decide +kernel
theorem dX0_part_8 : decode cX0_part 8 = .ok (.goto 7, 3) := by decide +kernel
theorem dX0_part_11 : decode cX0_part 11 = .ok (.aload_n 0, 1) := by decide +kernel
theorem dX0_part_12 : decode cX0_part 12 = .ok (.getfield 13, 3) := by decide +kernel
theorem dX0_part_15 : decode cX0_part 15 = .ok (.lreturn, 1) := by decide +kernel
theorem dX0_commonDivisor_0 : decode cX0_commonDivisor 0 = .ok (.lload_n 0, 1) := by decide +kernel
theorem dX0_commonDivisor_1 : decode cX0_commonDivisor 1 = .ok (.lstore 4, 2) := by decide +kernel
theorem dX0_commonDivisor_3 : decode cX0_commonDivisor 3 = .ok (.lload_n 2, 1) := by decide +kernel
theorem dX0_commonDivisor_4 : decode cX0_commonDivisor 4 = .ok (.lstore 6, 2) := by decide +kernel
theorem dX0_commonDivisor_6 : decode cX0_commonDivisor 6 = .ok (.iconst 0, 1) := by decide +kernel
theorem dX0_commonDivisor_7 : decode cX0_commonDivisor 7 = .ok (.istore 8, 2) := by decide +kernel
theorem dX0_commonDivisor_9 : decode cX0_commonDivisor 9 = .ok (.iload 8, 2) := by decide +kernel
theorem dX0_commonDivisor_11 : decode cX0_commonDivisor 11 = .ok (.bipush 100, 2) := by decide +kernel
theorem dX0_commonDivisor_13 : decode cX0_commonDivisor 13 = .ok (.if_icmp .ge 31, 3) := by decide +kernel
theorem dX0_commonDivisor_16 : decode cX0_commonDivisor 16 = .ok (.lload 6, 2) := by decide +kernel
theorem dX0_commonDivisor_18 : decode cX0_commonDivisor 18 = .ok (.lconst 0, 1) := by decide +kernel
theorem dX0_commonDivisor_19 : decode cX0_commonDivisor 19 = .ok (.lcmp, 1) := by decide +kernel
theorem dX0_commonDivisor_20 : decode cX0_commonDivisor 20 = .ok (.ifCond .eq 24, 3) := by decide +kernel
theorem dX0_commonDivisor_23 : decode cX0_commonDivisor 23 = .ok (.lload 4, 2) := by decide +kernel
theorem dX0_commonDivisor_25 : decode cX0_commonDivisor 25 = .ok (.lload 6, 2) := by decide +kernel
theorem dX0_commonDivisor_27 : decode cX0_commonDivisor 27 = .ok (.lrem, 1) := by decide +kernel
theorem dX0_commonDivisor_28 : decode cX0_commonDivisor 28 = .ok (.lstore 9, 2) := by decide +kernel
theorem dX0_commonDivisor_30 : decode cX0_commonDivisor 30 = .ok (.lload 6, 2) := by decide +kernel
theorem dX0_commonDivisor_32 : decode cX0_commonDivisor 32 = .ok (.lstore 4, 2) := by decide +kernel
theorem dX0_commonDivisor_34 : decode cX0_commonDivisor 34 = .ok (.lload 9, 2) := by decide +kernel
theorem dX0_commonDivisor_36 : decode cX0_commonDivisor 36 = .ok (.lstore 6, 2) := by decide +kernel
theorem dX0_commonDivisor_38 : decode cX0_commonDivisor 38 = .ok (.iinc 8 1, 3) := by decide +kernel
theorem dX0_commonDivisor_41 : decode cX0_commonDivisor 41 = .ok (.goto (-32), 3) := by decide +kernel
theorem dX0_commonDivisor_44 : decode cX0_commonDivisor 44 = .ok (.lload 4, 2) := by decide +kernel
theorem dX0_commonDivisor_46 : decode cX0_commonDivisor 46 = .ok (.lreturn, 1) := by decide +kernel
set_option maxRecDepth 20000 in
theorem ggX1_init_X0_init : GoodIn wsX1_init wsX0_init := goodIn_r _ [14, 15, 2, 3, 16, 17, 43, 44] (by decide +kernel) (by decide +kernel)
set_option maxRecDepth 20000 in
theorem gX1_init_X0_init_n19 : GoodIn wsX1_init (wsX0_init) := ggX1_init_X0_init
set_option maxRecDepth 20000 in
theorem ggX1_init_X6_init : GoodIn wsX1_init wsX6_init := goodIn_r _ [19, 20, 2, 3, 21, 22, 23, 24, 25, 26, 27, 28, 29, 30, 31, 32, 33, 34, 35, 36, 37, 38, 39, 46, 47, 48, 45] (by decide +kernel) (by decide +kernel)
set_option maxRecDepth 20000 in
theorem gX1_init_X6_init_n28 : GoodIn wsX1_init (wsX6_init) := ggX1_init_X6_init
theorem dX1_init_0 : decode cX1_init 0 = .ok (.aload_n 0, 1) := by decide +kernel
theorem dX1_init_1 : decode cX1_init 1 = .ok (.invokespecial 3, 3) := by decide +kernel
theorem dX1_init_4 : decode cX1_init 4 = .ok (.aload_n 0, 1) := by decide +kernel
theorem dX1_init_5 : decode cX1_init 5 = .ok (.bipush 9, 2) := by decide +kernel
theorem dX1_init_7 : decode cX1_init 7 = .ok (.anewarray 9, 3) := by decide +kernel
theorem dX1_init_10 : decode cX1_init 10 = .ok (.putfield 11, 3) := by decide +kernel
theorem dX1_init_13 : decode cX1_init 13 = .ok (.aload_n 0, 1) := by decide +kernel
theorem dX1_init_14 : decode cX1_init 14 = .ok (.new 17, 3) := by decide +kernel
theorem dX1_init_17 : decode cX1_init 17 = .ok (.dup, 1) := by decide +kernel
theorem dX1_init_18 : decode cX1_init 18 = .ok (.invokespecial 19, 3) := by decide +kernel
theorem dX1_init_21 : decode cX1_init 21 = .ok (.putfield 20, 3) := by decide +kernel
theorem dX1_init_24 : decode cX1_init 24 = .ok (.aload_n 0, 1) := by decide +kernel
theorem dX1_init_25 : decode cX1_init 25 = .ok (.iconst 0, 1) := by decide +kernel
theorem dX1_init_26 : decode cX1_init 26 = .ok (.putfield 24, 3) := by decide +kernel
theorem dX1_init_29 : decode cX1_init 29 = .ok (.iconst 0, 1) := by decide +kernel
theorem dX1_init_30 : decode cX1_init 30 = .ok (.istore_n 1, 1) := by decide +kernel
theorem dX1_init_31 : decode cX1_init 31 = .ok (.iload_n 1, 1) := by decide +kernel
theorem dX1_init_32 : decode cX1_init 32 = .ok (.bipush 9, 2) := by decide +kernel
theorem dX1_init_34 : decode cX1_init 34 = .ok (.if_icmp .ge 22, 3) := by decide +kernel
theorem dX1_init_37 : decode cX1_init 37 = .ok (.aload_n 0, 1) := by decide +kernel
theorem dX1_init_38 : decode cX1_init 38 = .ok (.getfield 11, 3) := by decide +kernel
theorem dX1_init_41 : decode cX1_init 41 = .ok (.iload_n 1, 1) := by decide +kernel
theorem dX1_init_42 : decode cX1_init 42 = .ok (.new 9, 3) := by decide +kernel
theorem dX1_init_45 : decode cX1_init 45 = .ok (.dup, 1) := by decide +kernel
theorem dX1_init_46 : decode cX1_init 46 = .ok (.invokespecial 28, 3) := by decide +kernel
theorem dX1_init_49 : decode cX1_init 49 = .ok (.aastore, 1) := by decide +kernel
theorem dX1_init_50 : decode cX1_init 50 = .ok (.iinc 1 1, 3) := by decide +kernel
theorem dX1_init_53 : decode cX1_init 53 = .ok (.goto (-22), 3) := by decide +kernel
theorem dX1_init_56 : decode cX1_init 56 = .ok (.return_, 1) := by decide +kernel
set_option maxRecDepth 20000 in
theorem ggX1_sharesOf_X1_fill : GoodIn wsX1_sharesOf wsX1_fill := goodIn_r _ [7, 8, 2, 9, 10, 11, 12, 13, 14, 15, 16, 17, 18, 19, 20, 21, 22, 23, 24, 25, 26, 27, 28, 29, 30, 31, 32, 33, 34, 35, 36, 37, 38, 39, 40, 41, 42, 43, 44, 45, 46, 47, 48, 49, 50, 51, 52, 53, 54, 55, 56, 57, 58, 59, 60, 61, 62, 63, 64, 65, 66, 67, 68, 69, 70, 71, 72, 73, 74, 75, 76, 77, 78, 79, 80, 81, 82, 83, 84, 85, 86, 87, 88, 89, 90, 91, 92, 93, 94, 95, 96, 97, 98, 99, 100, 101, 102, 103, 104, 105, 106, 107, 108, 109, 110, 111, 112, 113, 114, 115, 116, 117, 118, 119, 120, 121, 122, 123, 124, 125, 126, 127, 128, 129, 130, 131, 132, 133, 134, 135, 136, 137, 138, 139, 140, 141, 142, 143, 144, 145, 146, 6, 147, 148, 149, 150, 151, 152, 153, 154, 155, 156, 157, 158, 159, 160, 161, 162, 163, 164, 165, 166, 167, 168, 169, 170, 171, 172, 173, 174, 175, 176] (by decide +kernel) (by decide +kernel)
set_option maxRecDepth 20000 in
theorem gX1_sharesOf_X1_fill : GoodIn wsX1_sharesOf (wsV RX1 29 RX1 yX1_fill wsX1_fill) := goodIn_app (goodIn_of _ (by decide +kernel)) ggX1_sharesOf_X1_fill
theorem dX1_sharesOf_0 : decode cX1_sharesOf 0 = .ok (.aload_n 0, 1) := by decide +kernel
theorem dX1_sharesOf_1 : decode cX1_sharesOf 1 = .ok (.getfield 24, 3) := by decide +kernel
theorem dX1_sharesOf_4 : decode cX1_sharesOf 4 = .ok (.iconst 1, 1) := by decide +kernel
theorem dX1_sharesOf_5 : decode cX1_sharesOf 5 = .ok (.iadd, 1) := by decide +kernel
theorem dX1_sharesOf_6 : decode cX1_sharesOf 6 = .ok (.istore_n 2, 1) := by decide +kernel
theorem dX1_sharesOf_7 : decode cX1_sharesOf 7 = .ok (.iload_n 2, 1) := by decide +kernel
theorem dX1_sharesOf_8 : decode cX1_sharesOf 8 = .ok (.iload_n 1, 1) := by decide +kernel
theorem dX1_sharesOf_9 : decode cX1_sharesOf 9 = .ok (.if_icmp .gt 19, 3) := by decide +kernel
theorem dX1_sharesOf_12 : decode cX1_sharesOf 12 = .ok (.aload_n 0, 1) := by decide +kernel
theorem dX1_sharesOf_13 : decode cX1_sharesOf 13 = .ok (.iload_n 2, 1) := by decide +kernel
theorem dX1_sharesOf_14 : decode cX1_sharesOf 14 = .ok (.invokevirtual 29, 3) := by decide +kernel
theorem dX1_sharesOf_17 : decode cX1_sharesOf 17 = .ok (.aload_n 0, 1) := by decide +kernel
theorem dX1_sharesOf_18 : decode cX1_sharesOf 18 = .ok (.iload_n 2, 1) := by decide +kernel
theorem dX1_sharesOf_19 : decode cX1_sharesOf 19 = .ok (.putfield 24, 3) := by decide +kernel
theorem dX1_sharesOf_22 : decode cX1_sharesOf 22 = .ok (.iinc 2 1, 3) := by decide +kernel
theorem dX1_sharesOf_25 : decode cX1_sharesOf 25 = .ok (.goto (-18), 3) := by decide +kernel
theorem dX1_sharesOf_28 : decode cX1_sharesOf 28 = .ok (.aload_n 0, 1) := by decide +kernel
theorem dX1_sharesOf_29 : decode cX1_sharesOf 29 = .ok (.getfield 11, 3) := by decide +kernel
theorem dX1_sharesOf_32 : decode cX1_sharesOf 32 = .ok (.iload_n 1, 1) := by decide +kernel
theorem dX1_sharesOf_33 : decode cX1_sharesOf 33 = .ok (.iconst 1, 1) := by decide +kernel
theorem dX1_sharesOf_34 : decode cX1_sharesOf 34 = .ok (.isub, 1) := by decide +kernel
theorem dX1_sharesOf_35 : decode cX1_sharesOf 35 = .ok (.aaload, 1) := by decide +kernel
theorem dX1_sharesOf_36 : decode cX1_sharesOf 36 = .ok (.areturn, 1) := by decide +kernel
set_option maxRecDepth 20000 in
theorem ggX1_fill_X0_set : GoodIn wsX1_fill wsX0_set := goodIn_r _ [7, 8, 9, 160, 161] (by decide +kernel) (by decide +kernel)
set_option maxRecDepth 20000 in
theorem gX1_fill_X0_set : GoodIn wsX1_fill (wsV RX1 33 RX0 yX0_set wsX0_set) := goodIn_app (goodIn_of _ (by decide +kernel)) ggX1_fill_X0_set
set_option maxRecDepth 20000 in
theorem ggX1_fill_X6_offer : GoodIn wsX1_fill wsX6_offer := goodIn_r _ [14, 15, 16, 17, 18, 19, 20, 21, 22, 23, 13, 24, 25, 26, 27, 28, 29, 30, 31, 32, 33, 34, 35, 36, 37, 38, 39, 40, 41, 42, 43, 44, 45, 46, 47, 48, 49, 50, 51, 52, 53, 54, 55, 56, 57, 58, 59, 60, 61, 62, 63, 64, 6, 65, 8, 66, 67, 68, 69, 9, 70, 71, 72, 73, 74, 75, 76, 77, 78, 79, 80, 81, 82, 83, 84, 85, 86, 87, 88, 89, 90, 91, 92, 93, 94, 95, 96, 97, 98, 99, 100, 101, 102, 103, 104, 105, 106, 107, 108, 109, 110, 111, 112, 113, 114, 115, 116, 117, 118, 119, 120, 121, 122, 123, 124, 125, 126, 127, 128, 129, 130, 131, 132, 133, 134, 135, 136, 137, 160, 161, 162, 163, 164, 165, 166, 167, 168, 169, 170, 171] (by decide +kernel) (by decide +kernel)
set_option maxRecDepth 20000 in
theorem gX1_fill_X6_offer : GoodIn wsX1_fill (wsV RX1 37 RX6 yX6_offer wsX6_offer) := goodIn_app (goodIn_of _ (by decide +kernel)) ggX1_fill_X6_offer
set_option maxRecDepth 20000 in
theorem ggX1_fill_X1_offerPairs : GoodIn wsX1_fill wsX1_offerPairs := goodIn_r _ [142, 2, 1, 143, 144, 145, 13, 146, 17, 26, 27, 28, 29, 30, 31, 147, 148, 149, 150, 25, 32, 33, 34, 35, 36, 37, 38, 39, 40, 41, 42, 43, 44, 45, 46, 47, 48, 151, 152, 153, 141, 154, 155, 156, 3, 4, 5, 6, 7, 8, 9, 10, 11, 12, 14, 15, 16, 18, 19, 20, 21, 22, 23, 24, 49, 50, 51, 52, 53, 54, 55, 56, 57, 58, 59, 60, 61, 62, 63, 64, 65, 66, 67, 68, 69, 70, 71, 72, 73, 74, 75, 76, 77, 78, 79, 80, 81, 82, 83, 84, 85, 86, 87, 88, 89, 90, 91, 92, 93, 94, 95, 96, 97, 98, 99, 100, 101, 102, 103, 104, 105, 106, 107, 108, 109, 110, 111, 112, 113, 114, 115, 116, 117, 118, 119, 120, 121, 122, 123, 124, 125, 126, 127, 128, 129, 130, 131, 132, 133, 134, 135, 136, 137, 157, 158, 159, 162, 169, 170, 171, 163, 164, 165, 166, 167, 168, 160, 161] (by decide +kernel) (by decide +kernel)
set_option maxRecDepth 20000 in
theorem gX1_fill_X1_offerPairs : GoodIn wsX1_fill (wsV RX1 41 RX1 yX1_offerPairs wsX1_offerPairs) := goodIn_app (goodIn_of _ (by decide +kernel)) ggX1_fill_X1_offerPairs
theorem dX1_fill_0 : decode cX1_fill 0 = .ok (.iload_n 1, 1) := by decide +kernel
theorem dX1_fill_1 : decode cX1_fill 1 = .ok (.iconst 1, 1) := by decide +kernel
theorem dX1_fill_2 : decode cX1_fill 2 = .ok (.if_icmp .ne 33, 3) := by decide +kernel
theorem dX1_fill_5 : decode cX1_fill 5 = .ok (.aload_n 0, 1) := by decide +kernel
theorem dX1_fill_6 : decode cX1_fill 6 = .ok (.getfield 20, 3) := by decide +kernel
theorem dX1_fill_9 : decode cX1_fill 9 = .ok (.lconst 1, 1) := by decide +kernel
theorem dX1_fill_10 : decode cX1_fill 10 = .ok (.lconst 1, 1) := by decide +kernel
theorem dX1_fill_11 : decode cX1_fill 11 = .ok (.invokevirtual 33, 3) := by decide +kernel
theorem dX1_fill_14 : decode cX1_fill 14 = .ok (.aload_n 0, 1) := by decide +kernel
theorem dX1_fill_15 : decode cX1_fill 15 = .ok (.getfield 11, 3) := by decide +kernel
theorem dX1_fill_18 : decode cX1_fill 18 = .ok (.iconst 0, 1) := by decide +kernel
theorem dX1_fill_19 : decode cX1_fill 19 = .ok (.aaload, 1) := by decide +kernel
theorem dX1_fill_20 : decode cX1_fill 20 = .ok (.aload_n 0, 1) := by decide +kernel
theorem dX1_fill_21 : decode cX1_fill 21 = .ok (.getfield 20, 3) := by decide +kernel
theorem dX1_fill_24 : decode cX1_fill 24 = .ok (.iconst 0, 1) := by decide +kernel
theorem dX1_fill_25 : decode cX1_fill 25 = .ok (.bipush (-9), 2) := by decide +kernel
theorem dX1_fill_27 : decode cX1_fill 27 = .ok (.bipush (-9), 2) := by decide +kernel
theorem dX1_fill_29 : decode cX1_fill 29 = .ok (.bipush (-9), 2) := by decide +kernel
theorem dX1_fill_31 : decode cX1_fill 31 = .ok (.invokevirtual 37, 3) := by decide +kernel
theorem dX1_fill_34 : decode cX1_fill 34 = .ok (.return_, 1) := by decide +kernel
theorem dX1_fill_35 : decode cX1_fill 35 = .ok (.iconst 1, 1) := by decide +kernel
theorem dX1_fill_36 : decode cX1_fill 36 = .ok (.istore_n 2, 1) := by decide +kernel
theorem dX1_fill_37 : decode cX1_fill 37 = .ok (.iload_n 2, 1) := by decide +kernel
theorem dX1_fill_38 : decode cX1_fill 38 = .ok (.iconst 2, 1) := by decide +kernel
theorem dX1_fill_39 : decode cX1_fill 39 = .ok (.if_icmp .gt 31, 3) := by decide +kernel
theorem dX1_fill_42 : decode cX1_fill 42 = .ok (.iconst 1, 1) := by decide +kernel
theorem dX1_fill_43 : decode cX1_fill 43 = .ok (.istore_n 3, 1) := by decide +kernel
theorem dX1_fill_44 : decode cX1_fill 44 = .ok (.iload_n 3, 1) := by decide +kernel
theorem dX1_fill_45 : decode cX1_fill 45 = .ok (.iload_n 1, 1) := by decide +kernel
theorem dX1_fill_46 : decode cX1_fill 46 = .ok (.iload_n 3, 1) := by decide +kernel
theorem dX1_fill_47 : decode cX1_fill 47 = .ok (.isub, 1) := by decide +kernel
theorem dX1_fill_48 : decode cX1_fill 48 = .ok (.if_icmp .gt 16, 3) := by decide +kernel
theorem dX1_fill_51 : decode cX1_fill 51 = .ok (.aload_n 0, 1) := by decide +kernel
theorem dX1_fill_52 : decode cX1_fill 52 = .ok (.iload_n 1, 1) := by decide +kernel
theorem dX1_fill_53 : decode cX1_fill 53 = .ok (.iload_n 2, 1) := by decide +kernel
theorem dX1_fill_54 : decode cX1_fill 54 = .ok (.iload_n 3, 1) := by decide +kernel
theorem dX1_fill_55 : decode cX1_fill 55 = .ok (.invokevirtual 41, 3) := by decide +kernel
theorem dX1_fill_58 : decode cX1_fill 58 = .ok (.iinc 3 1, 3) := by decide +kernel
theorem dX1_fill_61 : decode cX1_fill 61 = .ok (.goto (-17), 3) := by decide +kernel
theorem dX1_fill_64 : decode cX1_fill 64 = .ok (.iinc 2 1, 3) := by decide +kernel
theorem dX1_fill_67 : decode cX1_fill 67 = .ok (.goto (-30), 3) := by decide +kernel
theorem dX1_fill_70 : decode cX1_fill 70 = .ok (.return_, 1) := by decide +kernel
set_option maxRecDepth 20000 in
theorem ggX1_offerPairs_X6_size : GoodIn wsX1_offerPairs wsX6_size := goodIn_r _ [7, 8, 9, 10, 11, 12, 13, 14, 156, 157, 158, 159] (by decide +kernel) (by decide +kernel)
set_option maxRecDepth 20000 in
theorem gX1_offerPairs_X6_size : GoodIn wsX1_offerPairs (wsV RX1 45 RX6 yX6_size wsX6_size) := goodIn_app (goodIn_of _ (by decide +kernel)) ggX1_offerPairs_X6_size
set_option maxRecDepth 20000 in
theorem ggX1_offerPairs_X6_at : GoodIn wsX1_offerPairs wsX6_at := goodIn_r _ [18, 8, 19, 9, 10, 11, 12, 13, 14, 20, 21, 22, 23, 24, 25, 26, 27, 28, 29, 30, 31, 32, 33, 34, 35, 36, 156, 157, 158, 159] (by decide +kernel) (by decide +kernel)
set_option maxRecDepth 20000 in
theorem gX1_offerPairs_X6_at : GoodIn wsX1_offerPairs (wsV RX1 49 RX6 yX6_at wsX6_at) := goodIn_app (goodIn_of _ (by decide +kernel)) ggX1_offerPairs_X6_at
set_option maxRecDepth 20000 in
theorem ggX1_offerPairs_X1_join : GoodIn wsX1_offerPairs wsX1_join := goodIn_r _ [41, 42, 43, 2, 44, 45, 46, 47, 48, 49, 50, 160, 161, 162, 163, 164, 165, 153, 154, 155, 166, 167] (by decide +kernel) (by decide +kernel)
set_option maxRecDepth 20000 in
theorem gX1_offerPairs_X1_join : GoodIn wsX1_offerPairs (wsV RX1 53 RX1 yX1_join wsX1_join) := goodIn_app (goodIn_of _ (by decide +kernel)) ggX1_offerPairs_X1_join
set_option maxRecDepth 20000 in
theorem ggX1_offerPairs_X6_offer : GoodIn wsX1_offerPairs wsX6_offer := goodIn_r _ [54, 55, 56, 8, 57, 58, 59, 60, 61, 62, 6, 63, 19, 9, 10, 11, 12, 13, 14, 20, 21, 22, 23, 24, 25, 26, 27, 28, 29, 30, 31, 32, 33, 34, 35, 36, 64, 65, 66, 67, 68, 69, 70, 71, 72, 73, 74, 75, 76, 77, 78, 79, 47, 80, 49, 81, 82, 83, 84, 50, 85, 86, 87, 88, 89, 90, 91, 92, 93, 94, 95, 96, 97, 98, 99, 100, 101, 102, 103, 104, 105, 106, 107, 108, 109, 110, 111, 112, 113, 114, 115, 116, 117, 118, 119, 120, 121, 122, 123, 124, 125, 126, 127, 128, 129, 130, 131, 132, 133, 134, 135, 136, 137, 138, 139, 140, 141, 142, 143, 144, 145, 146, 147, 148, 149, 150, 151, 152, 166, 167, 156, 160, 161, 162, 163, 164, 165, 157, 158, 159] (by decide +kernel) (by decide +kernel)
set_option maxRecDepth 20000 in
theorem gX1_offerPairs_X6_offer : GoodIn wsX1_offerPairs (wsV RX1 37 RX6 yX6_offer wsX6_offer) := goodIn_app (goodIn_of _ (by decide +kernel)) ggX1_offerPairs_X6_offer
theorem dX1_offerPairs_0 : decode cX1_offerPairs 0 = .ok (.aload_n 0, 1) := by decide +kernel
theorem dX1_offerPairs_1 : decode cX1_offerPairs 1 = .ok (.getfield 11, 3) := by decide +kernel
theorem dX1_offerPairs_4 : decode cX1_offerPairs 4 = .ok (.iload_n 1, 1) := by decide +kernel
theorem dX1_offerPairs_5 : decode cX1_offerPairs 5 = .ok (.iconst 1, 1) := by decide +kernel
theorem dX1_offerPairs_6 : decode cX1_offerPairs 6 = .ok (.isub, 1) := by decide +kernel
theorem dX1_offerPairs_7 : decode cX1_offerPairs 7 = .ok (.aaload, 1) := by decide +kernel
theorem dX1_offerPairs_8 : decode cX1_offerPairs 8 = .ok (.astore 4, 2) := by decide +kernel
theorem dX1_offerPairs_10 : decode cX1_offerPairs 10 = .ok (.aload_n 0, 1) := by decide +kernel
theorem dX1_offerPairs_11 : decode cX1_offerPairs 11 = .ok (.getfield 11, 3) := by decide +kernel
theorem dX1_offerPairs_14 : decode cX1_offerPairs 14 = .ok (.iload_n 3, 1) := by decide +kernel
theorem dX1_offerPairs_15 : decode cX1_offerPairs 15 = .ok (.iconst 1, 1) := by decide +kernel
theorem dX1_offerPairs_16 : decode cX1_offerPairs 16 = .ok (.isub, 1) := by decide +kernel
theorem dX1_offerPairs_17 : decode cX1_offerPairs 17 = .ok (.aaload, 1) := by decide +kernel
theorem dX1_offerPairs_18 : decode cX1_offerPairs 18 = .ok (.astore 5, 2) := by decide +kernel
theorem dX1_offerPairs_20 : decode cX1_offerPairs 20 = .ok (.aload_n 0, 1) := by decide +kernel
theorem dX1_offerPairs_21 : decode cX1_offerPairs 21 = .ok (.getfield 11, 3) := by decide +kernel
theorem dX1_offerPairs_24 : decode cX1_offerPairs 24 = .ok (.iload_n 1, 1) := by decide +kernel
theorem dX1_offerPairs_25 : decode cX1_offerPairs 25 = .ok (.iload_n 3, 1) := by decide +kernel
theorem dX1_offerPairs_26 : decode cX1_offerPairs 26 = .ok (.isub, 1) := by decide +kernel
theorem dX1_offerPairs_27 : decode cX1_offerPairs 27 = .ok (.iconst 1, 1) := by decide +kernel
theorem dX1_offerPairs_28 : decode cX1_offerPairs 28 = .ok (.isub, 1) := by decide +kernel
theorem dX1_offerPairs_29 : decode cX1_offerPairs 29 = .ok (.aaload, 1) := by decide +kernel
theorem dX1_offerPairs_30 : decode cX1_offerPairs 30 = .ok (.astore 6, 2) := by decide +kernel
theorem dX1_offerPairs_32 : decode cX1_offerPairs 32 = .ok (.aload 5, 2) := by decide +kernel
theorem dX1_offerPairs_34 : decode cX1_offerPairs 34 = .ok (.invokevirtual 45, 3) := by decide +kernel
theorem dX1_offerPairs_37 : decode cX1_offerPairs 37 = .ok (.istore 7, 2) := by decide +kernel
theorem dX1_offerPairs_39 : decode cX1_offerPairs 39 = .ok (.aload 6, 2) := by decide +kernel
theorem dX1_offerPairs_41 : decode cX1_offerPairs 41 = .ok (.invokevirtual 45, 3) := by decide +kernel
theorem dX1_offerPairs_44 : decode cX1_offerPairs 44 = .ok (.istore 8, 2) := by decide +kernel
theorem dX1_offerPairs_46 : decode cX1_offerPairs 46 = .ok (.iconst 0, 1) := by decide +kernel
theorem dX1_offerPairs_47 : decode cX1_offerPairs 47 = .ok (.istore 9, 2) := by decide +kernel
theorem dX1_offerPairs_49 : decode cX1_offerPairs 49 = .ok (.iload 9, 2) := by decide +kernel
theorem dX1_offerPairs_51 : decode cX1_offerPairs 51 = .ok (.iload 7, 2) := by decide +kernel
theorem dX1_offerPairs_53 : decode cX1_offerPairs 53 = .ok (.if_icmp .ge 62, 3) := by decide +kernel
theorem dX1_offerPairs_56 : decode cX1_offerPairs 56 = .ok (.iconst 0, 1) := by decide +kernel
theorem dX1_offerPairs_57 : decode cX1_offerPairs 57 = .ok (.istore 10, 2) := by decide +kernel
theorem dX1_offerPairs_59 : decode cX1_offerPairs 59 = .ok (.iload 10, 2) := by decide +kernel
theorem dX1_offerPairs_61 : decode cX1_offerPairs 61 = .ok (.iload 8, 2) := by decide +kernel
theorem dX1_offerPairs_63 : decode cX1_offerPairs 63 = .ok (.if_icmp .ge 46, 3) := by decide +kernel
theorem dX1_offerPairs_66 : decode cX1_offerPairs 66 = .ok (.aload_n 0, 1) := by decide +kernel
theorem dX1_offerPairs_67 : decode cX1_offerPairs 67 = .ok (.aload 5, 2) := by decide +kernel
theorem dX1_offerPairs_69 : decode cX1_offerPairs 69 = .ok (.iload 9, 2) := by decide +kernel
theorem dX1_offerPairs_71 : decode cX1_offerPairs 71 = .ok (.invokevirtual 49, 3) := by decide +kernel
theorem dX1_offerPairs_74 : decode cX1_offerPairs 74 = .ok (.aload 6, 2) := by decide +kernel
theorem dX1_offerPairs_76 : decode cX1_offerPairs 76 = .ok (.iload 10, 2) := by decide +kernel
theorem dX1_offerPairs_78 : decode cX1_offerPairs 78 = .ok (.invokevirtual 49, 3) := by decide +kernel
theorem dX1_offerPairs_81 : decode cX1_offerPairs 81 = .ok (.iload_n 2, 1) := by decide +kernel
theorem dX1_offerPairs_82 : decode cX1_offerPairs 82 = .ok (.invokevirtual 53, 3) := by decide +kernel
theorem dX1_offerPairs_85 : decode cX1_offerPairs 85 = .ok (.ifCond .eq 18, 3) := by decide +kernel
theorem dX1_offerPairs_88 : decode cX1_offerPairs 88 = .ok (.aload 4, 2) := by decide +kernel
theorem dX1_offerPairs_90 : decode cX1_offerPairs 90 = .ok (.aload_n 0, 1) := by decide +kernel
theorem dX1_offerPairs_91 : decode cX1_offerPairs 91 = .ok (.getfield 20, 3) := by decide +kernel
theorem dX1_offerPairs_94 : decode cX1_offerPairs 94 = .ok (.iload_n 2, 1) := by decide +kernel
theorem dX1_offerPairs_95 : decode cX1_offerPairs 95 = .ok (.iload_n 3, 1) := by decide +kernel
theorem dX1_offerPairs_96 : decode cX1_offerPairs 96 = .ok (.iload 9, 2) := by decide +kernel
theorem dX1_offerPairs_98 : decode cX1_offerPairs 98 = .ok (.iload 10, 2) := by decide +kernel
theorem dX1_offerPairs_100 : decode cX1_offerPairs 100 = .ok (.invokevirtual 37, 3) := by decide +kernel
theorem dX1_offerPairs_103 : decode cX1_offerPairs 103 = .ok (.iinc 10 1, 3) := by decide +kernel
theorem dX1_offerPairs_106 : decode cX1_offerPairs 106 = .ok (.goto (-47), 3) := by decide +kernel
theorem dX1_offerPairs_109 : decode cX1_offerPairs 109 = .ok (.iinc 9 1, 3) := by decide +kernel
theorem dX1_offerPairs_112 : decode cX1_offerPairs 112 = .ok (.goto (-63), 3) := by decide +kernel
theorem dX1_offerPairs_115 : decode cX1_offerPairs 115 = .ok (.return_, 1) := by decide +kernel
set_option maxRecDepth 20000 in
theorem ggX1_join_X0_set : GoodIn wsX1_join wsX0_set := goodIn_r _ [8, 9, 10, 20, 21] (by decide +kernel) (by decide +kernel)
set_option maxRecDepth 20000 in
theorem gX1_join_X0_set : GoodIn wsX1_join (wsV RX1 33 RX0 yX0_set wsX0_set) := goodIn_app (goodIn_of _ (by decide +kernel)) ggX1_join_X0_set
theorem dX1_join_0 : decode cX1_join 0 = .ok (.aload_n 1, 1) := by decide +kernel
theorem dX1_join_1 : decode cX1_join 1 = .ok (.ifnull 7, 3) := by decide +kernel
theorem dX1_join_4 : decode cX1_join 4 = .ok (.aload_n 2, 1) := by decide +kernel
theorem dX1_join_5 : decode cX1_join 5 = .ok (.ifnonnull 5, 3) := by decide +kernel
theorem dX1_join_8 : decode cX1_join 8 = .ok (.iconst 0, 1) := by decide +kernel
theorem dX1_join_9 : decode cX1_join 9 = .ok (.ireturn, 1) := by decide +kernel
theorem dX1_join_10 : decode cX1_join 10 = .ok (.aload_n 1, 1) := by decide +kernel
theorem dX1_join_11 : decode cX1_join 11 = .ok (.getfield 57, 3) := by decide +kernel
theorem dX1_join_14 : decode cX1_join 14 = .ok (.aload_n 2, 1) := by decide +kernel
theorem dX1_join_15 : decode cX1_join 15 = .ok (.getfield 62, 3) := by decide +kernel
theorem dX1_join_18 : decode cX1_join 18 = .ok (.imul, 1) := by decide +kernel
theorem dX1_join_19 : decode cX1_join 19 = .ok (.aload_n 2, 1) := by decide +kernel
theorem dX1_join_20 : decode cX1_join 20 = .ok (.getfield 57, 3) := by decide +kernel
theorem dX1_join_23 : decode cX1_join 23 = .ok (.aload_n 1, 1) := by decide +kernel
theorem dX1_join_24 : decode cX1_join 24 = .ok (.getfield 62, 3) := by decide +kernel
theorem dX1_join_27 : decode cX1_join 27 = .ok (.imul, 1) := by decide +kernel
theorem dX1_join_28 : decode cX1_join 28 = .ok (.iadd, 1) := by decide +kernel
theorem dX1_join_29 : decode cX1_join 29 = .ok (.istore 4, 2) := by decide +kernel
theorem dX1_join_31 : decode cX1_join 31 = .ok (.iload_n 3, 1) := by decide +kernel
theorem dX1_join_32 : decode cX1_join 32 = .ok (.iconst 1, 1) := by decide +kernel
theorem dX1_join_33 : decode cX1_join 33 = .ok (.if_icmp .ne 26, 3) := by decide +kernel
theorem dX1_join_36 : decode cX1_join 36 = .ok (.aload_n 0, 1) := by decide +kernel
theorem dX1_join_37 : decode cX1_join 37 = .ok (.getfield 20, 3) := by decide +kernel
theorem dX1_join_40 : decode cX1_join 40 = .ok (.iload 4, 2) := by decide +kernel
theorem dX1_join_42 : decode cX1_join 42 = .ok (.i2l, 1) := by decide +kernel
theorem dX1_join_43 : decode cX1_join 43 = .ok (.aload_n 1, 1) := by decide +kernel
theorem dX1_join_44 : decode cX1_join 44 = .ok (.getfield 62, 3) := by decide +kernel
theorem dX1_join_47 : decode cX1_join 47 = .ok (.aload_n 2, 1) := by decide +kernel
theorem dX1_join_48 : decode cX1_join 48 = .ok (.getfield 62, 3) := by decide +kernel
theorem dX1_join_51 : decode cX1_join 51 = .ok (.imul, 1) := by decide +kernel
theorem dX1_join_52 : decode cX1_join 52 = .ok (.i2l, 1) := by decide +kernel
theorem dX1_join_53 : decode cX1_join 53 = .ok (.invokevirtual 33, 3) := by decide +kernel
theorem dX1_join_56 : decode cX1_join 56 = .ok (.goto 23, 3) := by decide +kernel
theorem dX1_join_59 : decode cX1_join 59 = .ok (.aload_n 0, 1) := by decide +kernel
theorem dX1_join_60 : decode cX1_join 60 = .ok (.getfield 20, 3) := by decide +kernel
theorem dX1_join_63 : decode cX1_join 63 = .ok (.aload_n 1, 1) := by decide +kernel
theorem dX1_join_64 : decode cX1_join 64 = .ok (.getfield 57, 3) := by decide +kernel
theorem dX1_join_67 : decode cX1_join 67 = .ok (.aload_n 2, 1) := by decide +kernel
theorem dX1_join_68 : decode cX1_join 68 = .ok (.getfield 57, 3) := by decide +kernel
theorem dX1_join_71 : decode cX1_join 71 = .ok (.imul, 1) := by decide +kernel
theorem dX1_join_72 : decode cX1_join 72 = .ok (.i2l, 1) := by decide +kernel
theorem dX1_join_73 : decode cX1_join 73 = .ok (.iload 4, 2) := by decide +kernel
theorem dX1_join_75 : decode cX1_join 75 = .ok (.i2l, 1) := by decide +kernel
theorem dX1_join_76 : decode cX1_join 76 = .ok (.invokevirtual 33, 3) := by decide +kernel
theorem dX1_join_79 : decode cX1_join 79 = .ok (.iconst 1, 1) := by decide +kernel
theorem dX1_join_80 : decode cX1_join 80 = .ok (.ireturn, 1) := by decide +kernel
set_option maxRecDepth 20000 in
theorem ggX2_init_X4_init : GoodIn wsX2_init wsX4_init := goodIn_r _ [5, 6, 7, 8, 9, 10, 11, 12, 13, 14, 15, 21, 22, 23, 16, 17, 18, 19, 20] (by decide +kernel) (by decide +kernel)
set_option maxRecDepth 20000 in
theorem gX2_init_X4_init : GoodIn wsX2_init (wsX4_init) := ggX2_init_X4_init
theorem dX2_init_0 : decode cX2_init 0 = .ok (.aload_n 0, 1) := by decide +kernel
theorem dX2_init_1 : decode cX2_init 1 = .ok (.iload_n 1, 1) := by decide +kernel
theorem dX2_init_2 : decode cX2_init 2 = .ok (.iload_n 2, 1) := by decide +kernel
theorem dX2_init_3 : decode cX2_init 3 = .ok (.iload_n 3, 1) := by decide +kernel
theorem dX2_init_4 : decode cX2_init 4 = .ok (.invokespecial 1, 3) := by decide +kernel
theorem dX2_init_7 : decode cX2_init 7 = .ok (.aload_n 0, 1) := by decide +kernel
theorem dX2_init_8 : decode cX2_init 8 = .ok (.iload 4, 2) := by decide +kernel
theorem dX2_init_10 : decode cX2_init 10 = .ok (.putfield 7, 3) := by decide +kernel
theorem dX2_init_13 : decode cX2_init 13 = .ok (.return_, 1) := by decide +kernel
set_option maxRecDepth 20000 in
theorem ggX2_measure_X4_measure : GoodIn wsX2_measure wsX4_measure := goodIn_r _ [8, 9, 10, 11, 12, 13, 14, 15, 16, 17] (by decide +kernel) (by decide +kernel)
set_option maxRecDepth 20000 in
theorem gX2_measure_X4_measure_s13 : GoodIn wsX2_measure (va_wsSU RX2 13 yX4_measure wsX4_measure) := goodIn_app (goodIn_of _ (by decide +kernel)) ggX2_measure_X4_measure
theorem dX2_measure_0 : decode cX2_measure 0 = .ok (.aload_n 0, 1) := by decide +kernel
theorem dX2_measure_1 : decode cX2_measure 1 = .ok (.aload_n 1, 1) := by decide +kernel
theorem dX2_measure_2 : decode cX2_measure 2 = .ok (.invokespecial 13, 3) := by decide +kernel
theorem dX2_measure_5 : decode cX2_measure 5 = .ok (.istore_n 2, 1) := by decide +kernel
theorem dX2_measure_6 : decode cX2_measure 6 = .ok (.aload_n 1, 1) := by decide +kernel
theorem dX2_measure_7 : decode cX2_measure 7 = .ok (.dup, 1) := by decide +kernel
theorem dX2_measure_8 : decode cX2_measure 8 = .ok (.getfield 17, 3) := by decide +kernel
theorem dX2_measure_11 : decode cX2_measure 11 = .ok (.aload_n 0, 1) := by decide +kernel
theorem dX2_measure_12 : decode cX2_measure 12 = .ok (.getfield 7, 3) := by decide +kernel
theorem dX2_measure_15 : decode cX2_measure 15 = .ok (.i2l, 1) := by decide +kernel
theorem dX2_measure_16 : decode cX2_measure 16 = .ok (.lmul, 1) := by decide +kernel
theorem dX2_measure_17 : decode cX2_measure 17 = .ok (.putfield 17, 3) := by decide +kernel
theorem dX2_measure_20 : decode cX2_measure 20 = .ok (.iload_n 2, 1) := by decide +kernel
theorem dX2_measure_21 : decode cX2_measure 21 = .ok (.bipush 10, 2) := by decide +kernel
theorem dX2_measure_23 : decode cX2_measure 23 = .ok (.iadd, 1) := by decide +kernel
theorem dX2_measure_24 : decode cX2_measure 24 = .ok (.ireturn, 1) := by decide +kernel
set_option maxRecDepth 20000 in
theorem ggX3_init_X0_init : GoodIn wsX3_init wsX0_init := goodIn_r _ [20, 21, 2, 3, 22, 23, 32, 33] (by decide +kernel) (by decide +kernel)
set_option maxRecDepth 20000 in
theorem gX3_init_X0_init_n27 : GoodIn wsX3_init (wsX0_init) := ggX3_init_X0_init
theorem dX3_init_0 : decode cX3_init 0 = .ok (.aload_n 0, 1) := by decide +kernel
theorem dX3_init_1 : decode cX3_init 1 = .ok (.invokespecial 3, 3) := by decide +kernel
theorem dX3_init_4 : decode cX3_init 4 = .ok (.aload_n 0, 1) := by decide +kernel
theorem dX3_init_5 : decode cX3_init 5 = .ok (.bipush 12, 2) := by decide +kernel
theorem dX3_init_7 : decode cX3_init 7 = .ok (.anewarray 9, 3) := by decide +kernel
theorem dX3_init_10 : decode cX3_init 10 = .ok (.putfield 11, 3) := by decide +kernel
theorem dX3_init_13 : decode cX3_init 13 = .ok (.aload_n 0, 1) := by decide +kernel
theorem dX3_init_14 : decode cX3_init 14 = .ok (.bipush 12, 2) := by decide +kernel
theorem dX3_init_16 : decode cX3_init 16 = .ok (.newarray .long, 2) := by decide +kernel
theorem dX3_init_18 : decode cX3_init 18 = .ok (.putfield 17, 3) := by decide +kernel
theorem dX3_init_21 : decode cX3_init 21 = .ok (.aload_n 0, 1) := by decide +kernel
theorem dX3_init_22 : decode cX3_init 22 = .ok (.iconst 0, 1) := by decide +kernel
theorem dX3_init_23 : decode cX3_init 23 = .ok (.putfield 21, 3) := by decide +kernel
theorem dX3_init_26 : decode cX3_init 26 = .ok (.aload_n 0, 1) := by decide +kernel
theorem dX3_init_27 : decode cX3_init 27 = .ok (.new 25, 3) := by decide +kernel
theorem dX3_init_30 : decode cX3_init 30 = .ok (.dup, 1) := by decide +kernel
theorem dX3_init_31 : decode cX3_init 31 = .ok (.invokespecial 27, 3) := by decide +kernel
theorem dX3_init_34 : decode cX3_init 34 = .ok (.putfield 28, 3) := by decide +kernel
theorem dX3_init_37 : decode cX3_init 37 = .ok (.aload_n 0, 1) := by decide +kernel
theorem dX3_init_38 : decode cX3_init 38 = .ok (.bipush 6, 2) := by decide +kernel
theorem dX3_init_40 : decode cX3_init 40 = .ok (.newarray .int, 2) := by decide +kernel
theorem dX3_init_42 : decode cX3_init 42 = .ok (.putfield 32, 3) := by decide +kernel
theorem dX3_init_45 : decode cX3_init 45 = .ok (.aload_n 0, 1) := by decide +kernel
theorem dX3_init_46 : decode cX3_init 46 = .ok (.iconst 5, 1) := by decide +kernel
theorem dX3_init_47 : decode cX3_init 47 = .ok (.bipush 6, 2) := by decide +kernel
theorem dX3_init_49 : decode cX3_init 49 = .ok (.multianewarray 36 2, 4) := by decide +kernel
theorem dX3_init_53 : decode cX3_init 53 = .ok (.putfield 38, 3) := by decide +kernel
theorem dX3_init_56 : decode cX3_init 56 = .ok (.aload_n 0, 1) := by decide +kernel
theorem dX3_init_57 : decode cX3_init 57 = .ok (.bipush 6, 2) := by decide +kernel
theorem dX3_init_59 : decode cX3_init 59 = .ok (.newarray .int, 2) := by decide +kernel
theorem dX3_init_61 : decode cX3_init 61 = .ok (.putfield 41, 3) := by decide +kernel
theorem dX3_init_64 : decode cX3_init 64 = .ok (.aload_n 0, 1) := by decide +kernel
theorem dX3_init_65 : decode cX3_init 65 = .ok (.iconst 0, 1) := by decide +kernel
theorem dX3_init_66 : decode cX3_init 66 = .ok (.putfield 44, 3) := by decide +kernel
theorem dX3_init_69 : decode cX3_init 69 = .ok (.return_, 1) := by decide +kernel
theorem dX3_size_0 : decode cX3_size 0 = .ok (.aload_n 0, 1) := by decide +kernel
theorem dX3_size_1 : decode cX3_size 1 = .ok (.getfield 21, 3) := by decide +kernel
theorem dX3_size_4 : decode cX3_size 4 = .ok (.ireturn, 1) := by decide +kernel
theorem dX3_at_0 : decode cX3_at 0 = .ok (.iload_n 1, 1) := by decide +kernel
theorem dX3_at_1 : decode cX3_at 1 = .ok (.ifCond .lt 11, 3) := by decide +kernel
theorem dX3_at_4 : decode cX3_at 4 = .ok (.iload_n 1, 1) := by decide +kernel
theorem dX3_at_5 : decode cX3_at 5 = .ok (.aload_n 0, 1) := by decide +kernel
theorem dX3_at_6 : decode cX3_at 6 = .ok (.getfield 21, 3) := by decide +kernel
theorem dX3_at_9 : decode cX3_at 9 = .ok (.if_icmp .lt 5, 3) := by decide +kernel
theorem dX3_at_12 : decode cX3_at 12 = .ok (.aconst_null, 1) := by decide +kernel
theorem dX3_at_13 : decode cX3_at 13 = .ok (.areturn, 1) := by decide +kernel
theorem dX3_at_14 : decode cX3_at 14 = .ok (.aload_n 0, 1) := by decide +kernel
theorem dX3_at_15 : decode cX3_at 15 = .ok (.getfield 11, 3) := by decide +kernel
theorem dX3_at_18 : decode cX3_at 18 = .ok (.iload_n 1, 1) := by decide +kernel
theorem dX3_at_19 : decode cX3_at 19 = .ok (.aaload, 1) := by decide +kernel
theorem dX3_at_20 : decode cX3_at 20 = .ok (.areturn, 1) := by decide +kernel
set_option maxRecDepth 20000 in
theorem ggX3_add_X3_flowOf : GoodIn wsX3_add wsX3_flowOf := goodIn_r _ [8, 9, 10, 11, 12, 13, 14, 15, 16, 17, 18, 19, 20, 21, 22, 23, 24, 25, 26, 27, 28, 29, 30, 31, 32, 33, 34, 35, 36, 37, 38, 39, 40, 41, 42, 43, 44, 45, 46, 47, 48, 49, 50, 51, 52, 53, 54, 55, 56, 57, 58, 59, 60, 61, 62, 63] (by decide +kernel) (by decide +kernel)
set_option maxRecDepth 20000 in
theorem gX3_add_X3_flowOf : GoodIn wsX3_add (wsV RX3 47 RX3 yX3_flowOf wsX3_flowOf) := goodIn_app (goodIn_of _ (by decide +kernel)) ggX3_add_X3_flowOf
theorem dX3_add_0 : decode cX3_add 0 = .ok (.aload_n 0, 1) := by decide +kernel
theorem dX3_add_1 : decode cX3_add 1 = .ok (.getfield 11, 3) := by decide +kernel
theorem dX3_add_4 : decode cX3_add 4 = .ok (.aload_n 0, 1) := by decide +kernel
theorem dX3_add_5 : decode cX3_add 5 = .ok (.getfield 21, 3) := by decide +kernel
theorem dX3_add_8 : decode cX3_add 8 = .ok (.aload_n 1, 1) := by decide +kernel
theorem dX3_add_9 : decode cX3_add 9 = .ok (.aastore, 1) := by decide +kernel
theorem dX3_add_10 : decode cX3_add 10 = .ok (.aload_n 0, 1) := by decide +kernel
theorem dX3_add_11 : decode cX3_add 11 = .ok (.getfield 17, 3) := by decide +kernel
theorem dX3_add_14 : decode cX3_add 14 = .ok (.aload_n 0, 1) := by decide +kernel
theorem dX3_add_15 : decode cX3_add 15 = .ok (.getfield 21, 3) := by decide +kernel
theorem dX3_add_18 : decode cX3_add 18 = .ok (.aload_n 0, 1) := by decide +kernel
theorem dX3_add_19 : decode cX3_add 19 = .ok (.aload_n 1, 1) := by decide +kernel
theorem dX3_add_20 : decode cX3_add 20 = .ok (.invokevirtual 47, 3) := by decide +kernel
theorem dX3_add_23 : decode cX3_add 23 = .ok (.lastore, 1) := by decide +kernel
theorem dX3_add_24 : decode cX3_add 24 = .ok (.aload_n 0, 1) := by decide +kernel
theorem dX3_add_25 : decode cX3_add 25 = .ok (.dup, 1) := by decide +kernel
theorem dX3_add_26 : decode cX3_add 26 = .ok (.getfield 21, 3) := by decide +kernel
theorem dX3_add_29 : decode cX3_add 29 = .ok (.iconst 1, 1) := by decide +kernel
theorem dX3_add_30 : decode cX3_add 30 = .ok (.iadd, 1) := by decide +kernel
theorem dX3_add_31 : decode cX3_add 31 = .ok (.putfield 21, 3) := by decide +kernel
theorem dX3_add_34 : decode cX3_add 34 = .ok (.aload_n 0, 1) := by decide +kernel
theorem dX3_add_35 : decode cX3_add 35 = .ok (.getfield 21, 3) := by decide +kernel
theorem dX3_add_38 : decode cX3_add 38 = .ok (.iconst 1, 1) := by decide +kernel
theorem dX3_add_39 : decode cX3_add 39 = .ok (.isub, 1) := by decide +kernel
theorem dX3_add_40 : decode cX3_add 40 = .ok (.ireturn, 1) := by decide +kernel
set_option maxRecDepth 20000 in
theorem ggX3_flowOf_X2_measure : GoodIn wsX3_flowOf wsX2_measure := goodIn_r _ [11, 12, 13, 14, 6, 15, 16, 17, 18, 19, 20, 21, 22, 23, 24, 25, 45, 46, 47, 48, 49, 50, 51, 52, 53, 54, 55] (by decide +kernel) (by decide +kernel)
set_option maxRecDepth 20000 in
theorem gX3_flowOf_X2_measure_u51X2 : GoodIn wsX3_flowOf (va_wsO RX3 51 RX2 "OhmNets$OneWire" ⟨"OhmNets$OneWire", "measure", "(LOhmNets$Fraction;)I"⟩ yX2_measure wsX2_measure) := goodIn_app (goodIn_of _ (by decide +kernel)) ggX3_flowOf_X2_measure
set_option maxRecDepth 20000 in
theorem ggX3_flowOf_X4_measure : GoodIn wsX3_flowOf wsX4_measure := goodIn_r _ [18, 19, 20, 21, 22, 23, 24, 25, 45, 46] (by decide +kernel) (by decide +kernel)
set_option maxRecDepth 20000 in
theorem gX3_flowOf_X4_measure : GoodIn wsX3_flowOf (wsV RX3 51 RX4 yX4_measure wsX4_measure) := goodIn_app (goodIn_of _ (by decide +kernel)) ggX3_flowOf_X4_measure
set_option maxRecDepth 20000 in
theorem ggX3_flowOf_X8_measure : GoodIn wsX3_flowOf wsX8_measure := goodIn_r _ [31, 32, 33, 34, 35, 36, 9, 10, 11, 12, 13, 14, 6, 15, 16, 17, 18, 19, 20, 21, 22, 23, 24, 25, 45, 46, 51, 52, 53, 54, 55, 47, 48, 49, 50] (by decide +kernel) (by decide +kernel)
set_option maxRecDepth 20000 in
theorem gX3_flowOf_X8_measure_u51X8 : GoodIn wsX3_flowOf (va_wsO RX3 51 RX8 "OhmNets$OneWire" ⟨"OhmNets$OneWire", "measure", "(LOhmNets$Fraction;)I"⟩ yX8_measure wsX8_measure) := goodIn_app (goodIn_of _ (by decide +kernel)) ggX3_flowOf_X8_measure
theorem dX3_flowOf_0 : decode cX3_flowOf 0 = .ok (.aload_n 1, 1) := by decide +kernel
theorem dX3_flowOf_1 : decode cX3_flowOf 1 = .ok (.aload_n 0, 1) := by decide +kernel
theorem dX3_flowOf_2 : decode cX3_flowOf 2 = .ok (.getfield 28, 3) := by decide +kernel
theorem dX3_flowOf_5 : decode cX3_flowOf 5 = .ok (.invokevirtual 51, 3) := by decide +kernel
theorem dX3_flowOf_8 : decode cX3_flowOf 8 = .ok (.pop, 1) := by decide +kernel
theorem dX3_flowOf_9 : decode cX3_flowOf 9 = .ok (.aload_n 0, 1) := by decide +kernel
theorem dX3_flowOf_10 : decode cX3_flowOf 10 = .ok (.getfield 28, 3) := by decide +kernel
theorem dX3_flowOf_13 : decode cX3_flowOf 13 = .ok (.getfield 55, 3) := by decide +kernel
theorem dX3_flowOf_16 : decode cX3_flowOf 16 = .ok (.lconst 0, 1) := by decide +kernel
theorem dX3_flowOf_17 : decode cX3_flowOf 17 = .ok (.lcmp, 1) := by decide +kernel
theorem dX3_flowOf_18 : decode cX3_flowOf 18 = .ok (.ifCond .ne 7, 3) := by decide +kernel
theorem dX3_flowOf_21 : decode cX3_flowOf 21 = .ok (.lconst 0, 1) := by decide +kernel
theorem dX3_flowOf_22 : decode cX3_flowOf 22 = .ok (.goto 22, 3) := by decide +kernel
theorem dX3_flowOf_25 : decode cX3_flowOf 25 = .ok (.ldc2_w 59, 3) := by decide +kernel
theorem dX3_flowOf_28 : decode cX3_flowOf 28 = .ok (.aload_n 0, 1) := by decide +kernel
theorem dX3_flowOf_29 : decode cX3_flowOf 29 = .ok (.getfield 28, 3) := by decide +kernel
theorem dX3_flowOf_32 : decode cX3_flowOf 32 = .ok (.getfield 61, 3) := by decide +kernel
theorem dX3_flowOf_35 : decode cX3_flowOf 35 = .ok (.lmul, 1) := by decide +kernel
theorem dX3_flowOf_36 : decode cX3_flowOf 36 = .ok (.aload_n 0, 1) := by decide +kernel
theorem dX3_flowOf_37 : decode cX3_flowOf 37 = .ok (.getfield 28, 3) := by decide +kernel
theorem dX3_flowOf_40 : decode cX3_flowOf 40 = .ok (.getfield 55, 3) := by decide +kernel
theorem dX3_flowOf_43 : decode cX3_flowOf 43 = .ok (.ldiv, 1) := by decide +kernel
theorem dX3_flowOf_44 : decode cX3_flowOf 44 = .ok (.lreturn, 1) := by decide +kernel
theorem dX3_removeLatest_0 : decode cX3_removeLatest 0 = .ok (.aload_n 0, 1) := by decide +kernel
theorem dX3_removeLatest_1 : decode cX3_removeLatest 1 = .ok (.dup, 1) := by decide +kernel
theorem dX3_removeLatest_2 : decode cX3_removeLatest 2 = .ok (.getfield 21, 3) := by decide +kernel
theorem dX3_removeLatest_5 : decode cX3_removeLatest 5 = .ok (.iconst 1, 1) := by decide +kernel
theorem dX3_removeLatest_6 : decode cX3_removeLatest 6 = .ok (.isub, 1) := by decide +kernel
theorem dX3_removeLatest_7 : decode cX3_removeLatest 7 = .ok (.putfield 21, 3) := by decide +kernel
theorem dX3_removeLatest_10 : decode cX3_removeLatest 10 = .ok (.aload_n 0, 1) := by decide +kernel
theorem dX3_removeLatest_11 : decode cX3_removeLatest 11 = .ok (.getfield 11, 3) := by decide +kernel
theorem dX3_removeLatest_14 : decode cX3_removeLatest 14 = .ok (.aload_n 0, 1) := by decide +kernel
theorem dX3_removeLatest_15 : decode cX3_removeLatest 15 = .ok (.getfield 21, 3) := by decide +kernel
theorem dX3_removeLatest_18 : decode cX3_removeLatest 18 = .ok (.aconst_null, 1) := by decide +kernel
theorem dX3_removeLatest_19 : decode cX3_removeLatest 19 = .ok (.aastore, 1) := by decide +kernel
theorem dX3_removeLatest_20 : decode cX3_removeLatest 20 = .ok (.aload_n 0, 1) := by decide +kernel
theorem dX3_removeLatest_21 : decode cX3_removeLatest 21 = .ok (.getfield 21, 3) := by decide +kernel
theorem dX3_removeLatest_24 : decode cX3_removeLatest 24 = .ok (.ireturn, 1) := by decide +kernel
theorem dX3_knotsWithWires_0 : decode cX3_knotsWithWires 0 = .ok (.iconst 0, 1) := by decide +kernel
theorem dX3_knotsWithWires_1 : decode cX3_knotsWithWires 1 = .ok (.istore_n 1, 1) := by decide +kernel
theorem dX3_knotsWithWires_2 : decode cX3_knotsWithWires 2 = .ok (.iconst 0, 1) := by decide +kernel
theorem dX3_knotsWithWires_3 : decode cX3_knotsWithWires 3 = .ok (.istore_n 2, 1) := by decide +kernel
theorem dX3_knotsWithWires_4 : decode cX3_knotsWithWires 4 = .ok (.iload_n 2, 1) := by decide +kernel
theorem dX3_knotsWithWires_5 : decode cX3_knotsWithWires 5 = .ok (.aload_n 0, 1) := by decide +kernel
theorem dX3_knotsWithWires_6 : decode cX3_knotsWithWires 6 = .ok (.getfield 21, 3) := by decide +kernel
theorem dX3_knotsWithWires_9 : decode cX3_knotsWithWires 9 = .ok (.if_icmp .ge 35, 3) := by decide +kernel
theorem dX3_knotsWithWires_12 : decode cX3_knotsWithWires 12 = .ok (.iload_n 1, 1) := by decide +kernel
theorem dX3_knotsWithWires_13 : decode cX3_knotsWithWires 13 = .ok (.iconst 1, 1) := by decide +kernel
theorem dX3_knotsWithWires_14 : decode cX3_knotsWithWires 14 = .ok (.aload_n 0, 1) := by decide +kernel
theorem dX3_knotsWithWires_15 : decode cX3_knotsWithWires 15 = .ok (.getfield 11, 3) := by decide +kernel
theorem dX3_knotsWithWires_18 : decode cX3_knotsWithWires 18 = .ok (.iload_n 2, 1) := by decide +kernel
theorem dX3_knotsWithWires_19 : decode cX3_knotsWithWires 19 = .ok (.aaload, 1) := by decide +kernel
theorem dX3_knotsWithWires_20 : decode cX3_knotsWithWires 20 = .ok (.getfield 64, 3) := by decide +kernel
theorem dX3_knotsWithWires_23 : decode cX3_knotsWithWires 23 = .ok (.ishl, 1) := by decide +kernel
theorem dX3_knotsWithWires_24 : decode cX3_knotsWithWires 24 = .ok (.iconst 1, 1) := by decide +kernel
theorem dX3_knotsWithWires_25 : decode cX3_knotsWithWires 25 = .ok (.aload_n 0, 1) := by decide +kernel
theorem dX3_knotsWithWires_26 : decode cX3_knotsWithWires 26 = .ok (.getfield 11, 3) := by decide +kernel
theorem dX3_knotsWithWires_29 : decode cX3_knotsWithWires 29 = .ok (.iload_n 2, 1) := by decide +kernel
theorem dX3_knotsWithWires_30 : decode cX3_knotsWithWires 30 = .ok (.aaload, 1) := by decide +kernel
theorem dX3_knotsWithWires_31 : decode cX3_knotsWithWires 31 = .ok (.getfield 67, 3) := by decide +kernel
theorem dX3_knotsWithWires_34 : decode cX3_knotsWithWires 34 = .ok (.ishl, 1) := by decide +kernel
theorem dX3_knotsWithWires_35 : decode cX3_knotsWithWires 35 = .ok (.ior, 1) := by decide +kernel
theorem dX3_knotsWithWires_36 : decode cX3_knotsWithWires 36 = .ok (.ior, 1) := by decide +kernel
theorem dX3_knotsWithWires_37 : decode cX3_knotsWithWires 37 = .ok (.istore_n 1, 1) := by decide +kernel
theorem dX3_knotsWithWires_38 : decode cX3_knotsWithWires 38 = .ok (.iinc 2 1, 3) := by decide +kernel
theorem dX3_knotsWithWires_41 : decode cX3_knotsWithWires 41 = .ok (.goto (-37), 3) := by decide +kernel
theorem dX3_knotsWithWires_44 : decode cX3_knotsWithWires 44 = .ok (.iload_n 1, 1) := by decide +kernel
theorem dX3_knotsWithWires_45 : decode cX3_knotsWithWires 45 = .ok (.ireturn, 1) := by decide +kernel
set_option maxRecDepth 20000 in
theorem ggX3_hangTogether_X3_reachedFrom : GoodIn wsX3_hangTogether wsX3_reachedFrom := goodIn_r _ [5, 6, 7, 8, 9, 10, 11, 12, 13, 14, 15, 16, 17, 18, 19, 20, 21, 22, 23, 24, 25, 26, 27, 28, 29, 30, 31, 32, 33, 34, 35, 36, 37, 38, 39, 40] (by decide +kernel) (by decide +kernel)
set_option maxRecDepth 20000 in
theorem gX3_hangTogether_X3_reachedFrom : GoodIn wsX3_hangTogether (wsV RX3 70 RX3 yX3_reachedFrom wsX3_reachedFrom) := goodIn_app (goodIn_of _ (by decide +kernel)) ggX3_hangTogether_X3_reachedFrom
theorem dX3_hangTogether_0 : decode cX3_hangTogether 0 = .ok (.aload_n 0, 1) := by decide +kernel
theorem dX3_hangTogether_1 : decode cX3_hangTogether 1 = .ok (.iload_n 1, 1) := by decide +kernel
theorem dX3_hangTogether_2 : decode cX3_hangTogether 2 = .ok (.invokevirtual 70, 3) := by decide +kernel
theorem dX3_hangTogether_5 : decode cX3_hangTogether 5 = .ok (.iload_n 2, 1) := by decide +kernel
theorem dX3_hangTogether_6 : decode cX3_hangTogether 6 = .ok (.ishr, 1) := by decide +kernel
theorem dX3_hangTogether_7 : decode cX3_hangTogether 7 = .ok (.iconst 1, 1) := by decide +kernel
theorem dX3_hangTogether_8 : decode cX3_hangTogether 8 = .ok (.iand, 1) := by decide +kernel
theorem dX3_hangTogether_9 : decode cX3_hangTogether 9 = .ok (.iconst 1, 1) := by decide +kernel
theorem dX3_hangTogether_10 : decode cX3_hangTogether 10 = .ok (.if_icmp .ne 7, 3) := by decide +kernel
theorem dX3_hangTogether_13 : decode cX3_hangTogether 13 = .ok (.iconst 1, 1) := by decide +kernel
theorem dX3_hangTogether_14 : decode cX3_hangTogether 14 = .ok (.goto 4, 3) := by decide +kernel
theorem dX3_hangTogether_17 : decode cX3_hangTogether 17 = .ok (.iconst 0, 1) := by decide +kernel
theorem dX3_hangTogether_18 : decode cX3_hangTogether 18 = .ok (.ireturn, 1) := by decide +kernel
set_option maxRecDepth 20000 in
theorem ggX3_reachedFrom_X4_touches : GoodIn wsX3_reachedFrom wsX4_touches := goodIn_r _ [10, 11, 12, 24, 25, 26, 27, 28, 29, 30, 31, 32, 33, 34, 35] (by decide +kernel) (by decide +kernel)
set_option maxRecDepth 20000 in
theorem gX3_reachedFrom_X4_touches_u74X2 : GoodIn wsX3_reachedFrom (va_wsU RX3 74 RX2 "OhmNets$OneWire" ⟨"OhmNets$OneWire", "touches", "(I)Z"⟩ yX4_touches wsX4_touches) := goodIn_app (goodIn_of _ (by decide +kernel)) ggX3_reachedFrom_X4_touches
set_option maxRecDepth 20000 in
theorem gX3_reachedFrom_X4_touches : GoodIn wsX3_reachedFrom (wsV RX3 74 RX4 yX4_touches wsX4_touches) := goodIn_app (goodIn_of _ (by decide +kernel)) ggX3_reachedFrom_X4_touches
set_option maxRecDepth 20000 in
theorem gX3_reachedFrom_X4_touches_u74X8 : GoodIn wsX3_reachedFrom (va_wsU RX3 74 RX8 "OhmNets$OneWire" ⟨"OhmNets$OneWire", "touches", "(I)Z"⟩ yX4_touches wsX4_touches) := goodIn_app (goodIn_of _ (by decide +kernel)) ggX3_reachedFrom_X4_touches
theorem dX3_reachedFrom_0 : decode cX3_reachedFrom 0 = .ok (.iconst 1, 1) := by decide +kernel
theorem dX3_reachedFrom_1 : decode cX3_reachedFrom 1 = .ok (.iload_n 1, 1) := by decide +kernel
theorem dX3_reachedFrom_2 : decode cX3_reachedFrom 2 = .ok (.ishl, 1) := by decide +kernel
theorem dX3_reachedFrom_3 : decode cX3_reachedFrom 3 = .ok (.istore_n 2, 1) := by decide +kernel
theorem dX3_reachedFrom_4 : decode cX3_reachedFrom 4 = .ok (.iconst 1, 1) := by decide +kernel
theorem dX3_reachedFrom_5 : decode cX3_reachedFrom 5 = .ok (.istore_n 3, 1) := by decide +kernel
theorem dX3_reachedFrom_6 : decode cX3_reachedFrom 6 = .ok (.iload_n 3, 1) := by decide +kernel
theorem dX3_reachedFrom_7 : decode cX3_reachedFrom 7 = .ok (.bipush 6, 2) := by decide +kernel
theorem dX3_reachedFrom_9 : decode cX3_reachedFrom 9 = .ok (.if_icmp .ge 69, 3) := by decide +kernel
theorem dX3_reachedFrom_12 : decode cX3_reachedFrom 12 = .ok (.iconst 0, 1) := by decide +kernel
theorem dX3_reachedFrom_13 : decode cX3_reachedFrom 13 = .ok (.istore 4, 2) := by decide +kernel
theorem dX3_reachedFrom_15 : decode cX3_reachedFrom 15 = .ok (.iload 4, 2) := by decide +kernel
theorem dX3_reachedFrom_17 : decode cX3_reachedFrom 17 = .ok (.aload_n 0, 1) := by decide +kernel
theorem dX3_reachedFrom_18 : decode cX3_reachedFrom 18 = .ok (.getfield 21, 3) := by decide +kernel
theorem dX3_reachedFrom_21 : decode cX3_reachedFrom 21 = .ok (.if_icmp .ge 51, 3) := by decide +kernel
theorem dX3_reachedFrom_24 : decode cX3_reachedFrom 24 = .ok (.aload_n 0, 1) := by decide +kernel
theorem dX3_reachedFrom_25 : decode cX3_reachedFrom 25 = .ok (.getfield 11, 3) := by decide +kernel
theorem dX3_reachedFrom_28 : decode cX3_reachedFrom 28 = .ok (.iload 4, 2) := by decide +kernel
theorem dX3_reachedFrom_30 : decode cX3_reachedFrom 30 = .ok (.aaload, 1) := by decide +kernel
theorem dX3_reachedFrom_31 : decode cX3_reachedFrom 31 = .ok (.iload_n 2, 1) := by decide +kernel
theorem dX3_reachedFrom_32 : decode cX3_reachedFrom 32 = .ok (.invokevirtual 74, 3) := by decide +kernel
theorem dX3_reachedFrom_35 : decode cX3_reachedFrom 35 = .ok (.ifCond .eq 31, 3) := by decide +kernel
theorem dX3_reachedFrom_38 : decode cX3_reachedFrom 38 = .ok (.iload_n 2, 1) := by decide +kernel
theorem dX3_reachedFrom_39 : decode cX3_reachedFrom 39 = .ok (.iconst 1, 1) := by decide +kernel
theorem dX3_reachedFrom_40 : decode cX3_reachedFrom 40 = .ok (.aload_n 0, 1) := by decide +kernel
theorem dX3_reachedFrom_41 : decode cX3_reachedFrom 41 = .ok (.getfield 11, 3) := by decide +kernel
theorem dX3_reachedFrom_44 : decode cX3_reachedFrom 44 = .ok (.iload 4, 2) := by decide +kernel
theorem dX3_reachedFrom_46 : decode cX3_reachedFrom 46 = .ok (.aaload, 1) := by decide +kernel
theorem dX3_reachedFrom_47 : decode cX3_reachedFrom 47 = .ok (.getfield 64, 3) := by decide +kernel
theorem dX3_reachedFrom_50 : decode cX3_reachedFrom 50 = .ok (.ishl, 1) := by decide +kernel
theorem dX3_reachedFrom_51 : decode cX3_reachedFrom 51 = .ok (.iconst 1, 1) := by decide +kernel
theorem dX3_reachedFrom_52 : decode cX3_reachedFrom 52 = .ok (.aload_n 0, 1) := by decide +kernel
theorem dX3_reachedFrom_53 : decode cX3_reachedFrom 53 = .ok (.getfield 11, 3) := by decide +kernel
theorem dX3_reachedFrom_56 : decode cX3_reachedFrom 56 = .ok (.iload 4, 2) := by decide +kernel
theorem dX3_reachedFrom_58 : decode cX3_reachedFrom 58 = .ok (.aaload, 1) := by decide +kernel
theorem dX3_reachedFrom_59 : decode cX3_reachedFrom 59 = .ok (.getfield 67, 3) := by decide +kernel
theorem dX3_reachedFrom_62 : decode cX3_reachedFrom 62 = .ok (.ishl, 1) := by decide +kernel
theorem dX3_reachedFrom_63 : decode cX3_reachedFrom 63 = .ok (.ior, 1) := by decide +kernel
theorem dX3_reachedFrom_64 : decode cX3_reachedFrom 64 = .ok (.ior, 1) := by decide +kernel
theorem dX3_reachedFrom_65 : decode cX3_reachedFrom 65 = .ok (.istore_n 2, 1) := by decide +kernel
theorem dX3_reachedFrom_66 : decode cX3_reachedFrom 66 = .ok (.iinc 4 1, 3) := by decide +kernel
theorem dX3_reachedFrom_69 : decode cX3_reachedFrom 69 = .ok (.goto (-54), 3) := by decide +kernel
theorem dX3_reachedFrom_72 : decode cX3_reachedFrom 72 = .ok (.iinc 3 1, 3) := by decide +kernel
theorem dX3_reachedFrom_75 : decode cX3_reachedFrom 75 = .ok (.goto (-69), 3) := by decide +kernel
theorem dX3_reachedFrom_78 : decode cX3_reachedFrom 78 = .ok (.iload_n 2, 1) := by decide +kernel
theorem dX3_reachedFrom_79 : decode cX3_reachedFrom 79 = .ok (.ireturn, 1) := by decide +kernel
set_option maxRecDepth 20000 in
theorem ggX3_solveBetween_X0_set : GoodIn wsX3_solveBetween wsX0_set := goodIn_r _ [6, 7, 8, 72, 73] (by decide +kernel) (by decide +kernel)
set_option maxRecDepth 20000 in
theorem gX3_solveBetween_X0_set : GoodIn wsX3_solveBetween (wsV RX3 78 RX0 yX0_set wsX0_set) := goodIn_app (goodIn_of _ (by decide +kernel)) ggX3_solveBetween_X0_set
set_option maxRecDepth 20000 in
theorem ggX3_solveBetween_X3_solve : GoodIn wsX3_solveBetween wsX3_solve := goodIn_r _ [13, 14, 15, 16, 17, 18, 19, 12, 20, 21, 22, 23, 24, 25, 26, 27, 28, 29, 30, 31, 32, 33, 34, 35, 36, 37, 38, 39, 40, 41, 42, 43, 44, 45, 46, 47, 48, 49, 50, 51, 52, 53, 54, 55, 56, 74, 75, 76, 77, 78, 79, 80, 81, 82, 83, 84, 85, 86, 87, 88, 89, 90, 91, 92, 93] (by decide +kernel) (by decide +kernel)
set_option maxRecDepth 20000 in
theorem gX3_solveBetween_X3_solve : GoodIn wsX3_solveBetween (wsV RX3 82 RX3 yX3_solve wsX3_solve) := goodIn_app (goodIn_of _ (by decide +kernel)) ggX3_solveBetween_X3_solve
set_option maxRecDepth 20000 in
theorem ggX3_solveBetween_X3_numberOf : GoodIn wsX3_solveBetween wsX3_numberOf := goodIn_r _ [60, 14, 15, 16, 74, 75, 76, 77, 78, 79, 80, 81] (by decide +kernel) (by decide +kernel)
set_option maxRecDepth 20000 in
theorem gX3_solveBetween_X3_numberOf : GoodIn wsX3_solveBetween (wsV RX3 86 RX3 yX3_numberOf wsX3_numberOf) := goodIn_app (goodIn_of _ (by decide +kernel)) ggX3_solveBetween_X3_numberOf
set_option maxRecDepth 20000 in
theorem ggX3_solveBetween_X0_reduce : GoodIn wsX3_solveBetween wsX0_reduce := goodIn_r _ [64, 7, 65, 66, 67, 68, 8, 69, 70, 5, 71, 72, 73] (by decide +kernel) (by decide +kernel)
set_option maxRecDepth 20000 in
theorem gX3_solveBetween_X0_reduce : GoodIn wsX3_solveBetween (wsV RX3 90 RX0 yX0_reduce wsX0_reduce) := goodIn_app (goodIn_of _ (by decide +kernel)) ggX3_solveBetween_X0_reduce
theorem dX3_solveBetween_0 : decode cX3_solveBetween 0 = .ok (.iload_n 1, 1) := by decide +kernel
theorem dX3_solveBetween_1 : decode cX3_solveBetween 1 = .ok (.iload_n 2, 1) := by decide +kernel
theorem dX3_solveBetween_2 : decode cX3_solveBetween 2 = .ok (.if_icmp .ne 10, 3) := by decide +kernel
theorem dX3_solveBetween_5 : decode cX3_solveBetween 5 = .ok (.aload_n 3, 1) := by decide +kernel
theorem dX3_solveBetween_6 : decode cX3_solveBetween 6 = .ok (.lconst 0, 1) := by decide +kernel
theorem dX3_solveBetween_7 : decode cX3_solveBetween 7 = .ok (.lconst 1, 1) := by decide +kernel
theorem dX3_solveBetween_8 : decode cX3_solveBetween 8 = .ok (.invokevirtual 78, 3) := by decide +kernel
theorem dX3_solveBetween_11 : decode cX3_solveBetween 11 = .ok (.return_, 1) := by decide +kernel
theorem dX3_solveBetween_12 : decode cX3_solveBetween 12 = .ok (.aload_n 0, 1) := by decide +kernel
theorem dX3_solveBetween_13 : decode cX3_solveBetween 13 = .ok (.iload_n 1, 1) := by decide +kernel
theorem dX3_solveBetween_14 : decode cX3_solveBetween 14 = .ok (.iload_n 2, 1) := by decide +kernel
theorem dX3_solveBetween_15 : decode cX3_solveBetween 15 = .ok (.invokevirtual 82, 3) := by decide +kernel
theorem dX3_solveBetween_18 : decode cX3_solveBetween 18 = .ok (.lstore 4, 2) := by decide +kernel
theorem dX3_solveBetween_20 : decode cX3_solveBetween 20 = .ok (.aload_n 3, 1) := by decide +kernel
theorem dX3_solveBetween_21 : decode cX3_solveBetween 21 = .ok (.ldc2_w 59, 3) := by decide +kernel
theorem dX3_solveBetween_24 : decode cX3_solveBetween 24 = .ok (.aload_n 0, 1) := by decide +kernel
theorem dX3_solveBetween_25 : decode cX3_solveBetween 25 = .ok (.iload_n 1, 1) := by decide +kernel
theorem dX3_solveBetween_26 : decode cX3_solveBetween 26 = .ok (.invokevirtual 86, 3) := by decide +kernel
theorem dX3_solveBetween_29 : decode cX3_solveBetween 29 = .ok (.lmul, 1) := by decide +kernel
theorem dX3_solveBetween_30 : decode cX3_solveBetween 30 = .ok (.lload 4, 2) := by decide +kernel
theorem dX3_solveBetween_32 : decode cX3_solveBetween 32 = .ok (.invokevirtual 78, 3) := by decide +kernel
theorem dX3_solveBetween_35 : decode cX3_solveBetween 35 = .ok (.aload_n 3, 1) := by decide +kernel
theorem dX3_solveBetween_36 : decode cX3_solveBetween 36 = .ok (.invokevirtual 90, 3) := by decide +kernel
theorem dX3_solveBetween_39 : decode cX3_solveBetween 39 = .ok (.return_, 1) := by decide +kernel
set_option maxRecDepth 20000 in
theorem ggX3_solveThrough_X3_solve : GoodIn wsX3_solveThrough wsX3_solve := goodIn_r _ [9, 10, 11, 12, 13, 14, 15, 8, 16, 17, 1, 2, 3, 18, 19, 20, 21, 22, 23, 24, 25, 26, 27, 28, 29, 30, 31, 32, 4, 33, 34, 35, 36, 37, 38, 39, 40, 41, 42, 43, 44, 45, 46, 47, 48, 71, 72, 73, 74, 75, 76, 77, 78, 79, 80, 81, 82, 83, 84, 85, 86, 87, 88, 89, 90] (by decide +kernel) (by decide +kernel)
set_option maxRecDepth 20000 in
theorem gX3_solveThrough_X3_solve : GoodIn wsX3_solveThrough (wsV RX3 82 RX3 yX3_solve wsX3_solve) := goodIn_app (goodIn_of _ (by decide +kernel)) ggX3_solveThrough_X3_solve
set_option maxRecDepth 20000 in
theorem ggX3_solveThrough_X3_numberOf : GoodIn wsX3_solveThrough wsX3_numberOf := goodIn_r _ [52, 10, 11, 12, 71, 72, 73, 74, 75, 76, 77, 78] (by decide +kernel) (by decide +kernel)
set_option maxRecDepth 20000 in
theorem gX3_solveThrough_X3_numberOf : GoodIn wsX3_solveThrough (wsV RX3 86 RX3 yX3_numberOf wsX3_numberOf) := goodIn_app (goodIn_of _ (by decide +kernel)) ggX3_solveThrough_X3_numberOf
set_option maxRecDepth 20000 in
theorem ggX3_solveThrough_X0_set : GoodIn wsX3_solveThrough wsX0_set := goodIn_r _ [57, 58, 59, 91, 92] (by decide +kernel) (by decide +kernel)
set_option maxRecDepth 20000 in
theorem gX3_solveThrough_X0_set : GoodIn wsX3_solveThrough (wsV RX3 78 RX0 yX0_set wsX0_set) := goodIn_app (goodIn_of _ (by decide +kernel)) ggX3_solveThrough_X0_set
set_option maxRecDepth 20000 in
theorem ggX3_solveThrough_X0_reduce : GoodIn wsX3_solveThrough wsX0_reduce := goodIn_r _ [63, 58, 64, 65, 66, 67, 59, 68, 69, 56, 70, 91, 92] (by decide +kernel) (by decide +kernel)
set_option maxRecDepth 20000 in
theorem gX3_solveThrough_X0_reduce : GoodIn wsX3_solveThrough (wsV RX3 90 RX0 yX0_reduce wsX0_reduce) := goodIn_app (goodIn_of _ (by decide +kernel)) ggX3_solveThrough_X0_reduce
theorem dX3_solveThrough_0 : decode cX3_solveThrough 0 = .ok (.aload_n 0, 1) := by decide +kernel
theorem dX3_solveThrough_1 : decode cX3_solveThrough 1 = .ok (.iload_n 2, 1) := by decide +kernel
theorem dX3_solveThrough_2 : decode cX3_solveThrough 2 = .ok (.iload_n 3, 1) := by decide +kernel
theorem dX3_solveThrough_3 : decode cX3_solveThrough 3 = .ok (.invokevirtual 82, 3) := by decide +kernel
theorem dX3_solveThrough_6 : decode cX3_solveThrough 6 = .ok (.lstore 5, 2) := by decide +kernel
theorem dX3_solveThrough_8 : decode cX3_solveThrough 8 = .ok (.aload_n 0, 1) := by decide +kernel
theorem dX3_solveThrough_9 : decode cX3_solveThrough 9 = .ok (.aload_n 0, 1) := by decide +kernel
theorem dX3_solveThrough_10 : decode cX3_solveThrough 10 = .ok (.getfield 11, 3) := by decide +kernel
theorem dX3_solveThrough_13 : decode cX3_solveThrough 13 = .ok (.iload_n 1, 1) := by decide +kernel
theorem dX3_solveThrough_14 : decode cX3_solveThrough 14 = .ok (.aaload, 1) := by decide +kernel
theorem dX3_solveThrough_15 : decode cX3_solveThrough 15 = .ok (.getfield 64, 3) := by decide +kernel
theorem dX3_solveThrough_18 : decode cX3_solveThrough 18 = .ok (.invokevirtual 86, 3) := by decide +kernel
theorem dX3_solveThrough_21 : decode cX3_solveThrough 21 = .ok (.aload_n 0, 1) := by decide +kernel
theorem dX3_solveThrough_22 : decode cX3_solveThrough 22 = .ok (.aload_n 0, 1) := by decide +kernel
theorem dX3_solveThrough_23 : decode cX3_solveThrough 23 = .ok (.getfield 11, 3) := by decide +kernel
theorem dX3_solveThrough_26 : decode cX3_solveThrough 26 = .ok (.iload_n 1, 1) := by decide +kernel
theorem dX3_solveThrough_27 : decode cX3_solveThrough 27 = .ok (.aaload, 1) := by decide +kernel
theorem dX3_solveThrough_28 : decode cX3_solveThrough 28 = .ok (.getfield 67, 3) := by decide +kernel
theorem dX3_solveThrough_31 : decode cX3_solveThrough 31 = .ok (.invokevirtual 86, 3) := by decide +kernel
theorem dX3_solveThrough_34 : decode cX3_solveThrough 34 = .ok (.lsub, 1) := by decide +kernel
theorem dX3_solveThrough_35 : decode cX3_solveThrough 35 = .ok (.lstore 7, 2) := by decide +kernel
theorem dX3_solveThrough_37 : decode cX3_solveThrough 37 = .ok (.aload 4, 2) := by decide +kernel
theorem dX3_solveThrough_39 : decode cX3_solveThrough 39 = .ok (.lload 7, 2) := by decide +kernel
theorem dX3_solveThrough_41 : decode cX3_solveThrough 41 = .ok (.aload_n 0, 1) := by decide +kernel
theorem dX3_solveThrough_42 : decode cX3_solveThrough 42 = .ok (.getfield 17, 3) := by decide +kernel
theorem dX3_solveThrough_45 : decode cX3_solveThrough 45 = .ok (.iload_n 1, 1) := by decide +kernel
theorem dX3_solveThrough_46 : decode cX3_solveThrough 46 = .ok (.laload, 1) := by decide +kernel
theorem dX3_solveThrough_47 : decode cX3_solveThrough 47 = .ok (.lmul, 1) := by decide +kernel
theorem dX3_solveThrough_48 : decode cX3_solveThrough 48 = .ok (.lload 5, 2) := by decide +kernel
theorem dX3_solveThrough_50 : decode cX3_solveThrough 50 = .ok (.invokevirtual 78, 3) := by decide +kernel
theorem dX3_solveThrough_53 : decode cX3_solveThrough 53 = .ok (.aload 4, 2) := by decide +kernel
theorem dX3_solveThrough_55 : decode cX3_solveThrough 55 = .ok (.invokevirtual 90, 3) := by decide +kernel
theorem dX3_solveThrough_58 : decode cX3_solveThrough 58 = .ok (.return_, 1) := by decide +kernel
set_option maxRecDepth 20000 in
theorem ggX3_solve_X3_reachedFrom : GoodIn wsX3_solve wsX3_reachedFrom := goodIn_r _ [8, 9, 10, 11, 12, 13, 14, 15, 16, 17, 18, 19, 20, 21, 22, 23, 45, 46, 47, 48, 49, 50, 51, 52, 53, 54, 55, 56, 57, 58, 59, 60, 61, 62, 63, 64] (by decide +kernel) (by decide +kernel)
set_option maxRecDepth 20000 in
theorem gX3_solve_X3_reachedFrom : GoodIn wsX3_solve (wsV RX3 70 RX3 yX3_reachedFrom wsX3_reachedFrom) := goodIn_app (goodIn_of _ (by decide +kernel)) ggX3_solve_X3_reachedFrom
set_option maxRecDepth 20000 in
theorem ggX3_solve_X3_layLines : GoodIn wsX3_solve wsX3_layLines := goodIn_r _ [27, 3, 2, 9, 1, 10, 11, 12, 28, 29, 30, 31, 7, 32, 33, 34, 35, 36, 45, 46, 47, 48, 49, 50, 51, 52, 53, 54, 55, 56, 57, 58, 59, 60, 61, 62, 63, 64] (by decide +kernel) (by decide +kernel)
set_option maxRecDepth 20000 in
theorem gX3_solve_X3_layLines : GoodIn wsX3_solve (wsV RX3 93 RX3 yX3_layLines wsX3_layLines) := goodIn_app (goodIn_of _ (by decide +kernel)) ggX3_solve_X3_layLines
set_option maxRecDepth 20000 in
theorem ggX3_solve_X3_eliminate : GoodIn wsX3_solve wsX3_eliminate := goodIn_r _ [40, 3, 2, 41, 42, 43, 7, 44, 45, 46, 47, 48, 49, 50, 51, 52] (by decide +kernel) (by decide +kernel)
set_option maxRecDepth 20000 in
theorem gX3_solve_X3_eliminate : GoodIn wsX3_solve (wsV RX3 97 RX3 yX3_eliminate wsX3_eliminate) := goodIn_app (goodIn_of _ (by decide +kernel)) ggX3_solve_X3_eliminate
theorem dX3_solve_0 : decode cX3_solve 0 = .ok (.aload_n 0, 1) := by decide +kernel
theorem dX3_solve_1 : decode cX3_solve 1 = .ok (.aload_n 0, 1) := by decide +kernel
theorem dX3_solve_2 : decode cX3_solve 2 = .ok (.iload_n 1, 1) := by decide +kernel
theorem dX3_solve_3 : decode cX3_solve 3 = .ok (.invokevirtual 70, 3) := by decide +kernel
theorem dX3_solve_6 : decode cX3_solve 6 = .ok (.iload_n 2, 1) := by decide +kernel
theorem dX3_solve_7 : decode cX3_solve 7 = .ok (.iconst 0, 1) := by decide +kernel
theorem dX3_solve_8 : decode cX3_solve 8 = .ok (.invokevirtual 93, 3) := by decide +kernel
theorem dX3_solve_11 : decode cX3_solve 11 = .ok (.aload_n 0, 1) := by decide +kernel
theorem dX3_solve_12 : decode cX3_solve 12 = .ok (.getfield 41, 3) := by decide +kernel
theorem dX3_solve_15 : decode cX3_solve 15 = .ok (.iload_n 1, 1) := by decide +kernel
theorem dX3_solve_16 : decode cX3_solve 16 = .ok (.iaload, 1) := by decide +kernel
theorem dX3_solve_17 : decode cX3_solve 17 = .ok (.istore_n 3, 1) := by decide +kernel
theorem dX3_solve_18 : decode cX3_solve 18 = .ok (.iload_n 3, 1) := by decide +kernel
theorem dX3_solve_19 : decode cX3_solve 19 = .ok (.ifCond .lt 15, 3) := by decide +kernel
theorem dX3_solve_22 : decode cX3_solve 22 = .ok (.aload_n 0, 1) := by decide +kernel
theorem dX3_solve_23 : decode cX3_solve 23 = .ok (.getfield 38, 3) := by decide +kernel
theorem dX3_solve_26 : decode cX3_solve 26 = .ok (.iload_n 3, 1) := by decide +kernel
theorem dX3_solve_27 : decode cX3_solve 27 = .ok (.aaload, 1) := by decide +kernel
theorem dX3_solve_28 : decode cX3_solve 28 = .ok (.aload_n 0, 1) := by decide +kernel
theorem dX3_solve_29 : decode cX3_solve 29 = .ok (.getfield 44, 3) := by decide +kernel
theorem dX3_solve_32 : decode cX3_solve 32 = .ok (.lconst 1, 1) := by decide +kernel
theorem dX3_solve_33 : decode cX3_solve 33 = .ok (.lastore, 1) := by decide +kernel
theorem dX3_solve_34 : decode cX3_solve 34 = .ok (.aload_n 0, 1) := by decide +kernel
theorem dX3_solve_35 : decode cX3_solve 35 = .ok (.invokevirtual 97, 3) := by decide +kernel
theorem dX3_solve_38 : decode cX3_solve 38 = .ok (.lreturn, 1) := by decide +kernel
theorem dX3_numberOf_0 : decode cX3_numberOf 0 = .ok (.aload_n 0, 1) := by decide +kernel
theorem dX3_numberOf_1 : decode cX3_numberOf 1 = .ok (.getfield 41, 3) := by decide +kernel
theorem dX3_numberOf_4 : decode cX3_numberOf 4 = .ok (.iload_n 1, 1) := by decide +kernel
theorem dX3_numberOf_5 : decode cX3_numberOf 5 = .ok (.iaload, 1) := by decide +kernel
theorem dX3_numberOf_6 : decode cX3_numberOf 6 = .ok (.istore_n 2, 1) := by decide +kernel
theorem dX3_numberOf_7 : decode cX3_numberOf 7 = .ok (.iload_n 2, 1) := by decide +kernel
theorem dX3_numberOf_8 : decode cX3_numberOf 8 = .ok (.ifCond .ge 7, 3) := by decide +kernel
theorem dX3_numberOf_11 : decode cX3_numberOf 11 = .ok (.lconst 0, 1) := by decide +kernel
theorem dX3_numberOf_12 : decode cX3_numberOf 12 = .ok (.goto 14, 3) := by decide +kernel
theorem dX3_numberOf_15 : decode cX3_numberOf 15 = .ok (.aload_n 0, 1) := by decide +kernel
theorem dX3_numberOf_16 : decode cX3_numberOf 16 = .ok (.getfield 38, 3) := by decide +kernel
theorem dX3_numberOf_19 : decode cX3_numberOf 19 = .ok (.iload_n 2, 1) := by decide +kernel
theorem dX3_numberOf_20 : decode cX3_numberOf 20 = .ok (.aaload, 1) := by decide +kernel
theorem dX3_numberOf_21 : decode cX3_numberOf 21 = .ok (.aload_n 0, 1) := by decide +kernel
theorem dX3_numberOf_22 : decode cX3_numberOf 22 = .ok (.getfield 44, 3) := by decide +kernel
theorem dX3_numberOf_25 : decode cX3_numberOf 25 = .ok (.laload, 1) := by decide +kernel
theorem dX3_numberOf_26 : decode cX3_numberOf 26 = .ok (.lreturn, 1) := by decide +kernel
set_option maxRecDepth 20000 in
theorem ggX3_countTrees_X3_knotsWithWires : GoodIn wsX3_countTrees wsX3_knotsWithWires := goodIn_r _ [5, 6, 7, 8, 9, 39, 40, 41, 42, 43, 44, 45, 46, 47, 48, 49, 50, 51, 52, 53, 54, 55, 56, 57, 58] (by decide +kernel) (by decide +kernel)
set_option maxRecDepth 20000 in
theorem gX3_countTrees_X3_knotsWithWires : GoodIn wsX3_countTrees (wsV RX3 101 RX3 yX3_knotsWithWires wsX3_knotsWithWires) := goodIn_app (goodIn_of _ (by decide +kernel)) ggX3_countTrees_X3_knotsWithWires
set_option maxRecDepth 20000 in
theorem ggX3_countTrees_J6_numberOfTrailingZeros_0f7a4 : GoodIn wsX3_countTrees wsJ6_numberOfTrailingZeros_0f7a4 := goodIn_r _ [13, 14] (by decide +kernel) (by decide +kernel)
set_option maxRecDepth 20000 in
theorem gX3_countTrees_J6_numberOfTrailingZeros_0f7a4 : GoodIn wsX3_countTrees (va_wsS RX3 105 yJ6_numberOfTrailingZeros_0f7a4 wsJ6_numberOfTrailingZeros_0f7a4) := goodIn_app (goodIn_of _ (by decide +kernel)) ggX3_countTrees_J6_numberOfTrailingZeros_0f7a4
set_option maxRecDepth 20000 in
theorem ggX3_countTrees_X3_layLines : GoodIn wsX3_countTrees wsX3_layLines := goodIn_r _ [18, 19, 20, 6, 21, 7, 8, 9, 22, 23, 24, 25, 4, 26, 27, 28, 29, 30, 39, 40, 41, 42, 43, 44, 45, 46, 47, 48, 49, 50, 51, 52, 53, 54, 55, 56, 57, 58] (by decide +kernel) (by decide +kernel)
set_option maxRecDepth 20000 in
theorem gX3_countTrees_X3_layLines : GoodIn wsX3_countTrees (wsV RX3 93 RX3 yX3_layLines wsX3_layLines) := goodIn_app (goodIn_of _ (by decide +kernel)) ggX3_countTrees_X3_layLines
set_option maxRecDepth 20000 in
theorem ggX3_countTrees_X3_eliminate : GoodIn wsX3_countTrees wsX3_eliminate := goodIn_r _ [34, 19, 20, 35, 36, 37, 4, 38, 39, 40, 41, 42, 43, 44, 45, 46] (by decide +kernel) (by decide +kernel)
set_option maxRecDepth 20000 in
theorem gX3_countTrees_X3_eliminate : GoodIn wsX3_countTrees (wsV RX3 97 RX3 yX3_eliminate wsX3_eliminate) := goodIn_app (goodIn_of _ (by decide +kernel)) ggX3_countTrees_X3_eliminate
theorem dX3_countTrees_0 : decode cX3_countTrees 0 = .ok (.aload_n 0, 1) := by decide +kernel
theorem dX3_countTrees_1 : decode cX3_countTrees 1 = .ok (.invokevirtual 101, 3) := by decide +kernel
theorem dX3_countTrees_4 : decode cX3_countTrees 4 = .ok (.istore_n 1, 1) := by decide +kernel
theorem dX3_countTrees_5 : decode cX3_countTrees 5 = .ok (.iload_n 1, 1) := by decide +kernel
theorem dX3_countTrees_6 : decode cX3_countTrees 6 = .ok (.ifCond .ne 5, 3) := by decide +kernel
theorem dX3_countTrees_9 : decode cX3_countTrees 9 = .ok (.iconst 1, 1) := by decide +kernel
theorem dX3_countTrees_10 : decode cX3_countTrees 10 = .ok (.ireturn, 1) := by decide +kernel
theorem dX3_countTrees_11 : decode cX3_countTrees 11 = .ok (.aload_n 0, 1) := by decide +kernel
theorem dX3_countTrees_12 : decode cX3_countTrees 12 = .ok (.iload_n 1, 1) := by decide +kernel
theorem dX3_countTrees_13 : decode cX3_countTrees 13 = .ok (.iload_n 1, 1) := by decide +kernel
theorem dX3_countTrees_14 : decode cX3_countTrees 14 = .ok (.invokestatic 105, 3) := by decide +kernel
theorem dX3_countTrees_17 : decode cX3_countTrees 17 = .ok (.iconst 1, 1) := by decide +kernel
theorem dX3_countTrees_18 : decode cX3_countTrees 18 = .ok (.invokevirtual 93, 3) := by decide +kernel
theorem dX3_countTrees_21 : decode cX3_countTrees 21 = .ok (.aload_n 0, 1) := by decide +kernel
theorem dX3_countTrees_22 : decode cX3_countTrees 22 = .ok (.invokevirtual 97, 3) := by decide +kernel
theorem dX3_countTrees_25 : decode cX3_countTrees 25 = .ok (.l2i, 1) := by decide +kernel
theorem dX3_countTrees_26 : decode cX3_countTrees 26 = .ok (.ireturn, 1) := by decide +kernel
set_option maxRecDepth 20000 in
theorem ggX3_layLines_X3_numberLines : GoodIn wsX3_layLines wsX3_numberLines := goodIn_r _ [13, 1, 4, 18, 19, 20, 21, 22, 23, 24, 25] (by decide +kernel) (by decide +kernel)
set_option maxRecDepth 20000 in
theorem gX3_layLines_X3_numberLines : GoodIn wsX3_layLines (wsV RX3 110 RX3 yX3_numberLines wsX3_numberLines) := goodIn_app (goodIn_of _ (by decide +kernel)) ggX3_layLines_X3_numberLines
set_option maxRecDepth 20000 in
theorem ggX3_layLines_X3_layEnd : GoodIn wsX3_layLines wsX3_layEnd := goodIn_r _ [17, 2, 18, 19, 20, 21, 22, 23, 24, 25] (by decide +kernel) (by decide +kernel)
set_option maxRecDepth 20000 in
theorem gX3_layLines_X3_layEnd : GoodIn wsX3_layLines (wsV RX3 114 RX3 yX3_layEnd wsX3_layEnd) := goodIn_app (goodIn_of _ (by decide +kernel)) ggX3_layLines_X3_layEnd
theorem dX3_layLines_0 : decode cX3_layLines 0 = .ok (.aload_n 0, 1) := by decide +kernel
theorem dX3_layLines_1 : decode cX3_layLines 1 = .ok (.iload_n 1, 1) := by decide +kernel
theorem dX3_layLines_2 : decode cX3_layLines 2 = .ok (.iconst 1, 1) := by decide +kernel
theorem dX3_layLines_3 : decode cX3_layLines 3 = .ok (.iload_n 2, 1) := by decide +kernel
theorem dX3_layLines_4 : decode cX3_layLines 4 = .ok (.ishl, 1) := by decide +kernel
theorem dX3_layLines_5 : decode cX3_layLines 5 = .ok (.iconst (-1), 1) := by decide +kernel
theorem dX3_layLines_6 : decode cX3_layLines 6 = .ok (.ixor, 1) := by decide +kernel
theorem dX3_layLines_7 : decode cX3_layLines 7 = .ok (.iand, 1) := by decide +kernel
theorem dX3_layLines_8 : decode cX3_layLines 8 = .ok (.invokevirtual 110, 3) := by decide +kernel
theorem dX3_layLines_11 : decode cX3_layLines 11 = .ok (.iconst 0, 1) := by decide +kernel
theorem dX3_layLines_12 : decode cX3_layLines 12 = .ok (.istore 4, 2) := by decide +kernel
theorem dX3_layLines_14 : decode cX3_layLines 14 = .ok (.iload 4, 2) := by decide +kernel
theorem dX3_layLines_16 : decode cX3_layLines 16 = .ok (.aload_n 0, 1) := by decide +kernel
theorem dX3_layLines_17 : decode cX3_layLines 17 = .ok (.getfield 44, 3) := by decide +kernel
theorem dX3_layLines_20 : decode cX3_layLines 20 = .ok (.if_icmp .ge 38, 3) := by decide +kernel
theorem dX3_layLines_23 : decode cX3_layLines 23 = .ok (.iconst 0, 1) := by decide +kernel
theorem dX3_layLines_24 : decode cX3_layLines 24 = .ok (.istore 5, 2) := by decide +kernel
theorem dX3_layLines_26 : decode cX3_layLines 26 = .ok (.iload 5, 2) := by decide +kernel
theorem dX3_layLines_28 : decode cX3_layLines 28 = .ok (.aload_n 0, 1) := by decide +kernel
theorem dX3_layLines_29 : decode cX3_layLines 29 = .ok (.getfield 44, 3) := by decide +kernel
theorem dX3_layLines_32 : decode cX3_layLines 32 = .ok (.if_icmp .gt 20, 3) := by decide +kernel
theorem dX3_layLines_35 : decode cX3_layLines 35 = .ok (.aload_n 0, 1) := by decide +kernel
theorem dX3_layLines_36 : decode cX3_layLines 36 = .ok (.getfield 38, 3) := by decide +kernel
theorem dX3_layLines_39 : decode cX3_layLines 39 = .ok (.iload 4, 2) := by decide +kernel
theorem dX3_layLines_41 : decode cX3_layLines 41 = .ok (.aaload, 1) := by decide +kernel
theorem dX3_layLines_42 : decode cX3_layLines 42 = .ok (.iload 5, 2) := by decide +kernel
theorem dX3_layLines_44 : decode cX3_layLines 44 = .ok (.lconst 0, 1) := by decide +kernel
theorem dX3_layLines_45 : decode cX3_layLines 45 = .ok (.lastore, 1) := by decide +kernel
theorem dX3_layLines_46 : decode cX3_layLines 46 = .ok (.iinc 5 1, 3) := by decide +kernel
theorem dX3_layLines_49 : decode cX3_layLines 49 = .ok (.goto (-23), 3) := by decide +kernel
theorem dX3_layLines_52 : decode cX3_layLines 52 = .ok (.iinc 4 1, 3) := by decide +kernel
theorem dX3_layLines_55 : decode cX3_layLines 55 = .ok (.goto (-41), 3) := by decide +kernel
theorem dX3_layLines_58 : decode cX3_layLines 58 = .ok (.iconst 0, 1) := by decide +kernel
theorem dX3_layLines_59 : decode cX3_layLines 59 = .ok (.istore 4, 2) := by decide +kernel
theorem dX3_layLines_61 : decode cX3_layLines 61 = .ok (.iload 4, 2) := by decide +kernel
theorem dX3_layLines_63 : decode cX3_layLines 63 = .ok (.aload_n 0, 1) := by decide +kernel
theorem dX3_layLines_64 : decode cX3_layLines 64 = .ok (.getfield 21, 3) := by decide +kernel
theorem dX3_layLines_67 : decode cX3_layLines 67 = .ok (.if_icmp .ge 80, 3) := by decide +kernel
theorem dX3_layLines_70 : decode cX3_layLines 70 = .ok (.aload_n 0, 1) := by decide +kernel
theorem dX3_layLines_71 : decode cX3_layLines 71 = .ok (.getfield 41, 3) := by decide +kernel
theorem dX3_layLines_74 : decode cX3_layLines 74 = .ok (.aload_n 0, 1) := by decide +kernel
theorem dX3_layLines_75 : decode cX3_layLines 75 = .ok (.getfield 11, 3) := by decide +kernel
theorem dX3_layLines_78 : decode cX3_layLines 78 = .ok (.iload 4, 2) := by decide +kernel
theorem dX3_layLines_80 : decode cX3_layLines 80 = .ok (.aaload, 1) := by decide +kernel
theorem dX3_layLines_81 : decode cX3_layLines 81 = .ok (.getfield 64, 3) := by decide +kernel
theorem dX3_layLines_84 : decode cX3_layLines 84 = .ok (.iaload, 1) := by decide +kernel
theorem dX3_layLines_85 : decode cX3_layLines 85 = .ok (.istore 5, 2) := by decide +kernel
theorem dX3_layLines_87 : decode cX3_layLines 87 = .ok (.aload_n 0, 1) := by decide +kernel
theorem dX3_layLines_88 : decode cX3_layLines 88 = .ok (.getfield 41, 3) := by decide +kernel
theorem dX3_layLines_91 : decode cX3_layLines 91 = .ok (.aload_n 0, 1) := by decide +kernel
theorem dX3_layLines_92 : decode cX3_layLines 92 = .ok (.getfield 11, 3) := by decide +kernel
theorem dX3_layLines_95 : decode cX3_layLines 95 = .ok (.iload 4, 2) := by decide +kernel
theorem dX3_layLines_97 : decode cX3_layLines 97 = .ok (.aaload, 1) := by decide +kernel
theorem dX3_layLines_98 : decode cX3_layLines 98 = .ok (.getfield 67, 3) := by decide +kernel
theorem dX3_layLines_101 : decode cX3_layLines 101 = .ok (.iaload, 1) := by decide +kernel
theorem dX3_layLines_102 : decode cX3_layLines 102 = .ok (.istore 6, 2) := by decide +kernel
theorem dX3_layLines_104 : decode cX3_layLines 104 = .ok (.iload_n 3, 1) := by decide +kernel
theorem dX3_layLines_105 : decode cX3_layLines 105 = .ok (.ifCond .eq 7, 3) := by decide +kernel
theorem dX3_layLines_108 : decode cX3_layLines 108 = .ok (.lconst 1, 1) := by decide +kernel
theorem dX3_layLines_109 : decode cX3_layLines 109 = .ok (.goto 10, 3) := by decide +kernel
theorem dX3_layLines_112 : decode cX3_layLines 112 = .ok (.aload_n 0, 1) := by decide +kernel
theorem dX3_layLines_113 : decode cX3_layLines 113 = .ok (.getfield 17, 3) := by decide +kernel
theorem dX3_layLines_116 : decode cX3_layLines 116 = .ok (.iload 4, 2) := by decide +kernel
theorem dX3_layLines_118 : decode cX3_layLines 118 = .ok (.laload, 1) := by decide +kernel
theorem dX3_layLines_119 : decode cX3_layLines 119 = .ok (.lstore 7, 2) := by decide +kernel
theorem dX3_layLines_121 : decode cX3_layLines 121 = .ok (.aload_n 0, 1) := by decide +kernel
theorem dX3_layLines_122 : decode cX3_layLines 122 = .ok (.iload 5, 2) := by decide +kernel
theorem dX3_layLines_124 : decode cX3_layLines 124 = .ok (.iload 6, 2) := by decide +kernel
theorem dX3_layLines_126 : decode cX3_layLines 126 = .ok (.lload 7, 2) := by decide +kernel
theorem dX3_layLines_128 : decode cX3_layLines 128 = .ok (.invokevirtual 114, 3) := by decide +kernel
theorem dX3_layLines_131 : decode cX3_layLines 131 = .ok (.aload_n 0, 1) := by decide +kernel
theorem dX3_layLines_132 : decode cX3_layLines 132 = .ok (.iload 6, 2) := by decide +kernel
theorem dX3_layLines_134 : decode cX3_layLines 134 = .ok (.iload 5, 2) := by decide +kernel
theorem dX3_layLines_136 : decode cX3_layLines 136 = .ok (.lload 7, 2) := by decide +kernel
theorem dX3_layLines_138 : decode cX3_layLines 138 = .ok (.invokevirtual 114, 3) := by decide +kernel
theorem dX3_layLines_141 : decode cX3_layLines 141 = .ok (.iinc 4 1, 3) := by decide +kernel
theorem dX3_layLines_144 : decode cX3_layLines 144 = .ok (.goto (-83), 3) := by decide +kernel
theorem dX3_layLines_147 : decode cX3_layLines 147 = .ok (.return_, 1) := by decide +kernel
theorem dX3_numberLines_0 : decode cX3_numberLines 0 = .ok (.aload_n 0, 1) := by decide +kernel
theorem dX3_numberLines_1 : decode cX3_numberLines 1 = .ok (.iconst 0, 1) := by decide +kernel
theorem dX3_numberLines_2 : decode cX3_numberLines 2 = .ok (.putfield 44, 3) := by decide +kernel
theorem dX3_numberLines_5 : decode cX3_numberLines 5 = .ok (.iconst 0, 1) := by decide +kernel
theorem dX3_numberLines_6 : decode cX3_numberLines 6 = .ok (.istore_n 2, 1) := by decide +kernel
theorem dX3_numberLines_7 : decode cX3_numberLines 7 = .ok (.iload_n 2, 1) := by decide +kernel
theorem dX3_numberLines_8 : decode cX3_numberLines 8 = .ok (.bipush 6, 2) := by decide +kernel
theorem dX3_numberLines_10 : decode cX3_numberLines 10 = .ok (.if_icmp .ge 48, 3) := by decide +kernel
theorem dX3_numberLines_13 : decode cX3_numberLines 13 = .ok (.iload_n 1, 1) := by decide +kernel
theorem dX3_numberLines_14 : decode cX3_numberLines 14 = .ok (.iload_n 2, 1) := by decide +kernel
theorem dX3_numberLines_15 : decode cX3_numberLines 15 = .ok (.ishr, 1) := by decide +kernel
theorem dX3_numberLines_16 : decode cX3_numberLines 16 = .ok (.iconst 1, 1) := by decide +kernel
theorem dX3_numberLines_17 : decode cX3_numberLines 17 = .ok (.iand, 1) := by decide +kernel
theorem dX3_numberLines_18 : decode cX3_numberLines 18 = .ok (.iconst 1, 1) := by decide +kernel
theorem dX3_numberLines_19 : decode cX3_numberLines 19 = .ok (.if_icmp .ne 26, 3) := by decide +kernel
theorem dX3_numberLines_22 : decode cX3_numberLines 22 = .ok (.aload_n 0, 1) := by decide +kernel
theorem dX3_numberLines_23 : decode cX3_numberLines 23 = .ok (.getfield 41, 3) := by decide +kernel
theorem dX3_numberLines_26 : decode cX3_numberLines 26 = .ok (.iload_n 2, 1) := by decide +kernel
theorem dX3_numberLines_27 : decode cX3_numberLines 27 = .ok (.aload_n 0, 1) := by decide +kernel
theorem dX3_numberLines_28 : decode cX3_numberLines 28 = .ok (.getfield 44, 3) := by decide +kernel
theorem dX3_numberLines_31 : decode cX3_numberLines 31 = .ok (.iastore, 1) := by decide +kernel
theorem dX3_numberLines_32 : decode cX3_numberLines 32 = .ok (.aload_n 0, 1) := by decide +kernel
theorem dX3_numberLines_33 : decode cX3_numberLines 33 = .ok (.dup, 1) := by decide +kernel
theorem dX3_numberLines_34 : decode cX3_numberLines 34 = .ok (.getfield 44, 3) := by decide +kernel
theorem dX3_numberLines_37 : decode cX3_numberLines 37 = .ok (.iconst 1, 1) := by decide +kernel
theorem dX3_numberLines_38 : decode cX3_numberLines 38 = .ok (.iadd, 1) := by decide +kernel
theorem dX3_numberLines_39 : decode cX3_numberLines 39 = .ok (.putfield 44, 3) := by decide +kernel
theorem dX3_numberLines_42 : decode cX3_numberLines 42 = .ok (.goto 10, 3) := by decide +kernel
theorem dX3_numberLines_45 : decode cX3_numberLines 45 = .ok (.aload_n 0, 1) := by decide +kernel
theorem dX3_numberLines_46 : decode cX3_numberLines 46 = .ok (.getfield 41, 3) := by decide +kernel
theorem dX3_numberLines_49 : decode cX3_numberLines 49 = .ok (.iload_n 2, 1) := by decide +kernel
theorem dX3_numberLines_50 : decode cX3_numberLines 50 = .ok (.iconst (-1), 1) := by decide +kernel
theorem dX3_numberLines_51 : decode cX3_numberLines 51 = .ok (.iastore, 1) := by decide +kernel
theorem dX3_numberLines_52 : decode cX3_numberLines 52 = .ok (.iinc 2 1, 3) := by decide +kernel
theorem dX3_numberLines_55 : decode cX3_numberLines 55 = .ok (.goto (-48), 3) := by decide +kernel
theorem dX3_numberLines_58 : decode cX3_numberLines 58 = .ok (.return_, 1) := by decide +kernel
theorem dX3_layEnd_0 : decode cX3_layEnd 0 = .ok (.iload_n 1, 1) := by decide +kernel
theorem dX3_layEnd_1 : decode cX3_layEnd 1 = .ok (.ifCond .ge 4, 3) := by decide +kernel
theorem dX3_layEnd_4 : decode cX3_layEnd 4 = .ok (.return_, 1) := by decide +kernel
theorem dX3_layEnd_5 : decode cX3_layEnd 5 = .ok (.aload_n 0, 1) := by decide +kernel
theorem dX3_layEnd_6 : decode cX3_layEnd 6 = .ok (.getfield 38, 3) := by decide +kernel
theorem dX3_layEnd_9 : decode cX3_layEnd 9 = .ok (.iload_n 1, 1) := by decide +kernel
theorem dX3_layEnd_10 : decode cX3_layEnd 10 = .ok (.aaload, 1) := by decide +kernel
theorem dX3_layEnd_11 : decode cX3_layEnd 11 = .ok (.iload_n 1, 1) := by decide +kernel
theorem dX3_layEnd_12 : decode cX3_layEnd 12 = .ok (.dup2, 1) := by decide +kernel
theorem dX3_layEnd_13 : decode cX3_layEnd 13 = .ok (.laload, 1) := by decide +kernel
theorem dX3_layEnd_14 : decode cX3_layEnd 14 = .ok (.lload_n 3, 1) := by decide +kernel
theorem dX3_layEnd_15 : decode cX3_layEnd 15 = .ok (.ladd, 1) := by decide +kernel
theorem dX3_layEnd_16 : decode cX3_layEnd 16 = .ok (.lastore, 1) := by decide +kernel
theorem dX3_layEnd_17 : decode cX3_layEnd 17 = .ok (.iload_n 2, 1) := by decide +kernel
theorem dX3_layEnd_18 : decode cX3_layEnd 18 = .ok (.ifCond .lt 15, 3) := by decide +kernel
theorem dX3_layEnd_21 : decode cX3_layEnd 21 = .ok (.aload_n 0, 1) := by decide +kernel
theorem dX3_layEnd_22 : decode cX3_layEnd 22 = .ok (.getfield 38, 3) := by decide +kernel
theorem dX3_layEnd_25 : decode cX3_layEnd 25 = .ok (.iload_n 1, 1) := by decide +kernel
theorem dX3_layEnd_26 : decode cX3_layEnd 26 = .ok (.aaload, 1) := by decide +kernel
theorem dX3_layEnd_27 : decode cX3_layEnd 27 = .ok (.iload_n 2, 1) := by decide +kernel
theorem dX3_layEnd_28 : decode cX3_layEnd 28 = .ok (.dup2, 1) := by decide +kernel
theorem dX3_layEnd_29 : decode cX3_layEnd 29 = .ok (.laload, 1) := by decide +kernel
theorem dX3_layEnd_30 : decode cX3_layEnd 30 = .ok (.lload_n 3, 1) := by decide +kernel
theorem dX3_layEnd_31 : decode cX3_layEnd 31 = .ok (.lsub, 1) := by decide +kernel
theorem dX3_layEnd_32 : decode cX3_layEnd 32 = .ok (.lastore, 1) := by decide +kernel
theorem dX3_layEnd_33 : decode cX3_layEnd 33 = .ok (.return_, 1) := by decide +kernel
set_option maxRecDepth 20000 in
theorem ggX3_eliminate_X3_subtract : GoodIn wsX3_eliminate wsX3_subtract := goodIn_r _ [7, 2, 1, 8, 9, 10, 11, 12, 13, 14, 15] (by decide +kernel) (by decide +kernel)
set_option maxRecDepth 20000 in
theorem gX3_eliminate_X3_subtract : GoodIn wsX3_eliminate (wsV RX3 118 RX3 yX3_subtract wsX3_subtract) := goodIn_app (goodIn_of _ (by decide +kernel)) ggX3_eliminate_X3_subtract
theorem dX3_eliminate_0 : decode cX3_eliminate 0 = .ok (.lconst 1, 1) := by decide +kernel
theorem dX3_eliminate_1 : decode cX3_eliminate 1 = .ok (.lstore_n 1, 1) := by decide +kernel
theorem dX3_eliminate_2 : decode cX3_eliminate 2 = .ok (.iconst 0, 1) := by decide +kernel
theorem dX3_eliminate_3 : decode cX3_eliminate 3 = .ok (.istore_n 3, 1) := by decide +kernel
theorem dX3_eliminate_4 : decode cX3_eliminate 4 = .ok (.iload_n 3, 1) := by decide +kernel
theorem dX3_eliminate_5 : decode cX3_eliminate 5 = .ok (.aload_n 0, 1) := by decide +kernel
theorem dX3_eliminate_6 : decode cX3_eliminate 6 = .ok (.getfield 44, 3) := by decide +kernel
theorem dX3_eliminate_9 : decode cX3_eliminate 9 = .ok (.if_icmp .ge 63, 3) := by decide +kernel
theorem dX3_eliminate_12 : decode cX3_eliminate 12 = .ok (.aload_n 0, 1) := by decide +kernel
theorem dX3_eliminate_13 : decode cX3_eliminate 13 = .ok (.getfield 38, 3) := by decide +kernel
theorem dX3_eliminate_16 : decode cX3_eliminate 16 = .ok (.iload_n 3, 1) := by decide +kernel
theorem dX3_eliminate_17 : decode cX3_eliminate 17 = .ok (.aaload, 1) := by decide +kernel
theorem dX3_eliminate_18 : decode cX3_eliminate 18 = .ok (.iload_n 3, 1) := by decide +kernel
theorem dX3_eliminate_19 : decode cX3_eliminate 19 = .ok (.laload, 1) := by decide +kernel
theorem dX3_eliminate_20 : decode cX3_eliminate 20 = .ok (.lstore 4, 2) := by decide +kernel
theorem dX3_eliminate_22 : decode cX3_eliminate 22 = .ok (.lload 4, 2) := by decide +kernel
theorem dX3_eliminate_24 : decode cX3_eliminate 24 = .ok (.lconst 0, 1) := by decide +kernel
theorem dX3_eliminate_25 : decode cX3_eliminate 25 = .ok (.lcmp, 1) := by decide +kernel
theorem dX3_eliminate_26 : decode cX3_eliminate 26 = .ok (.ifCond .ne 5, 3) := by decide +kernel
theorem dX3_eliminate_29 : decode cX3_eliminate 29 = .ok (.lconst 0, 1) := by decide +kernel
theorem dX3_eliminate_30 : decode cX3_eliminate 30 = .ok (.lreturn, 1) := by decide +kernel
theorem dX3_eliminate_31 : decode cX3_eliminate 31 = .ok (.iconst 0, 1) := by decide +kernel
theorem dX3_eliminate_32 : decode cX3_eliminate 32 = .ok (.istore 6, 2) := by decide +kernel
theorem dX3_eliminate_34 : decode cX3_eliminate 34 = .ok (.iload 6, 2) := by decide +kernel
theorem dX3_eliminate_36 : decode cX3_eliminate 36 = .ok (.aload_n 0, 1) := by decide +kernel
theorem dX3_eliminate_37 : decode cX3_eliminate 37 = .ok (.getfield 44, 3) := by decide +kernel
theorem dX3_eliminate_40 : decode cX3_eliminate 40 = .ok (.if_icmp .ge 23, 3) := by decide +kernel
theorem dX3_eliminate_43 : decode cX3_eliminate 43 = .ok (.iload 6, 2) := by decide +kernel
theorem dX3_eliminate_45 : decode cX3_eliminate 45 = .ok (.iload_n 3, 1) := by decide +kernel
theorem dX3_eliminate_46 : decode cX3_eliminate 46 = .ok (.if_icmp .eq 11, 3) := by decide +kernel
theorem dX3_eliminate_49 : decode cX3_eliminate 49 = .ok (.aload_n 0, 1) := by decide +kernel
theorem dX3_eliminate_50 : decode cX3_eliminate 50 = .ok (.iload 6, 2) := by decide +kernel
theorem dX3_eliminate_52 : decode cX3_eliminate 52 = .ok (.iload_n 3, 1) := by decide +kernel
theorem dX3_eliminate_53 : decode cX3_eliminate 53 = .ok (.lload_n 1, 1) := by decide +kernel
theorem dX3_eliminate_54 : decode cX3_eliminate 54 = .ok (.invokevirtual 118, 3) := by decide +kernel
theorem dX3_eliminate_57 : decode cX3_eliminate 57 = .ok (.iinc 6 1, 3) := by decide +kernel
theorem dX3_eliminate_60 : decode cX3_eliminate 60 = .ok (.goto (-26), 3) := by decide +kernel
theorem dX3_eliminate_63 : decode cX3_eliminate 63 = .ok (.lload 4, 2) := by decide +kernel
theorem dX3_eliminate_65 : decode cX3_eliminate 65 = .ok (.lstore_n 1, 1) := by decide +kernel
theorem dX3_eliminate_66 : decode cX3_eliminate 66 = .ok (.iinc 3 1, 3) := by decide +kernel
theorem dX3_eliminate_69 : decode cX3_eliminate 69 = .ok (.goto (-65), 3) := by decide +kernel
theorem dX3_eliminate_72 : decode cX3_eliminate 72 = .ok (.lload_n 1, 1) := by decide +kernel
theorem dX3_eliminate_73 : decode cX3_eliminate 73 = .ok (.lreturn, 1) := by decide +kernel
theorem dX3_subtract_0 : decode cX3_subtract 0 = .ok (.lload_n 3, 1) := by decide +kernel
theorem dX3_subtract_1 : decode cX3_subtract 1 = .ok (.lconst 0, 1) := by decide +kernel
theorem dX3_subtract_2 : decode cX3_subtract 2 = .ok (.lcmp, 1) := by decide +kernel
theorem dX3_subtract_3 : decode cX3_subtract 3 = .ok (.ifCond .ne 4, 3) := by decide +kernel
theorem dX3_subtract_6 : decode cX3_subtract 6 = .ok (.return_, 1) := by decide +kernel
theorem dX3_subtract_7 : decode cX3_subtract 7 = .ok (.aload_n 0, 1) := by decide +kernel
theorem dX3_subtract_8 : decode cX3_subtract 8 = .ok (.getfield 38, 3) := by decide +kernel
theorem dX3_subtract_11 : decode cX3_subtract 11 = .ok (.iload_n 2, 1) := by decide +kernel
theorem dX3_subtract_12 : decode cX3_subtract 12 = .ok (.aaload, 1) := by decide +kernel
theorem dX3_subtract_13 : decode cX3_subtract 13 = .ok (.iload_n 2, 1) := by decide +kernel
theorem dX3_subtract_14 : decode cX3_subtract 14 = .ok (.laload, 1) := by decide +kernel
theorem dX3_subtract_15 : decode cX3_subtract 15 = .ok (.lstore 5, 2) := by decide +kernel
theorem dX3_subtract_17 : decode cX3_subtract 17 = .ok (.aload_n 0, 1) := by decide +kernel
theorem dX3_subtract_18 : decode cX3_subtract 18 = .ok (.getfield 38, 3) := by decide +kernel
theorem dX3_subtract_21 : decode cX3_subtract 21 = .ok (.iload_n 1, 1) := by decide +kernel
theorem dX3_subtract_22 : decode cX3_subtract 22 = .ok (.aaload, 1) := by decide +kernel
theorem dX3_subtract_23 : decode cX3_subtract 23 = .ok (.iload_n 2, 1) := by decide +kernel
theorem dX3_subtract_24 : decode cX3_subtract 24 = .ok (.laload, 1) := by decide +kernel
theorem dX3_subtract_25 : decode cX3_subtract 25 = .ok (.lstore 7, 2) := by decide +kernel
theorem dX3_subtract_27 : decode cX3_subtract 27 = .ok (.iload_n 2, 1) := by decide +kernel
theorem dX3_subtract_28 : decode cX3_subtract 28 = .ok (.iconst 1, 1) := by decide +kernel
theorem dX3_subtract_29 : decode cX3_subtract 29 = .ok (.iadd, 1) := by decide +kernel
theorem dX3_subtract_30 : decode cX3_subtract 30 = .ok (.istore 9, 2) := by decide +kernel
theorem dX3_subtract_32 : decode cX3_subtract 32 = .ok (.iload 9, 2) := by decide +kernel
theorem dX3_subtract_34 : decode cX3_subtract 34 = .ok (.aload_n 0, 1) := by decide +kernel
theorem dX3_subtract_35 : decode cX3_subtract 35 = .ok (.getfield 44, 3) := by decide +kernel
theorem dX3_subtract_38 : decode cX3_subtract 38 = .ok (.if_icmp .gt 45, 3) := by decide +kernel
theorem dX3_subtract_41 : decode cX3_subtract 41 = .ok (.aload_n 0, 1) := by decide +kernel
theorem dX3_subtract_42 : decode cX3_subtract 42 = .ok (.getfield 38, 3) := by decide +kernel
theorem dX3_subtract_45 : decode cX3_subtract 45 = .ok (.iload_n 1, 1) := by decide +kernel
theorem dX3_subtract_46 : decode cX3_subtract 46 = .ok (.aaload, 1) := by decide +kernel
theorem dX3_subtract_47 : decode cX3_subtract 47 = .ok (.iload 9, 2) := by decide +kernel
theorem dX3_subtract_49 : decode cX3_subtract 49 = .ok (.lload 5, 2) := by decide +kernel
theorem dX3_subtract_51 : decode cX3_subtract 51 = .ok (.aload_n 0, 1) := by decide +kernel
theorem dX3_subtract_52 : decode cX3_subtract 52 = .ok (.getfield 38, 3) := by decide +kernel
theorem dX3_subtract_55 : decode cX3_subtract 55 = .ok (.iload_n 1, 1) := by decide +kernel
theorem dX3_subtract_56 : decode cX3_subtract 56 = .ok (.aaload, 1) := by decide +kernel
theorem dX3_subtract_57 : decode cX3_subtract 57 = .ok (.iload 9, 2) := by decide +kernel
theorem dX3_subtract_59 : decode cX3_subtract 59 = .ok (.laload, 1) := by decide +kernel
theorem dX3_subtract_60 : decode cX3_subtract 60 = .ok (.lmul, 1) := by decide +kernel
theorem dX3_subtract_61 : decode cX3_subtract 61 = .ok (.lload 7, 2) := by decide +kernel
theorem dX3_subtract_63 : decode cX3_subtract 63 = .ok (.aload_n 0, 1) := by decide +kernel
theorem dX3_subtract_64 : decode cX3_subtract 64 = .ok (.getfield 38, 3) := by decide +kernel
theorem dX3_subtract_67 : decode cX3_subtract 67 = .ok (.iload_n 2, 1) := by decide +kernel
theorem dX3_subtract_68 : decode cX3_subtract 68 = .ok (.aaload, 1) := by decide +kernel
theorem dX3_subtract_69 : decode cX3_subtract 69 = .ok (.iload 9, 2) := by decide +kernel
theorem dX3_subtract_71 : decode cX3_subtract 71 = .ok (.laload, 1) := by decide +kernel
theorem dX3_subtract_72 : decode cX3_subtract 72 = .ok (.lmul, 1) := by decide +kernel
theorem dX3_subtract_73 : decode cX3_subtract 73 = .ok (.lsub, 1) := by decide +kernel
theorem dX3_subtract_74 : decode cX3_subtract 74 = .ok (.lload_n 3, 1) := by decide +kernel
theorem dX3_subtract_75 : decode cX3_subtract 75 = .ok (.ldiv, 1) := by decide +kernel
theorem dX3_subtract_76 : decode cX3_subtract 76 = .ok (.lastore, 1) := by decide +kernel
theorem dX3_subtract_77 : decode cX3_subtract 77 = .ok (.iinc 9 1, 3) := by decide +kernel
theorem dX3_subtract_80 : decode cX3_subtract 80 = .ok (.goto (-48), 3) := by decide +kernel
theorem dX3_subtract_83 : decode cX3_subtract 83 = .ok (.return_, 1) := by decide +kernel
set_option maxRecDepth 20000 in
theorem ggX3_fallsTogether_X3_reachedFrom : GoodIn wsX3_fallsTogether wsX3_reachedFrom := goodIn_r _ [6, 7, 8, 9, 10, 11, 12, 13, 14, 15, 16, 17, 18, 19, 20, 21, 45, 46, 47, 48, 49, 50, 51, 52, 53, 54, 55, 56, 57, 58, 59, 60, 61, 62, 63, 64] (by decide +kernel) (by decide +kernel)
set_option maxRecDepth 20000 in
theorem gX3_fallsTogether_X3_reachedFrom : GoodIn wsX3_fallsTogether (wsV RX3 70 RX3 yX3_reachedFrom wsX3_reachedFrom) := goodIn_app (goodIn_of _ (by decide +kernel)) ggX3_fallsTogether_X3_reachedFrom
set_option maxRecDepth 20000 in
theorem ggX3_fallsTogether_X3_layNeighbours : GoodIn wsX3_fallsTogether wsX3_layNeighbours := goodIn_r _ [25, 1, 7, 8, 9, 10, 11, 12, 13, 14, 15, 16, 17, 18, 19, 20, 21, 26, 27, 28, 5, 29, 45, 46, 47, 48, 49, 50, 51, 52, 53, 54, 55, 56, 57, 58, 59, 60, 61, 62, 63, 64] (by decide +kernel) (by decide +kernel)
set_option maxRecDepth 20000 in
theorem gX3_fallsTogether_X3_layNeighbours : GoodIn wsX3_fallsTogether (wsV RX3 121 RX3 yX3_layNeighbours wsX3_layNeighbours) := goodIn_app (goodIn_of _ (by decide +kernel)) ggX3_fallsTogether_X3_layNeighbours
set_option maxRecDepth 20000 in
theorem ggX3_fallsTogether_J6_bitCount_0f7a4 : GoodIn wsX3_fallsTogether wsJ6_bitCount_0f7a4 := goodIn_r _ [33, 34, 35, 36] (by decide +kernel) (by decide +kernel)
set_option maxRecDepth 20000 in
theorem gX3_fallsTogether_J6_bitCount_0f7a4 : GoodIn wsX3_fallsTogether (va_wsS RX3 124 yJ6_bitCount_0f7a4 wsJ6_bitCount_0f7a4) := goodIn_app (goodIn_of _ (by decide +kernel)) ggX3_fallsTogether_J6_bitCount_0f7a4
set_option maxRecDepth 20000 in
theorem ggX3_fallsTogether_X3_takeAway : GoodIn wsX3_fallsTogether wsX3_takeAway := goodIn_r _ [40, 1, 30, 31, 32, 33, 34, 35, 36, 41, 42, 43, 44, 26, 27, 28, 5, 29, 45, 46, 47, 48, 49, 50, 51, 52] (by decide +kernel) (by decide +kernel)
set_option maxRecDepth 20000 in
theorem gX3_fallsTogether_X3_takeAway : GoodIn wsX3_fallsTogether (wsV RX3 127 RX3 yX3_takeAway wsX3_takeAway) := goodIn_app (goodIn_of _ (by decide +kernel)) ggX3_fallsTogether_X3_takeAway
theorem dX3_fallsTogether_0 : decode cX3_fallsTogether 0 = .ok (.aload_n 0, 1) := by decide +kernel
theorem dX3_fallsTogether_1 : decode cX3_fallsTogether 1 = .ok (.aload_n 0, 1) := by decide +kernel
theorem dX3_fallsTogether_2 : decode cX3_fallsTogether 2 = .ok (.iload_n 1, 1) := by decide +kernel
theorem dX3_fallsTogether_3 : decode cX3_fallsTogether 3 = .ok (.invokevirtual 70, 3) := by decide +kernel
theorem dX3_fallsTogether_6 : decode cX3_fallsTogether 6 = .ok (.invokevirtual 121, 3) := by decide +kernel
theorem dX3_fallsTogether_9 : decode cX3_fallsTogether 9 = .ok (.iconst 1, 1) := by decide +kernel
theorem dX3_fallsTogether_10 : decode cX3_fallsTogether 10 = .ok (.iload_n 1, 1) := by decide +kernel
theorem dX3_fallsTogether_11 : decode cX3_fallsTogether 11 = .ok (.ishl, 1) := by decide +kernel
theorem dX3_fallsTogether_12 : decode cX3_fallsTogether 12 = .ok (.iconst 1, 1) := by decide +kernel
theorem dX3_fallsTogether_13 : decode cX3_fallsTogether 13 = .ok (.iload_n 2, 1) := by decide +kernel
theorem dX3_fallsTogether_14 : decode cX3_fallsTogether 14 = .ok (.ishl, 1) := by decide +kernel
theorem dX3_fallsTogether_15 : decode cX3_fallsTogether 15 = .ok (.ior, 1) := by decide +kernel
theorem dX3_fallsTogether_16 : decode cX3_fallsTogether 16 = .ok (.istore_n 3, 1) := by decide +kernel
theorem dX3_fallsTogether_17 : decode cX3_fallsTogether 17 = .ok (.iconst 0, 1) := by decide +kernel
theorem dX3_fallsTogether_18 : decode cX3_fallsTogether 18 = .ok (.istore 4, 2) := by decide +kernel
theorem dX3_fallsTogether_20 : decode cX3_fallsTogether 20 = .ok (.iload 4, 2) := by decide +kernel
theorem dX3_fallsTogether_22 : decode cX3_fallsTogether 22 = .ok (.bipush 6, 2) := by decide +kernel
theorem dX3_fallsTogether_24 : decode cX3_fallsTogether 24 = .ok (.if_icmp .ge 54, 3) := by decide +kernel
theorem dX3_fallsTogether_27 : decode cX3_fallsTogether 27 = .ok (.iconst 0, 1) := by decide +kernel
theorem dX3_fallsTogether_28 : decode cX3_fallsTogether 28 = .ok (.istore 5, 2) := by decide +kernel
theorem dX3_fallsTogether_30 : decode cX3_fallsTogether 30 = .ok (.iload 5, 2) := by decide +kernel
theorem dX3_fallsTogether_32 : decode cX3_fallsTogether 32 = .ok (.bipush 6, 2) := by decide +kernel
theorem dX3_fallsTogether_34 : decode cX3_fallsTogether 34 = .ok (.if_icmp .ge 38, 3) := by decide +kernel
theorem dX3_fallsTogether_37 : decode cX3_fallsTogether 37 = .ok (.iload_n 3, 1) := by decide +kernel
theorem dX3_fallsTogether_38 : decode cX3_fallsTogether 38 = .ok (.iload 5, 2) := by decide +kernel
theorem dX3_fallsTogether_40 : decode cX3_fallsTogether 40 = .ok (.ishr, 1) := by decide +kernel
theorem dX3_fallsTogether_41 : decode cX3_fallsTogether 41 = .ok (.iconst 1, 1) := by decide +kernel
theorem dX3_fallsTogether_42 : decode cX3_fallsTogether 42 = .ok (.iand, 1) := by decide +kernel
theorem dX3_fallsTogether_43 : decode cX3_fallsTogether 43 = .ok (.ifCond .ne 23, 3) := by decide +kernel
theorem dX3_fallsTogether_46 : decode cX3_fallsTogether 46 = .ok (.aload_n 0, 1) := by decide +kernel
theorem dX3_fallsTogether_47 : decode cX3_fallsTogether 47 = .ok (.getfield 32, 3) := by decide +kernel
theorem dX3_fallsTogether_50 : decode cX3_fallsTogether 50 = .ok (.iload 5, 2) := by decide +kernel
theorem dX3_fallsTogether_52 : decode cX3_fallsTogether 52 = .ok (.iaload, 1) := by decide +kernel
theorem dX3_fallsTogether_53 : decode cX3_fallsTogether 53 = .ok (.invokestatic 124, 3) := by decide +kernel
theorem dX3_fallsTogether_56 : decode cX3_fallsTogether 56 = .ok (.iconst 2, 1) := by decide +kernel
theorem dX3_fallsTogether_57 : decode cX3_fallsTogether 57 = .ok (.if_icmp .gt 9, 3) := by decide +kernel
theorem dX3_fallsTogether_60 : decode cX3_fallsTogether 60 = .ok (.aload_n 0, 1) := by decide +kernel
theorem dX3_fallsTogether_61 : decode cX3_fallsTogether 61 = .ok (.iload 5, 2) := by decide +kernel
theorem dX3_fallsTogether_63 : decode cX3_fallsTogether 63 = .ok (.invokevirtual 127, 3) := by decide +kernel
theorem dX3_fallsTogether_66 : decode cX3_fallsTogether 66 = .ok (.iinc 5 1, 3) := by decide +kernel
theorem dX3_fallsTogether_69 : decode cX3_fallsTogether 69 = .ok (.goto (-39), 3) := by decide +kernel
theorem dX3_fallsTogether_72 : decode cX3_fallsTogether 72 = .ok (.iinc 4 1, 3) := by decide +kernel
theorem dX3_fallsTogether_75 : decode cX3_fallsTogether 75 = .ok (.goto (-55), 3) := by decide +kernel
theorem dX3_fallsTogether_78 : decode cX3_fallsTogether 78 = .ok (.aload_n 0, 1) := by decide +kernel
theorem dX3_fallsTogether_79 : decode cX3_fallsTogether 79 = .ok (.getfield 32, 3) := by decide +kernel
theorem dX3_fallsTogether_82 : decode cX3_fallsTogether 82 = .ok (.iload_n 1, 1) := by decide +kernel
theorem dX3_fallsTogether_83 : decode cX3_fallsTogether 83 = .ok (.iaload, 1) := by decide +kernel
theorem dX3_fallsTogether_84 : decode cX3_fallsTogether 84 = .ok (.iconst 1, 1) := by decide +kernel
theorem dX3_fallsTogether_85 : decode cX3_fallsTogether 85 = .ok (.iload_n 2, 1) := by decide +kernel
theorem dX3_fallsTogether_86 : decode cX3_fallsTogether 86 = .ok (.ishl, 1) := by decide +kernel
theorem dX3_fallsTogether_87 : decode cX3_fallsTogether 87 = .ok (.if_icmp .ne 19, 3) := by decide +kernel
theorem dX3_fallsTogether_90 : decode cX3_fallsTogether 90 = .ok (.aload_n 0, 1) := by decide +kernel
theorem dX3_fallsTogether_91 : decode cX3_fallsTogether 91 = .ok (.getfield 32, 3) := by decide +kernel
theorem dX3_fallsTogether_94 : decode cX3_fallsTogether 94 = .ok (.iload_n 2, 1) := by decide +kernel
theorem dX3_fallsTogether_95 : decode cX3_fallsTogether 95 = .ok (.iaload, 1) := by decide +kernel
theorem dX3_fallsTogether_96 : decode cX3_fallsTogether 96 = .ok (.iconst 1, 1) := by decide +kernel
theorem dX3_fallsTogether_97 : decode cX3_fallsTogether 97 = .ok (.iload_n 1, 1) := by decide +kernel
end
section
theorem dX3_fallsTogether_98 : decode cX3_fallsTogether 98 = .ok (.ishl, 1) := by decide +kernel
theorem dX3_fallsTogether_99 : decode cX3_fallsTogether 99 = .ok (.if_icmp .ne 7, 3) := by decide +kernel
theorem dX3_fallsTogether_102 : decode cX3_fallsTogether 102 = .ok (.iconst 1, 1) := by decide +kernel
theorem dX3_fallsTogether_103 : decode cX3_fallsTogether 103 = .ok (.goto 4, 3) := by decide +kernel
theorem dX3_fallsTogether_106 : decode cX3_fallsTogether 106 = .ok (.iconst 0, 1) := by decide +kernel
theorem dX3_fallsTogether_107 : decode cX3_fallsTogether 107 = .ok (.ireturn, 1) := by decide +kernel
set_option maxRecDepth 20000 in
theorem ggX3_layNeighbours_X4_touches : GoodIn wsX3_layNeighbours wsX4_touches := goodIn_r _ [11, 12, 13, 30, 31, 32, 33, 34, 35, 36, 37, 38, 39, 40, 41] (by decide +kernel) (by decide +kernel)
set_option maxRecDepth 20000 in
theorem gX3_layNeighbours_X4_touches_u74X2 : GoodIn wsX3_layNeighbours (va_wsU RX3 74 RX2 "OhmNets$OneWire" ⟨"OhmNets$OneWire", "touches", "(I)Z"⟩ yX4_touches wsX4_touches) := goodIn_app (goodIn_of _ (by decide +kernel)) ggX3_layNeighbours_X4_touches
set_option maxRecDepth 20000 in
theorem gX3_layNeighbours_X4_touches : GoodIn wsX3_layNeighbours (wsV RX3 74 RX4 yX4_touches wsX4_touches) := goodIn_app (goodIn_of _ (by decide +kernel)) ggX3_layNeighbours_X4_touches
set_option maxRecDepth 20000 in
theorem gX3_layNeighbours_X4_touches_u74X8 : GoodIn wsX3_layNeighbours (va_wsU RX3 74 RX8 "OhmNets$OneWire" ⟨"OhmNets$OneWire", "touches", "(I)Z"⟩ yX4_touches wsX4_touches) := goodIn_app (goodIn_of _ (by decide +kernel)) ggX3_layNeighbours_X4_touches
set_option maxRecDepth 20000 in
theorem ggX3_layNeighbours_X3_link : GoodIn wsX3_layNeighbours wsX3_link := goodIn_r _ [21, 1, 22, 23, 24, 25, 26, 27, 28, 29] (by decide +kernel) (by decide +kernel)
set_option maxRecDepth 20000 in
theorem gX3_layNeighbours_X3_link : GoodIn wsX3_layNeighbours (wsV RX3 130 RX3 yX3_link wsX3_link) := goodIn_app (goodIn_of _ (by decide +kernel)) ggX3_layNeighbours_X3_link
theorem dX3_layNeighbours_0 : decode cX3_layNeighbours 0 = .ok (.iconst 0, 1) := by decide +kernel
theorem dX3_layNeighbours_1 : decode cX3_layNeighbours 1 = .ok (.istore_n 2, 1) := by decide +kernel
theorem dX3_layNeighbours_2 : decode cX3_layNeighbours 2 = .ok (.iload_n 2, 1) := by decide +kernel
theorem dX3_layNeighbours_3 : decode cX3_layNeighbours 3 = .ok (.bipush 6, 2) := by decide +kernel
theorem dX3_layNeighbours_5 : decode cX3_layNeighbours 5 = .ok (.if_icmp .ge 16, 3) := by decide +kernel
theorem dX3_layNeighbours_8 : decode cX3_layNeighbours 8 = .ok (.aload_n 0, 1) := by decide +kernel
theorem dX3_layNeighbours_9 : decode cX3_layNeighbours 9 = .ok (.getfield 32, 3) := by decide +kernel
theorem dX3_layNeighbours_12 : decode cX3_layNeighbours 12 = .ok (.iload_n 2, 1) := by decide +kernel
theorem dX3_layNeighbours_13 : decode cX3_layNeighbours 13 = .ok (.iconst 0, 1) := by decide +kernel
theorem dX3_layNeighbours_14 : decode cX3_layNeighbours 14 = .ok (.iastore, 1) := by decide +kernel
theorem dX3_layNeighbours_15 : decode cX3_layNeighbours 15 = .ok (.iinc 2 1, 3) := by decide +kernel
theorem dX3_layNeighbours_18 : decode cX3_layNeighbours 18 = .ok (.goto (-16), 3) := by decide +kernel
theorem dX3_layNeighbours_21 : decode cX3_layNeighbours 21 = .ok (.iconst 0, 1) := by decide +kernel
theorem dX3_layNeighbours_22 : decode cX3_layNeighbours 22 = .ok (.istore_n 2, 1) := by decide +kernel
theorem dX3_layNeighbours_23 : decode cX3_layNeighbours 23 = .ok (.iload_n 2, 1) := by decide +kernel
theorem dX3_layNeighbours_24 : decode cX3_layNeighbours 24 = .ok (.aload_n 0, 1) := by decide +kernel
theorem dX3_layNeighbours_25 : decode cX3_layNeighbours 25 = .ok (.getfield 21, 3) := by decide +kernel
theorem dX3_layNeighbours_28 : decode cX3_layNeighbours 28 = .ok (.if_icmp .ge 44, 3) := by decide +kernel
theorem dX3_layNeighbours_31 : decode cX3_layNeighbours 31 = .ok (.aload_n 0, 1) := by decide +kernel
theorem dX3_layNeighbours_32 : decode cX3_layNeighbours 32 = .ok (.getfield 11, 3) := by decide +kernel
theorem dX3_layNeighbours_35 : decode cX3_layNeighbours 35 = .ok (.iload_n 2, 1) := by decide +kernel
theorem dX3_layNeighbours_36 : decode cX3_layNeighbours 36 = .ok (.aaload, 1) := by decide +kernel
theorem dX3_layNeighbours_37 : decode cX3_layNeighbours 37 = .ok (.iload_n 1, 1) := by decide +kernel
theorem dX3_layNeighbours_38 : decode cX3_layNeighbours 38 = .ok (.invokevirtual 74, 3) := by decide +kernel
theorem dX3_layNeighbours_41 : decode cX3_layNeighbours 41 = .ok (.ifCond .eq 25, 3) := by decide +kernel
theorem dX3_layNeighbours_44 : decode cX3_layNeighbours 44 = .ok (.aload_n 0, 1) := by decide +kernel
theorem dX3_layNeighbours_45 : decode cX3_layNeighbours 45 = .ok (.aload_n 0, 1) := by decide +kernel
theorem dX3_layNeighbours_46 : decode cX3_layNeighbours 46 = .ok (.getfield 11, 3) := by decide +kernel
theorem dX3_layNeighbours_49 : decode cX3_layNeighbours 49 = .ok (.iload_n 2, 1) := by decide +kernel
theorem dX3_layNeighbours_50 : decode cX3_layNeighbours 50 = .ok (.aaload, 1) := by decide +kernel
theorem dX3_layNeighbours_51 : decode cX3_layNeighbours 51 = .ok (.getfield 64, 3) := by decide +kernel
theorem dX3_layNeighbours_54 : decode cX3_layNeighbours 54 = .ok (.aload_n 0, 1) := by decide +kernel
theorem dX3_layNeighbours_55 : decode cX3_layNeighbours 55 = .ok (.getfield 11, 3) := by decide +kernel
theorem dX3_layNeighbours_58 : decode cX3_layNeighbours 58 = .ok (.iload_n 2, 1) := by decide +kernel
theorem dX3_layNeighbours_59 : decode cX3_layNeighbours 59 = .ok (.aaload, 1) := by decide +kernel
theorem dX3_layNeighbours_60 : decode cX3_layNeighbours 60 = .ok (.getfield 67, 3) := by decide +kernel
theorem dX3_layNeighbours_63 : decode cX3_layNeighbours 63 = .ok (.invokevirtual 130, 3) := by decide +kernel
theorem dX3_layNeighbours_66 : decode cX3_layNeighbours 66 = .ok (.iinc 2 1, 3) := by decide +kernel
theorem dX3_layNeighbours_69 : decode cX3_layNeighbours 69 = .ok (.goto (-46), 3) := by decide +kernel
theorem dX3_layNeighbours_72 : decode cX3_layNeighbours 72 = .ok (.return_, 1) := by decide +kernel
theorem dX3_link_0 : decode cX3_link 0 = .ok (.aload_n 0, 1) := by decide +kernel
theorem dX3_link_1 : decode cX3_link 1 = .ok (.getfield 32, 3) := by decide +kernel
theorem dX3_link_4 : decode cX3_link 4 = .ok (.iload_n 1, 1) := by decide +kernel
theorem dX3_link_5 : decode cX3_link 5 = .ok (.dup2, 1) := by decide +kernel
theorem dX3_link_6 : decode cX3_link 6 = .ok (.iaload, 1) := by decide +kernel
theorem dX3_link_7 : decode cX3_link 7 = .ok (.iconst 1, 1) := by decide +kernel
theorem dX3_link_8 : decode cX3_link 8 = .ok (.iload_n 2, 1) := by decide +kernel
theorem dX3_link_9 : decode cX3_link 9 = .ok (.ishl, 1) := by decide +kernel
theorem dX3_link_10 : decode cX3_link 10 = .ok (.ior, 1) := by decide +kernel
theorem dX3_link_11 : decode cX3_link 11 = .ok (.iastore, 1) := by decide +kernel
theorem dX3_link_12 : decode cX3_link 12 = .ok (.aload_n 0, 1) := by decide +kernel
theorem dX3_link_13 : decode cX3_link 13 = .ok (.getfield 32, 3) := by decide +kernel
theorem dX3_link_16 : decode cX3_link 16 = .ok (.iload_n 2, 1) := by decide +kernel
theorem dX3_link_17 : decode cX3_link 17 = .ok (.dup2, 1) := by decide +kernel
theorem dX3_link_18 : decode cX3_link 18 = .ok (.iaload, 1) := by decide +kernel
theorem dX3_link_19 : decode cX3_link 19 = .ok (.iconst 1, 1) := by decide +kernel
theorem dX3_link_20 : decode cX3_link 20 = .ok (.iload_n 1, 1) := by decide +kernel
theorem dX3_link_21 : decode cX3_link 21 = .ok (.ishl, 1) := by decide +kernel
theorem dX3_link_22 : decode cX3_link 22 = .ok (.ior, 1) := by decide +kernel
theorem dX3_link_23 : decode cX3_link 23 = .ok (.iastore, 1) := by decide +kernel
theorem dX3_link_24 : decode cX3_link 24 = .ok (.return_, 1) := by decide +kernel
set_option maxRecDepth 20000 in
theorem ggX3_takeAway_J6_bitCount_0f7a4 : GoodIn wsX3_takeAway wsJ6_bitCount_0f7a4 := goodIn_r _ [5, 6, 7, 8] (by decide +kernel) (by decide +kernel)
set_option maxRecDepth 20000 in
theorem gX3_takeAway_J6_bitCount_0f7a4 : GoodIn wsX3_takeAway (va_wsS RX3 124 yJ6_bitCount_0f7a4 wsJ6_bitCount_0f7a4) := goodIn_app (goodIn_of _ (by decide +kernel)) ggX3_takeAway_J6_bitCount_0f7a4
set_option maxRecDepth 20000 in
theorem ggX3_takeAway_J6_numberOfTrailingZeros_0f7a4 : GoodIn wsX3_takeAway wsJ6_numberOfTrailingZeros_0f7a4 := goodIn_r _ [11, 12] (by decide +kernel) (by decide +kernel)
set_option maxRecDepth 20000 in
theorem gX3_takeAway_J6_numberOfTrailingZeros_0f7a4 : GoodIn wsX3_takeAway (va_wsS RX3 105 yJ6_numberOfTrailingZeros_0f7a4 wsJ6_numberOfTrailingZeros_0f7a4) := goodIn_app (goodIn_of _ (by decide +kernel)) ggX3_takeAway_J6_numberOfTrailingZeros_0f7a4
set_option maxRecDepth 20000 in
theorem ggX3_takeAway_X3_link : GoodIn wsX3_takeAway wsX3_link := goodIn_r _ [17, 1, 18, 19, 20, 21, 22, 23, 24, 25] (by decide +kernel) (by decide +kernel)
set_option maxRecDepth 20000 in
theorem gX3_takeAway_X3_link : GoodIn wsX3_takeAway (wsV RX3 130 RX3 yX3_link wsX3_link) := goodIn_app (goodIn_of _ (by decide +kernel)) ggX3_takeAway_X3_link
theorem dX3_takeAway_0 : decode cX3_takeAway 0 = .ok (.aload_n 0, 1) := by decide +kernel
theorem dX3_takeAway_1 : decode cX3_takeAway 1 = .ok (.getfield 32, 3) := by decide +kernel
theorem dX3_takeAway_4 : decode cX3_takeAway 4 = .ok (.iload_n 1, 1) := by decide +kernel
theorem dX3_takeAway_5 : decode cX3_takeAway 5 = .ok (.iaload, 1) := by decide +kernel
theorem dX3_takeAway_6 : decode cX3_takeAway 6 = .ok (.istore_n 2, 1) := by decide +kernel
theorem dX3_takeAway_7 : decode cX3_takeAway 7 = .ok (.aload_n 0, 1) := by decide +kernel
theorem dX3_takeAway_8 : decode cX3_takeAway 8 = .ok (.getfield 32, 3) := by decide +kernel
theorem dX3_takeAway_11 : decode cX3_takeAway 11 = .ok (.iload_n 1, 1) := by decide +kernel
theorem dX3_takeAway_12 : decode cX3_takeAway 12 = .ok (.iconst 0, 1) := by decide +kernel
theorem dX3_takeAway_13 : decode cX3_takeAway 13 = .ok (.iastore, 1) := by decide +kernel
theorem dX3_takeAway_14 : decode cX3_takeAway 14 = .ok (.iconst 0, 1) := by decide +kernel
theorem dX3_takeAway_15 : decode cX3_takeAway 15 = .ok (.istore_n 3, 1) := by decide +kernel
theorem dX3_takeAway_16 : decode cX3_takeAway 16 = .ok (.iload_n 3, 1) := by decide +kernel
theorem dX3_takeAway_17 : decode cX3_takeAway 17 = .ok (.bipush 6, 2) := by decide +kernel
theorem dX3_takeAway_19 : decode cX3_takeAway 19 = .ok (.if_icmp .ge 23, 3) := by decide +kernel
theorem dX3_takeAway_22 : decode cX3_takeAway 22 = .ok (.aload_n 0, 1) := by decide +kernel
theorem dX3_takeAway_23 : decode cX3_takeAway 23 = .ok (.getfield 32, 3) := by decide +kernel
theorem dX3_takeAway_26 : decode cX3_takeAway 26 = .ok (.iload_n 3, 1) := by decide +kernel
theorem dX3_takeAway_27 : decode cX3_takeAway 27 = .ok (.dup2, 1) := by decide +kernel
theorem dX3_takeAway_28 : decode cX3_takeAway 28 = .ok (.iaload, 1) := by decide +kernel
theorem dX3_takeAway_29 : decode cX3_takeAway 29 = .ok (.iconst 1, 1) := by decide +kernel
theorem dX3_takeAway_30 : decode cX3_takeAway 30 = .ok (.iload_n 1, 1) := by decide +kernel
theorem dX3_takeAway_31 : decode cX3_takeAway 31 = .ok (.ishl, 1) := by decide +kernel
theorem dX3_takeAway_32 : decode cX3_takeAway 32 = .ok (.iconst (-1), 1) := by decide +kernel
theorem dX3_takeAway_33 : decode cX3_takeAway 33 = .ok (.ixor, 1) := by decide +kernel
theorem dX3_takeAway_34 : decode cX3_takeAway 34 = .ok (.iand, 1) := by decide +kernel
theorem dX3_takeAway_35 : decode cX3_takeAway 35 = .ok (.iastore, 1) := by decide +kernel
theorem dX3_takeAway_36 : decode cX3_takeAway 36 = .ok (.iinc 3 1, 3) := by decide +kernel
theorem dX3_takeAway_39 : decode cX3_takeAway 39 = .ok (.goto (-23), 3) := by decide +kernel
theorem dX3_takeAway_42 : decode cX3_takeAway 42 = .ok (.iload_n 2, 1) := by decide +kernel
theorem dX3_takeAway_43 : decode cX3_takeAway 43 = .ok (.invokestatic 124, 3) := by decide +kernel
theorem dX3_takeAway_46 : decode cX3_takeAway 46 = .ok (.iconst 2, 1) := by decide +kernel
theorem dX3_takeAway_47 : decode cX3_takeAway 47 = .ok (.if_icmp .ne 27, 3) := by decide +kernel
theorem dX3_takeAway_50 : decode cX3_takeAway 50 = .ok (.iload_n 2, 1) := by decide +kernel
theorem dX3_takeAway_51 : decode cX3_takeAway 51 = .ok (.invokestatic 105, 3) := by decide +kernel
theorem dX3_takeAway_54 : decode cX3_takeAway 54 = .ok (.istore_n 3, 1) := by decide +kernel
theorem dX3_takeAway_55 : decode cX3_takeAway 55 = .ok (.iload_n 2, 1) := by decide +kernel
theorem dX3_takeAway_56 : decode cX3_takeAway 56 = .ok (.iconst 1, 1) := by decide +kernel
theorem dX3_takeAway_57 : decode cX3_takeAway 57 = .ok (.iload_n 3, 1) := by decide +kernel
theorem dX3_takeAway_58 : decode cX3_takeAway 58 = .ok (.ishl, 1) := by decide +kernel
theorem dX3_takeAway_59 : decode cX3_takeAway 59 = .ok (.iconst (-1), 1) := by decide +kernel
theorem dX3_takeAway_60 : decode cX3_takeAway 60 = .ok (.ixor, 1) := by decide +kernel
theorem dX3_takeAway_61 : decode cX3_takeAway 61 = .ok (.iand, 1) := by decide +kernel
theorem dX3_takeAway_62 : decode cX3_takeAway 62 = .ok (.invokestatic 105, 3) := by decide +kernel
theorem dX3_takeAway_65 : decode cX3_takeAway 65 = .ok (.istore 4, 2) := by decide +kernel
theorem dX3_takeAway_67 : decode cX3_takeAway 67 = .ok (.aload_n 0, 1) := by decide +kernel
theorem dX3_takeAway_68 : decode cX3_takeAway 68 = .ok (.iload_n 3, 1) := by decide +kernel
theorem dX3_takeAway_69 : decode cX3_takeAway 69 = .ok (.iload 4, 2) := by decide +kernel
theorem dX3_takeAway_71 : decode cX3_takeAway 71 = .ok (.invokevirtual 130, 3) := by decide +kernel
theorem dX3_takeAway_74 : decode cX3_takeAway 74 = .ok (.return_, 1) := by decide +kernel
theorem dX4_init_0 : decode cX4_init 0 = .ok (.aload_n 0, 1) := by decide +kernel
theorem dX4_init_1 : decode cX4_init 1 = .ok (.invokespecial 1, 3) := by decide +kernel
theorem dX4_init_4 : decode cX4_init 4 = .ok (.aload_n 0, 1) := by decide +kernel
theorem dX4_init_5 : decode cX4_init 5 = .ok (.iload_n 1, 1) := by decide +kernel
theorem dX4_init_6 : decode cX4_init 6 = .ok (.putfield 7, 3) := by decide +kernel
theorem dX4_init_9 : decode cX4_init 9 = .ok (.aload_n 0, 1) := by decide +kernel
theorem dX4_init_10 : decode cX4_init 10 = .ok (.iload_n 2, 1) := by decide +kernel
theorem dX4_init_11 : decode cX4_init 11 = .ok (.putfield 13, 3) := by decide +kernel
theorem dX4_init_14 : decode cX4_init 14 = .ok (.aload_n 0, 1) := by decide +kernel
theorem dX4_init_15 : decode cX4_init 15 = .ok (.iload_n 3, 1) := by decide +kernel
theorem dX4_init_16 : decode cX4_init 16 = .ok (.putfield 16, 3) := by decide +kernel
theorem dX4_init_19 : decode cX4_init 19 = .ok (.return_, 1) := by decide +kernel
set_option maxRecDepth 20000 in
theorem ggX4_measure_X0_set : GoodIn wsX4_measure wsX0_set := goodIn_r _ [5, 6, 7, 8, 9] (by decide +kernel) (by decide +kernel)
set_option maxRecDepth 20000 in
theorem gX4_measure_X0_set : GoodIn wsX4_measure (wsV RX4 19 RX0 yX0_set wsX0_set) := goodIn_app (goodIn_of _ (by decide +kernel)) ggX4_measure_X0_set
theorem dX4_measure_0 : decode cX4_measure 0 = .ok (.aload_n 1, 1) := by decide +kernel
theorem dX4_measure_1 : decode cX4_measure 1 = .ok (.lconst 1, 1) := by decide +kernel
theorem dX4_measure_2 : decode cX4_measure 2 = .ok (.lconst 1, 1) := by decide +kernel
theorem dX4_measure_3 : decode cX4_measure 3 = .ok (.invokevirtual 19, 3) := by decide +kernel
theorem dX4_measure_6 : decode cX4_measure 6 = .ok (.iconst 1, 1) := by decide +kernel
theorem dX4_measure_7 : decode cX4_measure 7 = .ok (.ireturn, 1) := by decide +kernel
theorem dX4_touches_0 : decode cX4_touches 0 = .ok (.iconst 1, 1) := by decide +kernel
theorem dX4_touches_1 : decode cX4_touches 1 = .ok (.aload_n 0, 1) := by decide +kernel
theorem dX4_touches_2 : decode cX4_touches 2 = .ok (.getfield 13, 3) := by decide +kernel
theorem dX4_touches_5 : decode cX4_touches 5 = .ok (.ishl, 1) := by decide +kernel
theorem dX4_touches_6 : decode cX4_touches 6 = .ok (.iconst 1, 1) := by decide +kernel
theorem dX4_touches_7 : decode cX4_touches 7 = .ok (.aload_n 0, 1) := by decide +kernel
theorem dX4_touches_8 : decode cX4_touches 8 = .ok (.getfield 16, 3) := by decide +kernel
theorem dX4_touches_11 : decode cX4_touches 11 = .ok (.ishl, 1) := by decide +kernel
theorem dX4_touches_12 : decode cX4_touches 12 = .ok (.ior, 1) := by decide +kernel
theorem dX4_touches_13 : decode cX4_touches 13 = .ok (.iload_n 1, 1) := by decide +kernel
theorem dX4_touches_14 : decode cX4_touches 14 = .ok (.iand, 1) := by decide +kernel
theorem dX4_touches_15 : decode cX4_touches 15 = .ok (.ifCond .eq 7, 3) := by decide +kernel
theorem dX4_touches_18 : decode cX4_touches 18 = .ok (.iconst 1, 1) := by decide +kernel
theorem dX4_touches_19 : decode cX4_touches 19 = .ok (.goto 4, 3) := by decide +kernel
theorem dX4_touches_22 : decode cX4_touches 22 = .ok (.iconst 0, 1) := by decide +kernel
theorem dX4_touches_23 : decode cX4_touches 23 = .ok (.ireturn, 1) := by decide +kernel
theorem dX5_init_0 : decode cX5_init 0 = .ok (.aload_n 0, 1) := by decide +kernel
theorem dX5_init_1 : decode cX5_init 1 = .ok (.invokespecial 1, 3) := by decide +kernel
theorem dX5_init_4 : decode cX5_init 4 = .ok (.aload_n 0, 1) := by decide +kernel
theorem dX5_init_5 : decode cX5_init 5 = .ok (.iload_n 1, 1) := by decide +kernel
theorem dX5_init_6 : decode cX5_init 6 = .ok (.putfield 7, 3) := by decide +kernel
theorem dX5_init_9 : decode cX5_init 9 = .ok (.aload_n 0, 1) := by decide +kernel
theorem dX5_init_10 : decode cX5_init 10 = .ok (.iload_n 2, 1) := by decide +kernel
theorem dX5_init_11 : decode cX5_init 11 = .ok (.putfield 13, 3) := by decide +kernel
theorem dX5_init_14 : decode cX5_init 14 = .ok (.aload_n 0, 1) := by decide +kernel
theorem dX5_init_15 : decode cX5_init 15 = .ok (.iload_n 3, 1) := by decide +kernel
theorem dX5_init_16 : decode cX5_init 16 = .ok (.putfield 16, 3) := by decide +kernel
theorem dX5_init_19 : decode cX5_init 19 = .ok (.aload_n 0, 1) := by decide +kernel
theorem dX5_init_20 : decode cX5_init 20 = .ok (.iload 4, 2) := by decide +kernel
theorem dX5_init_22 : decode cX5_init 22 = .ok (.putfield 19, 3) := by decide +kernel
theorem dX5_init_25 : decode cX5_init 25 = .ok (.aload_n 0, 1) := by decide +kernel
theorem dX5_init_26 : decode cX5_init 26 = .ok (.iload 5, 2) := by decide +kernel
theorem dX5_init_28 : decode cX5_init 28 = .ok (.putfield 22, 3) := by decide +kernel
theorem dX5_init_31 : decode cX5_init 31 = .ok (.aload_n 0, 1) := by decide +kernel
theorem dX5_init_32 : decode cX5_init 32 = .ok (.iload 6, 2) := by decide +kernel
theorem dX5_init_34 : decode cX5_init 34 = .ok (.putfield 25, 3) := by decide +kernel
theorem dX5_init_37 : decode cX5_init 37 = .ok (.return_, 1) := by decide +kernel
set_option maxRecDepth 20000 in
theorem ggX6_init_Jx4a65c_init_da8c8 : GoodIn wsX6_init wsJx4a65c_init_da8c8 := goodIn_r _ [10, 11, 12, 13, 14, 15, 16, 17, 18, 19, 20, 21, 22, 2, 3, 23, 24, 25] (by decide +kernel) (by decide +kernel)
set_option maxRecDepth 20000 in
theorem gX6_init_Jx4a65c_init_da8c8 : GoodIn wsX6_init (wsJx4a65c_init_da8c8) := ggX6_init_Jx4a65c_init_da8c8
theorem dX6_init_0 : decode cX6_init 0 = .ok (.aload_n 0, 1) := by decide +kernel
theorem dX6_init_1 : decode cX6_init 1 = .ok (.invokespecial 3, 3) := by decide +kernel
theorem dX6_init_4 : decode cX6_init 4 = .ok (.aload_n 0, 1) := by decide +kernel
theorem dX6_init_5 : decode cX6_init 5 = .ok (.new 9, 3) := by decide +kernel
theorem dX6_init_8 : decode cX6_init 8 = .ok (.dup, 1) := by decide +kernel
theorem dX6_init_9 : decode cX6_init 9 = .ok (.invokespecial 11, 3) := by decide +kernel
theorem dX6_init_12 : decode cX6_init 12 = .ok (.putfield 12, 3) := by decide +kernel
theorem dX6_init_15 : decode cX6_init 15 = .ok (.return_, 1) := by decide +kernel
set_option maxRecDepth 20000 in
theorem ggX6_size_Jx4a65c_size_8abf5 : GoodIn wsX6_size wsJx4a65c_size_8abf5 := goodIn_r _ [6, 7, 9, 10, 11] (by decide +kernel) (by decide +kernel)
set_option maxRecDepth 20000 in
theorem gX6_size_Jx4a65c_size_8abf5 : GoodIn wsX6_size (wsV RX6 18 RJx4a65c yJx4a65c_size_8abf5 wsJx4a65c_size_8abf5) := goodIn_app (goodIn_of _ (by decide +kernel)) ggX6_size_Jx4a65c_size_8abf5
theorem dX6_size_0 : decode cX6_size 0 = .ok (.aload_n 0, 1) := by decide +kernel
theorem dX6_size_1 : decode cX6_size 1 = .ok (.getfield 12, 3) := by decide +kernel
theorem dX6_size_4 : decode cX6_size 4 = .ok (.invokevirtual 18, 3) := by decide +kernel
theorem dX6_size_7 : decode cX6_size 7 = .ok (.ireturn, 1) := by decide +kernel
set_option maxRecDepth 20000 in
theorem ggX6_at_Jx4a65c_size_8abf5 : GoodIn wsX6_at wsJx4a65c_size_8abf5 := goodIn_r _ [7, 8, 27, 28, 29] (by decide +kernel) (by decide +kernel)
set_option maxRecDepth 20000 in
theorem gX6_at_Jx4a65c_size_8abf5 : GoodIn wsX6_at (wsV RX6 18 RJx4a65c yJx4a65c_size_8abf5 wsJx4a65c_size_8abf5) := goodIn_app (goodIn_of _ (by decide +kernel)) ggX6_at_Jx4a65c_size_8abf5
set_option maxRecDepth 20000 in
theorem ggX6_at_Jx4a65c_get_915e3 : GoodIn wsX6_at wsJx4a65c_get_915e3 := goodIn_r _ [12, 8, 13, 14, 15, 16, 17, 18, 19, 20, 21, 22, 23, 6, 24, 25, 27, 28, 29] (by decide +kernel) (by decide +kernel)
set_option maxRecDepth 20000 in
theorem gX6_at_Jx4a65c_get_915e3 : GoodIn wsX6_at (wsV RX6 22 RJx4a65c yJx4a65c_get_915e3 wsJx4a65c_get_915e3) := goodIn_app (goodIn_of _ (by decide +kernel)) ggX6_at_Jx4a65c_get_915e3
theorem dX6_at_0 : decode cX6_at 0 = .ok (.iload_n 1, 1) := by decide +kernel
theorem dX6_at_1 : decode cX6_at 1 = .ok (.ifCond .lt 14, 3) := by decide +kernel
theorem dX6_at_4 : decode cX6_at 4 = .ok (.iload_n 1, 1) := by decide +kernel
theorem dX6_at_5 : decode cX6_at 5 = .ok (.aload_n 0, 1) := by decide +kernel
theorem dX6_at_6 : decode cX6_at 6 = .ok (.getfield 12, 3) := by decide +kernel
theorem dX6_at_9 : decode cX6_at 9 = .ok (.invokevirtual 18, 3) := by decide +kernel
theorem dX6_at_12 : decode cX6_at 12 = .ok (.if_icmp .lt 5, 3) := by decide +kernel
theorem dX6_at_15 : decode cX6_at 15 = .ok (.aconst_null, 1) := by decide +kernel
theorem dX6_at_16 : decode cX6_at 16 = .ok (.areturn, 1) := by decide +kernel
theorem dX6_at_17 : decode cX6_at 17 = .ok (.aload_n 0, 1) := by decide +kernel
theorem dX6_at_18 : decode cX6_at 18 = .ok (.getfield 12, 3) := by decide +kernel
theorem dX6_at_21 : decode cX6_at 21 = .ok (.iload_n 1, 1) := by decide +kernel
theorem dX6_at_22 : decode cX6_at 22 = .ok (.invokevirtual 22, 3) := by decide +kernel
theorem dX6_at_25 : decode cX6_at 25 = .ok (.checkcast 26, 3) := by decide +kernel
theorem dX6_at_28 : decode cX6_at 28 = .ok (.areturn, 1) := by decide +kernel
set_option maxRecDepth 20000 in
theorem ggX6_find_X6_placeOf : GoodIn wsX6_find wsX6_placeOf := goodIn_r _ [5, 6, 7, 8, 9, 10, 11, 12, 13, 14, 15, 16, 17, 18, 19, 20, 21, 22, 23, 24, 25, 26, 27, 28, 29, 30, 31, 32, 4, 33, 34, 35, 36, 37, 38, 39, 44, 45, 46, 47, 48, 49, 50, 51, 52, 53] (by decide +kernel) (by decide +kernel)
set_option maxRecDepth 20000 in
theorem gX6_find_X6_placeOf : GoodIn wsX6_find (wsV RX6 28 RX6 yX6_placeOf wsX6_placeOf) := goodIn_app (goodIn_of _ (by decide +kernel)) ggX6_find_X6_placeOf
set_option maxRecDepth 20000 in
theorem ggX6_find_X6_isAt : GoodIn wsX6_find wsX6_isAt := goodIn_r _ [43, 6, 7, 8, 9, 10, 11, 12, 13, 14, 15, 16, 17, 18, 19, 20, 21, 22, 23, 24, 25, 26, 27, 28, 29, 30, 31, 32, 4, 33, 34, 35, 36, 37, 38, 39, 44, 45, 46, 47, 48, 49, 50, 51, 52, 53] (by decide +kernel) (by decide +kernel)
set_option maxRecDepth 20000 in
theorem gX6_find_X6_isAt : GoodIn wsX6_find (wsV RX6 32 RX6 yX6_isAt wsX6_isAt) := goodIn_app (goodIn_of _ (by decide +kernel)) ggX6_find_X6_isAt
theorem dX6_find_0 : decode cX6_find 0 = .ok (.aload_n 0, 1) := by decide +kernel
theorem dX6_find_1 : decode cX6_find 1 = .ok (.iload_n 1, 1) := by decide +kernel
theorem dX6_find_2 : decode cX6_find 2 = .ok (.iload_n 2, 1) := by decide +kernel
theorem dX6_find_3 : decode cX6_find 3 = .ok (.invokevirtual 28, 3) := by decide +kernel
theorem dX6_find_6 : decode cX6_find 6 = .ok (.istore_n 3, 1) := by decide +kernel
theorem dX6_find_7 : decode cX6_find 7 = .ok (.aload_n 0, 1) := by decide +kernel
theorem dX6_find_8 : decode cX6_find 8 = .ok (.iload_n 3, 1) := by decide +kernel
theorem dX6_find_9 : decode cX6_find 9 = .ok (.iload_n 1, 1) := by decide +kernel
theorem dX6_find_10 : decode cX6_find 10 = .ok (.iload_n 2, 1) := by decide +kernel
theorem dX6_find_11 : decode cX6_find 11 = .ok (.invokevirtual 32, 3) := by decide +kernel
theorem dX6_find_14 : decode cX6_find 14 = .ok (.ifCond .eq 7, 3) := by decide +kernel
theorem dX6_find_17 : decode cX6_find 17 = .ok (.iload_n 3, 1) := by decide +kernel
theorem dX6_find_18 : decode cX6_find 18 = .ok (.goto 5, 3) := by decide +kernel
theorem dX6_find_21 : decode cX6_find 21 = .ok (.bipush (-9), 2) := by decide +kernel
theorem dX6_find_23 : decode cX6_find 23 = .ok (.ireturn, 1) := by decide +kernel
set_option maxRecDepth 20000 in
theorem ggX6_offer_X6_placeOf : GoodIn wsX6_offer wsX6_placeOf := goodIn_r _ [11, 3, 12, 13, 14, 15, 16, 17, 18, 19, 20, 21, 22, 23, 24, 25, 26, 27, 28, 29, 30, 31, 32, 33, 34, 35, 36, 37, 10, 38, 39, 40, 41, 42, 43, 44, 130, 137, 138, 139, 131, 132, 133, 134, 135, 136] (by decide +kernel) (by decide +kernel)
set_option maxRecDepth 20000 in
theorem gX6_offer_X6_placeOf : GoodIn wsX6_offer (wsV RX6 28 RX6 yX6_placeOf wsX6_placeOf) := goodIn_app (goodIn_of _ (by decide +kernel)) ggX6_offer_X6_placeOf
set_option maxRecDepth 20000 in
theorem ggX6_offer_X6_isAt : GoodIn wsX6_offer wsX6_isAt := goodIn_r _ [48, 3, 12, 13, 14, 15, 16, 17, 18, 19, 20, 21, 22, 23, 24, 25, 26, 27, 28, 29, 30, 31, 32, 33, 34, 35, 36, 37, 10, 38, 39, 40, 41, 42, 43, 44, 130, 137, 138, 139, 131, 132, 133, 134, 135, 136] (by decide +kernel) (by decide +kernel)
set_option maxRecDepth 20000 in
theorem gX6_offer_X6_isAt : GoodIn wsX6_offer (wsV RX6 32 RX6 yX6_isAt wsX6_isAt) := goodIn_app (goodIn_of _ (by decide +kernel)) ggX6_offer_X6_isAt
set_option maxRecDepth 20000 in
theorem ggX6_offer_X0_reduce : GoodIn wsX6_offer wsX0_reduce := goodIn_r _ [53, 54, 55, 56, 57, 58, 59, 60, 61, 52, 62, 128, 129] (by decide +kernel) (by decide +kernel)
set_option maxRecDepth 20000 in
theorem gX6_offer_X0_reduce : GoodIn wsX6_offer (wsV RX6 45 RX0 yX0_reduce wsX0_reduce) := goodIn_app (goodIn_of _ (by decide +kernel)) ggX6_offer_X0_reduce
set_option maxRecDepth 20000 in
theorem ggX6_offer_X5_init : GoodIn wsX6_offer wsX5_init := goodIn_r _ [65, 66, 67, 68, 69, 70, 71, 72, 73, 74, 131, 132, 133, 134, 135, 136] (by decide +kernel) (by decide +kernel)
set_option maxRecDepth 20000 in
theorem gX6_offer_X5_init : GoodIn wsX6_offer (wsX5_init) := ggX6_offer_X5_init
set_option maxRecDepth 20000 in
theorem ggX6_offer_Jx4a65c_add_7a177 : GoodIn wsX6_offer wsJx4a65c_add_7a177 := goodIn_r _ [78, 79, 80, 18, 35, 81, 82, 83, 84, 85, 86, 87, 16, 88, 89, 90, 91, 92, 93, 94, 95, 96, 97, 98, 99, 57, 100, 101, 102, 103, 104, 105, 106, 107, 108, 109, 110, 111, 112, 113, 114, 115, 116, 117, 118, 119, 120, 121, 122, 123, 124, 125, 126, 127, 137, 138, 139] (by decide +kernel) (by decide +kernel)
set_option maxRecDepth 20000 in
theorem gX6_offer_Jx4a65c_add_7a177 : GoodIn wsX6_offer (wsV RX6 51 RJx4a65c yJx4a65c_add_7a177 wsJx4a65c_add_7a177) := goodIn_app (goodIn_of _ (by decide +kernel)) ggX6_offer_Jx4a65c_add_7a177
theorem dX6_offer_0 : decode cX6_offer 0 = .ok (.aload_n 1, 1) := by decide +kernel
theorem dX6_offer_1 : decode cX6_offer 1 = .ok (.getfield 36, 3) := by decide +kernel
theorem dX6_offer_4 : decode cX6_offer 4 = .ok (.l2i, 1) := by decide +kernel
theorem dX6_offer_5 : decode cX6_offer 5 = .ok (.istore 6, 2) := by decide +kernel
theorem dX6_offer_7 : decode cX6_offer 7 = .ok (.aload_n 1, 1) := by decide +kernel
theorem dX6_offer_8 : decode cX6_offer 8 = .ok (.getfield 42, 3) := by decide +kernel
theorem dX6_offer_11 : decode cX6_offer 11 = .ok (.l2i, 1) := by decide +kernel
theorem dX6_offer_12 : decode cX6_offer 12 = .ok (.istore 7, 2) := by decide +kernel
theorem dX6_offer_14 : decode cX6_offer 14 = .ok (.aload_n 0, 1) := by decide +kernel
theorem dX6_offer_15 : decode cX6_offer 15 = .ok (.iload 6, 2) := by decide +kernel
theorem dX6_offer_17 : decode cX6_offer 17 = .ok (.iload 7, 2) := by decide +kernel
theorem dX6_offer_19 : decode cX6_offer 19 = .ok (.invokevirtual 28, 3) := by decide +kernel
theorem dX6_offer_22 : decode cX6_offer 22 = .ok (.istore 8, 2) := by decide +kernel
theorem dX6_offer_24 : decode cX6_offer 24 = .ok (.aload_n 0, 1) := by decide +kernel
theorem dX6_offer_25 : decode cX6_offer 25 = .ok (.iload 8, 2) := by decide +kernel
theorem dX6_offer_27 : decode cX6_offer 27 = .ok (.iload 6, 2) := by decide +kernel
theorem dX6_offer_29 : decode cX6_offer 29 = .ok (.iload 7, 2) := by decide +kernel
theorem dX6_offer_31 : decode cX6_offer 31 = .ok (.invokevirtual 32, 3) := by decide +kernel
theorem dX6_offer_34 : decode cX6_offer 34 = .ok (.ifCond .eq 4, 3) := by decide +kernel
theorem dX6_offer_37 : decode cX6_offer 37 = .ok (.return_, 1) := by decide +kernel
theorem dX6_offer_38 : decode cX6_offer 38 = .ok (.aload_n 1, 1) := by decide +kernel
theorem dX6_offer_39 : decode cX6_offer 39 = .ok (.invokevirtual 45, 3) := by decide +kernel
theorem dX6_offer_42 : decode cX6_offer 42 = .ok (.aload_n 1, 1) := by decide +kernel
theorem dX6_offer_43 : decode cX6_offer 43 = .ok (.getfield 36, 3) := by decide +kernel
theorem dX6_offer_46 : decode cX6_offer 46 = .ok (.l2i, 1) := by decide +kernel
theorem dX6_offer_47 : decode cX6_offer 47 = .ok (.istore 6, 2) := by decide +kernel
theorem dX6_offer_49 : decode cX6_offer 49 = .ok (.aload_n 1, 1) := by decide +kernel
theorem dX6_offer_50 : decode cX6_offer 50 = .ok (.getfield 42, 3) := by decide +kernel
theorem dX6_offer_53 : decode cX6_offer 53 = .ok (.l2i, 1) := by decide +kernel
theorem dX6_offer_54 : decode cX6_offer 54 = .ok (.istore 7, 2) := by decide +kernel
theorem dX6_offer_56 : decode cX6_offer 56 = .ok (.aload_n 0, 1) := by decide +kernel
theorem dX6_offer_57 : decode cX6_offer 57 = .ok (.getfield 12, 3) := by decide +kernel
theorem dX6_offer_60 : decode cX6_offer 60 = .ok (.iload 8, 2) := by decide +kernel
theorem dX6_offer_62 : decode cX6_offer 62 = .ok (.new 26, 3) := by decide +kernel
theorem dX6_offer_65 : decode cX6_offer 65 = .ok (.dup, 1) := by decide +kernel
theorem dX6_offer_66 : decode cX6_offer 66 = .ok (.iload 6, 2) := by decide +kernel
theorem dX6_offer_68 : decode cX6_offer 68 = .ok (.iload 7, 2) := by decide +kernel
theorem dX6_offer_70 : decode cX6_offer 70 = .ok (.iload_n 2, 1) := by decide +kernel
theorem dX6_offer_71 : decode cX6_offer 71 = .ok (.iload_n 3, 1) := by decide +kernel
theorem dX6_offer_72 : decode cX6_offer 72 = .ok (.iload 4, 2) := by decide +kernel
theorem dX6_offer_74 : decode cX6_offer 74 = .ok (.iload 5, 2) := by decide +kernel
theorem dX6_offer_76 : decode cX6_offer 76 = .ok (.invokespecial 48, 3) := by decide +kernel
theorem dX6_offer_79 : decode cX6_offer 79 = .ok (.invokevirtual 51, 3) := by decide +kernel
theorem dX6_offer_82 : decode cX6_offer 82 = .ok (.return_, 1) := by decide +kernel
set_option maxRecDepth 20000 in
theorem ggX6_placeOf_Jx4a65c_size_8abf5 : GoodIn wsX6_placeOf wsJx4a65c_size_8abf5 := goodIn_r _ [7, 8, 37, 38, 39] (by decide +kernel) (by decide +kernel)
set_option maxRecDepth 20000 in
theorem gX6_placeOf_Jx4a65c_size_8abf5 : GoodIn wsX6_placeOf (wsV RX6 18 RJx4a65c yJx4a65c_size_8abf5 wsJx4a65c_size_8abf5) := goodIn_app (goodIn_of _ (by decide +kernel)) ggX6_placeOf_Jx4a65c_size_8abf5
set_option maxRecDepth 20000 in
theorem ggX6_placeOf_Jx4a65c_get_915e3 : GoodIn wsX6_placeOf wsJx4a65c_get_915e3 := goodIn_r _ [12, 8, 13, 14, 15, 16, 17, 18, 19, 20, 21, 22, 23, 6, 24, 25, 37, 38, 39] (by decide +kernel) (by decide +kernel)
set_option maxRecDepth 20000 in
theorem gX6_placeOf_Jx4a65c_get_915e3 : GoodIn wsX6_placeOf (wsV RX6 22 RJx4a65c yJx4a65c_get_915e3 wsJx4a65c_get_915e3) := goodIn_app (goodIn_of _ (by decide +kernel)) ggX6_placeOf_Jx4a65c_get_915e3
set_option maxRecDepth 20000 in
theorem ggX6_placeOf_X6_compare : GoodIn wsX6_placeOf wsX6_compare := goodIn_r _ [29, 30, 31, 32, 33, 34, 35, 40, 41, 42, 43, 44, 45] (by decide +kernel) (by decide +kernel)
set_option maxRecDepth 20000 in
theorem gX6_placeOf_X6_compare : GoodIn wsX6_placeOf (va_wsS RX6 55 yX6_compare wsX6_compare) := goodIn_app (goodIn_of _ (by decide +kernel)) ggX6_placeOf_X6_compare
theorem dX6_placeOf_0 : decode cX6_placeOf 0 = .ok (.iconst 0, 1) := by decide +kernel
theorem dX6_placeOf_1 : decode cX6_placeOf 1 = .ok (.istore_n 3, 1) := by decide +kernel
theorem dX6_placeOf_2 : decode cX6_placeOf 2 = .ok (.aload_n 0, 1) := by decide +kernel
theorem dX6_placeOf_3 : decode cX6_placeOf 3 = .ok (.getfield 12, 3) := by decide +kernel
theorem dX6_placeOf_6 : decode cX6_placeOf 6 = .ok (.invokevirtual 18, 3) := by decide +kernel
theorem dX6_placeOf_9 : decode cX6_placeOf 9 = .ok (.istore 4, 2) := by decide +kernel
theorem dX6_placeOf_11 : decode cX6_placeOf 11 = .ok (.iconst 0, 1) := by decide +kernel
theorem dX6_placeOf_12 : decode cX6_placeOf 12 = .ok (.istore 5, 2) := by decide +kernel
theorem dX6_placeOf_14 : decode cX6_placeOf 14 = .ok (.iload 5, 2) := by decide +kernel
theorem dX6_placeOf_16 : decode cX6_placeOf 16 = .ok (.bipush 32, 2) := by decide +kernel
theorem dX6_placeOf_18 : decode cX6_placeOf 18 = .ok (.if_icmp .ge 55, 3) := by decide +kernel
theorem dX6_placeOf_21 : decode cX6_placeOf 21 = .ok (.iload_n 3, 1) := by decide +kernel
theorem dX6_placeOf_22 : decode cX6_placeOf 22 = .ok (.iload 4, 2) := by decide +kernel
theorem dX6_placeOf_24 : decode cX6_placeOf 24 = .ok (.if_icmp .ge 49, 3) := by decide +kernel
theorem dX6_placeOf_27 : decode cX6_placeOf 27 = .ok (.iload_n 3, 1) := by decide +kernel
theorem dX6_placeOf_28 : decode cX6_placeOf 28 = .ok (.iload 4, 2) := by decide +kernel
theorem dX6_placeOf_30 : decode cX6_placeOf 30 = .ok (.iadd, 1) := by decide +kernel
theorem dX6_placeOf_31 : decode cX6_placeOf 31 = .ok (.iconst 2, 1) := by decide +kernel
theorem dX6_placeOf_32 : decode cX6_placeOf 32 = .ok (.idiv, 1) := by decide +kernel
theorem dX6_placeOf_33 : decode cX6_placeOf 33 = .ok (.istore 6, 2) := by decide +kernel
theorem dX6_placeOf_35 : decode cX6_placeOf 35 = .ok (.aload_n 0, 1) := by decide +kernel
theorem dX6_placeOf_36 : decode cX6_placeOf 36 = .ok (.getfield 12, 3) := by decide +kernel
theorem dX6_placeOf_39 : decode cX6_placeOf 39 = .ok (.iload 6, 2) := by decide +kernel
theorem dX6_placeOf_41 : decode cX6_placeOf 41 = .ok (.invokevirtual 22, 3) := by decide +kernel
theorem dX6_placeOf_44 : decode cX6_placeOf 44 = .ok (.checkcast 26, 3) := by decide +kernel
theorem dX6_placeOf_47 : decode cX6_placeOf 47 = .ok (.iload_n 1, 1) := by decide +kernel
theorem dX6_placeOf_48 : decode cX6_placeOf 48 = .ok (.iload_n 2, 1) := by decide +kernel
theorem dX6_placeOf_49 : decode cX6_placeOf 49 = .ok (.invokestatic 55, 3) := by decide +kernel
theorem dX6_placeOf_52 : decode cX6_placeOf 52 = .ok (.ifCond .ge 11, 3) := by decide +kernel
theorem dX6_placeOf_55 : decode cX6_placeOf 55 = .ok (.iload 6, 2) := by decide +kernel
theorem dX6_placeOf_57 : decode cX6_placeOf 57 = .ok (.iconst 1, 1) := by decide +kernel
theorem dX6_placeOf_58 : decode cX6_placeOf 58 = .ok (.iadd, 1) := by decide +kernel
theorem dX6_placeOf_59 : decode cX6_placeOf 59 = .ok (.istore_n 3, 1) := by decide +kernel
theorem dX6_placeOf_60 : decode cX6_placeOf 60 = .ok (.goto 7, 3) := by decide +kernel
theorem dX6_placeOf_63 : decode cX6_placeOf 63 = .ok (.iload 6, 2) := by decide +kernel
theorem dX6_placeOf_65 : decode cX6_placeOf 65 = .ok (.istore 4, 2) := by decide +kernel
theorem dX6_placeOf_67 : decode cX6_placeOf 67 = .ok (.iinc 5 1, 3) := by decide +kernel
theorem dX6_placeOf_70 : decode cX6_placeOf 70 = .ok (.goto (-56), 3) := by decide +kernel
theorem dX6_placeOf_73 : decode cX6_placeOf 73 = .ok (.iload_n 3, 1) := by decide +kernel
theorem dX6_placeOf_74 : decode cX6_placeOf 74 = .ok (.ireturn, 1) := by decide +kernel
set_option maxRecDepth 20000 in
theorem ggX6_isAt_Jx4a65c_size_8abf5 : GoodIn wsX6_isAt wsJx4a65c_size_8abf5 := goodIn_r _ [7, 8, 37, 38, 39] (by decide +kernel) (by decide +kernel)
set_option maxRecDepth 20000 in
theorem gX6_isAt_Jx4a65c_size_8abf5 : GoodIn wsX6_isAt (wsV RX6 18 RJx4a65c yJx4a65c_size_8abf5 wsJx4a65c_size_8abf5) := goodIn_app (goodIn_of _ (by decide +kernel)) ggX6_isAt_Jx4a65c_size_8abf5
set_option maxRecDepth 20000 in
theorem ggX6_isAt_Jx4a65c_get_915e3 : GoodIn wsX6_isAt wsJx4a65c_get_915e3 := goodIn_r _ [12, 8, 13, 14, 15, 16, 17, 18, 19, 20, 21, 22, 23, 6, 24, 25, 37, 38, 39] (by decide +kernel) (by decide +kernel)
set_option maxRecDepth 20000 in
theorem gX6_isAt_Jx4a65c_get_915e3 : GoodIn wsX6_isAt (wsV RX6 22 RJx4a65c yJx4a65c_get_915e3 wsJx4a65c_get_915e3) := goodIn_app (goodIn_of _ (by decide +kernel)) ggX6_isAt_Jx4a65c_get_915e3
set_option maxRecDepth 20000 in
theorem ggX6_isAt_X6_compare : GoodIn wsX6_isAt wsX6_compare := goodIn_r _ [29, 30, 31, 32, 33, 34, 35, 40, 41, 42, 43, 44, 45] (by decide +kernel) (by decide +kernel)
set_option maxRecDepth 20000 in
theorem gX6_isAt_X6_compare : GoodIn wsX6_isAt (va_wsS RX6 55 yX6_compare wsX6_compare) := goodIn_app (goodIn_of _ (by decide +kernel)) ggX6_isAt_X6_compare
theorem dX6_isAt_0 : decode cX6_isAt 0 = .ok (.iload_n 1, 1) := by decide +kernel
theorem dX6_isAt_1 : decode cX6_isAt 1 = .ok (.aload_n 0, 1) := by decide +kernel
theorem dX6_isAt_2 : decode cX6_isAt 2 = .ok (.getfield 12, 3) := by decide +kernel
theorem dX6_isAt_5 : decode cX6_isAt 5 = .ok (.invokevirtual 18, 3) := by decide +kernel
theorem dX6_isAt_8 : decode cX6_isAt 8 = .ok (.if_icmp .ge 26, 3) := by decide +kernel
theorem dX6_isAt_11 : decode cX6_isAt 11 = .ok (.aload_n 0, 1) := by decide +kernel
theorem dX6_isAt_12 : decode cX6_isAt 12 = .ok (.getfield 12, 3) := by decide +kernel
theorem dX6_isAt_15 : decode cX6_isAt 15 = .ok (.iload_n 1, 1) := by decide +kernel
theorem dX6_isAt_16 : decode cX6_isAt 16 = .ok (.invokevirtual 22, 3) := by decide +kernel
theorem dX6_isAt_19 : decode cX6_isAt 19 = .ok (.checkcast 26, 3) := by decide +kernel
theorem dX6_isAt_22 : decode cX6_isAt 22 = .ok (.iload_n 2, 1) := by decide +kernel
theorem dX6_isAt_23 : decode cX6_isAt 23 = .ok (.iload_n 3, 1) := by decide +kernel
theorem dX6_isAt_24 : decode cX6_isAt 24 = .ok (.invokestatic 55, 3) := by decide +kernel
theorem dX6_isAt_27 : decode cX6_isAt 27 = .ok (.ifCond .ne 7, 3) := by decide +kernel
theorem dX6_isAt_30 : decode cX6_isAt 30 = .ok (.iconst 1, 1) := by decide +kernel
theorem dX6_isAt_31 : decode cX6_isAt 31 = .ok (.goto 4, 3) := by decide +kernel
theorem dX6_isAt_34 : decode cX6_isAt 34 = .ok (.iconst 0, 1) := by decide +kernel
theorem dX6_isAt_35 : decode cX6_isAt 35 = .ok (.ireturn, 1) := by decide +kernel
set_option maxRecDepth 20000 in
theorem ggX6_compare_J13_compare_74951 : GoodIn wsX6_compare wsJ13_compare_74951 := goodIn_r _ [6] (by decide +kernel) (by decide +kernel)
set_option maxRecDepth 20000 in
theorem gX6_compare_J13_compare_74951 : GoodIn wsX6_compare (va_wsS RX6 64 yJ13_compare_74951 wsJ13_compare_74951) := goodIn_app (goodIn_of _ (by decide +kernel)) ggX6_compare_J13_compare_74951
theorem dX6_compare_0 : decode cX6_compare 0 = .ok (.aload_n 0, 1) := by decide +kernel
theorem dX6_compare_1 : decode cX6_compare 1 = .ok (.getfield 59, 3) := by decide +kernel
theorem dX6_compare_4 : decode cX6_compare 4 = .ok (.i2l, 1) := by decide +kernel
theorem dX6_compare_5 : decode cX6_compare 5 = .ok (.iload_n 2, 1) := by decide +kernel
theorem dX6_compare_6 : decode cX6_compare 6 = .ok (.i2l, 1) := by decide +kernel
theorem dX6_compare_7 : decode cX6_compare 7 = .ok (.lmul, 1) := by decide +kernel
theorem dX6_compare_8 : decode cX6_compare 8 = .ok (.iload_n 1, 1) := by decide +kernel
theorem dX6_compare_9 : decode cX6_compare 9 = .ok (.i2l, 1) := by decide +kernel
theorem dX6_compare_10 : decode cX6_compare 10 = .ok (.aload_n 0, 1) := by decide +kernel
theorem dX6_compare_11 : decode cX6_compare 11 = .ok (.getfield 62, 3) := by decide +kernel
theorem dX6_compare_14 : decode cX6_compare 14 = .ok (.i2l, 1) := by decide +kernel
theorem dX6_compare_15 : decode cX6_compare 15 = .ok (.lmul, 1) := by decide +kernel
theorem dX6_compare_16 : decode cX6_compare 16 = .ok (.invokestatic 64, 3) := by decide +kernel
theorem dX6_compare_19 : decode cX6_compare 19 = .ok (.ireturn, 1) := by decide +kernel
set_option maxRecDepth 20000 in
theorem ggX7_init_X0_init : GoodIn wsX7_init wsX0_init := goodIn_r _ [14, 15, 2, 3, 16, 17, 23, 24] (by decide +kernel) (by decide +kernel)
set_option maxRecDepth 20000 in
theorem gX7_init_X0_init_n24 : GoodIn wsX7_init (wsX0_init) := ggX7_init_X0_init
theorem dX7_init_0 : decode cX7_init 0 = .ok (.aload_n 0, 1) := by decide +kernel
theorem dX7_init_1 : decode cX7_init 1 = .ok (.invokespecial 3, 3) := by decide +kernel
theorem dX7_init_4 : decode cX7_init 4 = .ok (.aload_n 0, 1) := by decide +kernel
theorem dX7_init_5 : decode cX7_init 5 = .ok (.bipush 6, 2) := by decide +kernel
theorem dX7_init_7 : decode cX7_init 7 = .ok (.newarray .int, 2) := by decide +kernel
theorem dX7_init_9 : decode cX7_init 9 = .ok (.putfield 9, 3) := by decide +kernel
theorem dX7_init_12 : decode cX7_init 12 = .ok (.aload_n 0, 1) := by decide +kernel
theorem dX7_init_13 : decode cX7_init 13 = .ok (.bipush 6, 2) := by decide +kernel
theorem dX7_init_15 : decode cX7_init 15 = .ok (.newarray .int, 2) := by decide +kernel
theorem dX7_init_17 : decode cX7_init 17 = .ok (.putfield 15, 3) := by decide +kernel
theorem dX7_init_20 : decode cX7_init 20 = .ok (.aload_n 0, 1) := by decide +kernel
theorem dX7_init_21 : decode cX7_init 21 = .ok (.iconst 0, 1) := by decide +kernel
theorem dX7_init_22 : decode cX7_init 22 = .ok (.putfield 18, 3) := by decide +kernel
theorem dX7_init_25 : decode cX7_init 25 = .ok (.aload_n 0, 1) := by decide +kernel
theorem dX7_init_26 : decode cX7_init 26 = .ok (.new 22, 3) := by decide +kernel
theorem dX7_init_29 : decode cX7_init 29 = .ok (.dup, 1) := by decide +kernel
theorem dX7_init_30 : decode cX7_init 30 = .ok (.invokespecial 24, 3) := by decide +kernel
theorem dX7_init_33 : decode cX7_init 33 = .ok (.putfield 25, 3) := by decide +kernel
theorem dX7_init_36 : decode cX7_init 36 = .ok (.aload_n 0, 1) := by decide +kernel
theorem dX7_init_37 : decode cX7_init 37 = .ok (.new 22, 3) := by decide +kernel
theorem dX7_init_40 : decode cX7_init 40 = .ok (.dup, 1) := by decide +kernel
theorem dX7_init_41 : decode cX7_init 41 = .ok (.invokespecial 24, 3) := by decide +kernel
theorem dX7_init_44 : decode cX7_init 44 = .ok (.putfield 29, 3) := by decide +kernel
theorem dX7_init_47 : decode cX7_init 47 = .ok (.return_, 1) := by decide +kernel
theorem dX7_size_0 : decode cX7_size 0 = .ok (.aload_n 0, 1) := by decide +kernel
theorem dX7_size_1 : decode cX7_size 1 = .ok (.getfield 18, 3) := by decide +kernel
theorem dX7_size_4 : decode cX7_size 4 = .ok (.ireturn, 1) := by decide +kernel
theorem dX7_add_0 : decode cX7_add 0 = .ok (.aload_n 0, 1) := by decide +kernel
theorem dX7_add_1 : decode cX7_add 1 = .ok (.getfield 9, 3) := by decide +kernel
theorem dX7_add_4 : decode cX7_add 4 = .ok (.aload_n 0, 1) := by decide +kernel
theorem dX7_add_5 : decode cX7_add 5 = .ok (.getfield 18, 3) := by decide +kernel
theorem dX7_add_8 : decode cX7_add 8 = .ok (.iload_n 1, 1) := by decide +kernel
theorem dX7_add_9 : decode cX7_add 9 = .ok (.iastore, 1) := by decide +kernel
theorem dX7_add_10 : decode cX7_add 10 = .ok (.aload_n 0, 1) := by decide +kernel
theorem dX7_add_11 : decode cX7_add 11 = .ok (.getfield 15, 3) := by decide +kernel
theorem dX7_add_14 : decode cX7_add 14 = .ok (.aload_n 0, 1) := by decide +kernel
theorem dX7_add_15 : decode cX7_add 15 = .ok (.getfield 18, 3) := by decide +kernel
theorem dX7_add_18 : decode cX7_add 18 = .ok (.iload_n 2, 1) := by decide +kernel
theorem dX7_add_19 : decode cX7_add 19 = .ok (.iastore, 1) := by decide +kernel
theorem dX7_add_20 : decode cX7_add 20 = .ok (.aload_n 0, 1) := by decide +kernel
theorem dX7_add_21 : decode cX7_add 21 = .ok (.dup, 1) := by decide +kernel
theorem dX7_add_22 : decode cX7_add 22 = .ok (.getfield 18, 3) := by decide +kernel
theorem dX7_add_25 : decode cX7_add 25 = .ok (.iconst 1, 1) := by decide +kernel
theorem dX7_add_26 : decode cX7_add 26 = .ok (.iadd, 1) := by decide +kernel
theorem dX7_add_27 : decode cX7_add 27 = .ok (.putfield 18, 3) := by decide +kernel
theorem dX7_add_30 : decode cX7_add 30 = .ok (.aload_n 0, 1) := by decide +kernel
theorem dX7_add_31 : decode cX7_add 31 = .ok (.getfield 18, 3) := by decide +kernel
theorem dX7_add_34 : decode cX7_add 34 = .ok (.iconst 1, 1) := by decide +kernel
theorem dX7_add_35 : decode cX7_add 35 = .ok (.isub, 1) := by decide +kernel
theorem dX7_add_36 : decode cX7_add 36 = .ok (.ireturn, 1) := by decide +kernel
set_option maxRecDepth 20000 in
theorem ggX7_has_X7_isOneSort : GoodIn wsX7_has wsX7_isOneSort := goodIn_r _ [5] (by decide +kernel) (by decide +kernel)
set_option maxRecDepth 20000 in
theorem gX7_has_X7_isOneSort : GoodIn wsX7_has (va_wsS RX7 32 yX7_isOneSort wsX7_isOneSort) := goodIn_app (goodIn_of _ (by decide +kernel)) ggX7_has_X7_isOneSort
set_option maxRecDepth 20000 in
theorem ggX7_has_X7_firstOf : GoodIn wsX7_has wsX7_firstOf := goodIn_r _ [8, 2, 3, 4, 5] (by decide +kernel) (by decide +kernel)
set_option maxRecDepth 20000 in
theorem gX7_has_X7_firstOf : GoodIn wsX7_has (va_wsS RX7 36 yX7_firstOf wsX7_firstOf) := goodIn_app (goodIn_of _ (by decide +kernel)) ggX7_has_X7_firstOf
set_option maxRecDepth 20000 in
theorem ggX7_has_X7_secondOf : GoodIn wsX7_has wsX7_secondOf := goodIn_r _ [11] (by decide +kernel) (by decide +kernel)
set_option maxRecDepth 20000 in
theorem gX7_has_X7_secondOf : GoodIn wsX7_has (va_wsS RX7 40 yX7_secondOf wsX7_secondOf) := goodIn_app (goodIn_of _ (by decide +kernel)) ggX7_has_X7_secondOf
theorem dX7_has_0 : decode cX7_has 0 = .ok (.iload_n 1, 1) := by decide +kernel
theorem dX7_has_1 : decode cX7_has 1 = .ok (.ifCond .lt 10, 3) := by decide +kernel
theorem dX7_has_4 : decode cX7_has 4 = .ok (.iload_n 1, 1) := by decide +kernel
theorem dX7_has_5 : decode cX7_has 5 = .ok (.sipush 300, 3) := by decide +kernel
theorem dX7_has_8 : decode cX7_has 8 = .ok (.if_icmp .lt 5, 3) := by decide +kernel
theorem dX7_has_11 : decode cX7_has 11 = .ok (.iconst 0, 1) := by decide +kernel
theorem dX7_has_12 : decode cX7_has 12 = .ok (.ireturn, 1) := by decide +kernel
theorem dX7_has_13 : decode cX7_has 13 = .ok (.iload_n 1, 1) := by decide +kernel
theorem dX7_has_14 : decode cX7_has 14 = .ok (.invokestatic 32, 3) := by decide +kernel
theorem dX7_has_17 : decode cX7_has 17 = .ok (.ifCond .eq 17, 3) := by decide +kernel
theorem dX7_has_20 : decode cX7_has 20 = .ok (.iload_n 1, 1) := by decide +kernel
theorem dX7_has_21 : decode cX7_has 21 = .ok (.aload_n 0, 1) := by decide +kernel
theorem dX7_has_22 : decode cX7_has 22 = .ok (.getfield 18, 3) := by decide +kernel
theorem dX7_has_25 : decode cX7_has 25 = .ok (.if_icmp .ge 7, 3) := by decide +kernel
theorem dX7_has_28 : decode cX7_has 28 = .ok (.iconst 1, 1) := by decide +kernel
theorem dX7_has_29 : decode cX7_has 29 = .ok (.goto 4, 3) := by decide +kernel
theorem dX7_has_32 : decode cX7_has 32 = .ok (.iconst 0, 1) := by decide +kernel
theorem dX7_has_33 : decode cX7_has 33 = .ok (.ireturn, 1) := by decide +kernel
theorem dX7_has_34 : decode cX7_has 34 = .ok (.iload_n 1, 1) := by decide +kernel
theorem dX7_has_35 : decode cX7_has 35 = .ok (.invokestatic 36, 3) := by decide +kernel
theorem dX7_has_38 : decode cX7_has 38 = .ok (.iload_n 1, 1) := by decide +kernel
theorem dX7_has_39 : decode cX7_has 39 = .ok (.invokestatic 40, 3) := by decide +kernel
theorem dX7_has_42 : decode cX7_has 42 = .ok (.if_icmp .gt 18, 3) := by decide +kernel
theorem dX7_has_45 : decode cX7_has 45 = .ok (.iload_n 1, 1) := by decide +kernel
theorem dX7_has_46 : decode cX7_has 46 = .ok (.invokestatic 40, 3) := by decide +kernel
theorem dX7_has_49 : decode cX7_has 49 = .ok (.aload_n 0, 1) := by decide +kernel
theorem dX7_has_50 : decode cX7_has 50 = .ok (.getfield 18, 3) := by decide +kernel
theorem dX7_has_53 : decode cX7_has 53 = .ok (.if_icmp .ge 7, 3) := by decide +kernel
theorem dX7_has_56 : decode cX7_has 56 = .ok (.iconst 1, 1) := by decide +kernel
theorem dX7_has_57 : decode cX7_has 57 = .ok (.goto 4, 3) := by decide +kernel
theorem dX7_has_60 : decode cX7_has 60 = .ok (.iconst 0, 1) := by decide +kernel
theorem dX7_has_61 : decode cX7_has 61 = .ok (.ireturn, 1) := by decide +kernel
theorem dX7_isOneSort_0 : decode cX7_isOneSort 0 = .ok (.iload_n 0, 1) := by decide +kernel
theorem dX7_isOneSort_1 : decode cX7_isOneSort 1 = .ok (.bipush 100, 2) := by decide +kernel
theorem dX7_isOneSort_3 : decode cX7_isOneSort 3 = .ok (.if_icmp .ge 7, 3) := by decide +kernel
theorem dX7_isOneSort_6 : decode cX7_isOneSort 6 = .ok (.iconst 1, 1) := by decide +kernel
theorem dX7_isOneSort_7 : decode cX7_isOneSort 7 = .ok (.goto 4, 3) := by decide +kernel
theorem dX7_isOneSort_10 : decode cX7_isOneSort 10 = .ok (.iconst 0, 1) := by decide +kernel
theorem dX7_isOneSort_11 : decode cX7_isOneSort 11 = .ok (.ireturn, 1) := by decide +kernel
set_option maxRecDepth 20000 in
theorem ggX7_firstOf_X7_isOneSort : GoodIn wsX7_firstOf wsX7_isOneSort := goodIn_r _ [4] (by decide +kernel) (by decide +kernel)
set_option maxRecDepth 20000 in
theorem gX7_firstOf_X7_isOneSort : GoodIn wsX7_firstOf (va_wsS RX7 32 yX7_isOneSort wsX7_isOneSort) := goodIn_app (goodIn_of _ (by decide +kernel)) ggX7_firstOf_X7_isOneSort
theorem dX7_firstOf_0 : decode cX7_firstOf 0 = .ok (.iload_n 0, 1) := by decide +kernel
theorem dX7_firstOf_1 : decode cX7_firstOf 1 = .ok (.invokestatic 32, 3) := by decide +kernel
theorem dX7_firstOf_4 : decode cX7_firstOf 4 = .ok (.ifCond .eq 7, 3) := by decide +kernel
theorem dX7_firstOf_7 : decode cX7_firstOf 7 = .ok (.iload_n 0, 1) := by decide +kernel
theorem dX7_firstOf_8 : decode cX7_firstOf 8 = .ok (.goto 10, 3) := by decide +kernel
theorem dX7_firstOf_11 : decode cX7_firstOf 11 = .ok (.iload_n 0, 1) := by decide +kernel
theorem dX7_firstOf_12 : decode cX7_firstOf 12 = .ok (.bipush 100, 2) := by decide +kernel
theorem dX7_firstOf_14 : decode cX7_firstOf 14 = .ok (.irem, 1) := by decide +kernel
theorem dX7_firstOf_15 : decode cX7_firstOf 15 = .ok (.bipush 10, 2) := by decide +kernel
theorem dX7_firstOf_17 : decode cX7_firstOf 17 = .ok (.idiv, 1) := by decide +kernel
theorem dX7_firstOf_18 : decode cX7_firstOf 18 = .ok (.ireturn, 1) := by decide +kernel
theorem dX7_secondOf_0 : decode cX7_secondOf 0 = .ok (.iload_n 0, 1) := by decide +kernel
theorem dX7_secondOf_1 : decode cX7_secondOf 1 = .ok (.bipush 10, 2) := by decide +kernel
theorem dX7_secondOf_3 : decode cX7_secondOf 3 = .ok (.irem, 1) := by decide +kernel
theorem dX7_secondOf_4 : decode cX7_secondOf 4 = .ok (.ireturn, 1) := by decide +kernel
set_option maxRecDepth 20000 in
theorem ggX7_priceOf_X7_firstOf : GoodIn wsX7_priceOf wsX7_firstOf := goodIn_r _ [5, 6, 7, 4, 8] (by decide +kernel) (by decide +kernel)
set_option maxRecDepth 20000 in
theorem gX7_priceOf_X7_firstOf : GoodIn wsX7_priceOf (va_wsS RX7 36 yX7_firstOf wsX7_firstOf) := goodIn_app (goodIn_of _ (by decide +kernel)) ggX7_priceOf_X7_firstOf
set_option maxRecDepth 20000 in
theorem ggX7_priceOf_X7_isOneSort : GoodIn wsX7_priceOf wsX7_isOneSort := goodIn_r _ [8] (by decide +kernel) (by decide +kernel)
set_option maxRecDepth 20000 in
theorem gX7_priceOf_X7_isOneSort : GoodIn wsX7_priceOf (va_wsS RX7 32 yX7_isOneSort wsX7_isOneSort) := goodIn_app (goodIn_of _ (by decide +kernel)) ggX7_priceOf_X7_isOneSort
set_option maxRecDepth 20000 in
theorem ggX7_priceOf_X7_secondOf : GoodIn wsX7_priceOf wsX7_secondOf := goodIn_r _ [11] (by decide +kernel) (by decide +kernel)
set_option maxRecDepth 20000 in
theorem gX7_priceOf_X7_secondOf : GoodIn wsX7_priceOf (va_wsS RX7 40 yX7_secondOf wsX7_secondOf) := goodIn_app (goodIn_of _ (by decide +kernel)) ggX7_priceOf_X7_secondOf
theorem dX7_priceOf_0 : decode cX7_priceOf 0 = .ok (.aload_n 0, 1) := by decide +kernel
theorem dX7_priceOf_1 : decode cX7_priceOf 1 = .ok (.getfield 15, 3) := by decide +kernel
theorem dX7_priceOf_4 : decode cX7_priceOf 4 = .ok (.iload_n 1, 1) := by decide +kernel
theorem dX7_priceOf_5 : decode cX7_priceOf 5 = .ok (.invokestatic 36, 3) := by decide +kernel
theorem dX7_priceOf_8 : decode cX7_priceOf 8 = .ok (.iaload, 1) := by decide +kernel
theorem dX7_priceOf_9 : decode cX7_priceOf 9 = .ok (.istore_n 2, 1) := by decide +kernel
theorem dX7_priceOf_10 : decode cX7_priceOf 10 = .ok (.iload_n 1, 1) := by decide +kernel
theorem dX7_priceOf_11 : decode cX7_priceOf 11 = .ok (.invokestatic 32, 3) := by decide +kernel
theorem dX7_priceOf_14 : decode cX7_priceOf 14 = .ok (.ifCond .eq 7, 3) := by decide +kernel
theorem dX7_priceOf_17 : decode cX7_priceOf 17 = .ok (.iload_n 2, 1) := by decide +kernel
theorem dX7_priceOf_18 : decode cX7_priceOf 18 = .ok (.goto 14, 3) := by decide +kernel
theorem dX7_priceOf_21 : decode cX7_priceOf 21 = .ok (.iload_n 2, 1) := by decide +kernel
theorem dX7_priceOf_22 : decode cX7_priceOf 22 = .ok (.aload_n 0, 1) := by decide +kernel
theorem dX7_priceOf_23 : decode cX7_priceOf 23 = .ok (.getfield 15, 3) := by decide +kernel
theorem dX7_priceOf_26 : decode cX7_priceOf 26 = .ok (.iload_n 1, 1) := by decide +kernel
theorem dX7_priceOf_27 : decode cX7_priceOf 27 = .ok (.invokestatic 40, 3) := by decide +kernel
theorem dX7_priceOf_30 : decode cX7_priceOf 30 = .ok (.iaload, 1) := by decide +kernel
theorem dX7_priceOf_31 : decode cX7_priceOf 31 = .ok (.iadd, 1) := by decide +kernel
theorem dX7_priceOf_32 : decode cX7_priceOf 32 = .ok (.ireturn, 1) := by decide +kernel
set_option maxRecDepth 20000 in
theorem ggX7_measure_X7_firstOf : GoodIn wsX7_measure wsX7_firstOf := goodIn_r _ [5, 6, 7, 4, 8] (by decide +kernel) (by decide +kernel)
set_option maxRecDepth 20000 in
theorem gX7_measure_X7_firstOf : GoodIn wsX7_measure (va_wsS RX7 36 yX7_firstOf wsX7_firstOf) := goodIn_app (goodIn_of _ (by decide +kernel)) ggX7_measure_X7_firstOf
set_option maxRecDepth 20000 in
theorem ggX7_measure_X7_isOneSort : GoodIn wsX7_measure wsX7_isOneSort := goodIn_r _ [8] (by decide +kernel) (by decide +kernel)
set_option maxRecDepth 20000 in
theorem gX7_measure_X7_isOneSort : GoodIn wsX7_measure (va_wsS RX7 32 yX7_isOneSort wsX7_isOneSort) := goodIn_app (goodIn_of _ (by decide +kernel)) ggX7_measure_X7_isOneSort
set_option maxRecDepth 20000 in
theorem ggX7_measure_X0_set : GoodIn wsX7_measure wsX0_set := goodIn_r _ [13, 14, 15, 24, 25] (by decide +kernel) (by decide +kernel)
set_option maxRecDepth 20000 in
theorem gX7_measure_X0_set : GoodIn wsX7_measure (wsV RX7 43 RX0 yX0_set wsX0_set) := goodIn_app (goodIn_of _ (by decide +kernel)) ggX7_measure_X0_set
set_option maxRecDepth 20000 in
theorem ggX7_measure_X7_secondOf : GoodIn wsX7_measure wsX7_secondOf := goodIn_r _ [18] (by decide +kernel) (by decide +kernel)
set_option maxRecDepth 20000 in
theorem gX7_measure_X7_secondOf : GoodIn wsX7_measure (va_wsS RX7 40 yX7_secondOf wsX7_secondOf) := goodIn_app (goodIn_of _ (by decide +kernel)) ggX7_measure_X7_secondOf
theorem dX7_measure_0 : decode cX7_measure 0 = .ok (.aload_n 0, 1) := by decide +kernel
theorem dX7_measure_1 : decode cX7_measure 1 = .ok (.getfield 9, 3) := by decide +kernel
theorem dX7_measure_4 : decode cX7_measure 4 = .ok (.iload_n 1, 1) := by decide +kernel
theorem dX7_measure_5 : decode cX7_measure 5 = .ok (.invokestatic 36, 3) := by decide +kernel
theorem dX7_measure_8 : decode cX7_measure 8 = .ok (.iaload, 1) := by decide +kernel
theorem dX7_measure_9 : decode cX7_measure 9 = .ok (.istore_n 3, 1) := by decide +kernel
theorem dX7_measure_10 : decode cX7_measure 10 = .ok (.iload_n 1, 1) := by decide +kernel
theorem dX7_measure_11 : decode cX7_measure 11 = .ok (.invokestatic 32, 3) := by decide +kernel
theorem dX7_measure_14 : decode cX7_measure 14 = .ok (.ifCond .eq 11, 3) := by decide +kernel
theorem dX7_measure_17 : decode cX7_measure 17 = .ok (.aload_n 2, 1) := by decide +kernel
theorem dX7_measure_18 : decode cX7_measure 18 = .ok (.iload_n 3, 1) := by decide +kernel
theorem dX7_measure_19 : decode cX7_measure 19 = .ok (.i2l, 1) := by decide +kernel
theorem dX7_measure_20 : decode cX7_measure 20 = .ok (.lconst 1, 1) := by decide +kernel
theorem dX7_measure_21 : decode cX7_measure 21 = .ok (.invokevirtual 43, 3) := by decide +kernel
theorem dX7_measure_24 : decode cX7_measure 24 = .ok (.return_, 1) := by decide +kernel
theorem dX7_measure_25 : decode cX7_measure 25 = .ok (.aload_n 0, 1) := by decide +kernel
theorem dX7_measure_26 : decode cX7_measure 26 = .ok (.getfield 9, 3) := by decide +kernel
theorem dX7_measure_29 : decode cX7_measure 29 = .ok (.iload_n 1, 1) := by decide +kernel
theorem dX7_measure_30 : decode cX7_measure 30 = .ok (.invokestatic 40, 3) := by decide +kernel
theorem dX7_measure_33 : decode cX7_measure 33 = .ok (.iaload, 1) := by decide +kernel
theorem dX7_measure_34 : decode cX7_measure 34 = .ok (.istore 4, 2) := by decide +kernel
theorem dX7_measure_36 : decode cX7_measure 36 = .ok (.iload_n 1, 1) := by decide +kernel
theorem dX7_measure_37 : decode cX7_measure 37 = .ok (.bipush 100, 2) := by decide +kernel
theorem dX7_measure_39 : decode cX7_measure 39 = .ok (.idiv, 1) := by decide +kernel
theorem dX7_measure_40 : decode cX7_measure 40 = .ok (.iconst 1, 1) := by decide +kernel
theorem dX7_measure_41 : decode cX7_measure 41 = .ok (.if_icmp .ne 16, 3) := by decide +kernel
theorem dX7_measure_44 : decode cX7_measure 44 = .ok (.aload_n 2, 1) := by decide +kernel
theorem dX7_measure_45 : decode cX7_measure 45 = .ok (.iload_n 3, 1) := by decide +kernel
theorem dX7_measure_46 : decode cX7_measure 46 = .ok (.iload 4, 2) := by decide +kernel
theorem dX7_measure_48 : decode cX7_measure 48 = .ok (.iadd, 1) := by decide +kernel
theorem dX7_measure_49 : decode cX7_measure 49 = .ok (.i2l, 1) := by decide +kernel
theorem dX7_measure_50 : decode cX7_measure 50 = .ok (.lconst 1, 1) := by decide +kernel
theorem dX7_measure_51 : decode cX7_measure 51 = .ok (.invokevirtual 43, 3) := by decide +kernel
theorem dX7_measure_54 : decode cX7_measure 54 = .ok (.goto 17, 3) := by decide +kernel
theorem dX7_measure_57 : decode cX7_measure 57 = .ok (.aload_n 2, 1) := by decide +kernel
theorem dX7_measure_58 : decode cX7_measure 58 = .ok (.iload_n 3, 1) := by decide +kernel
theorem dX7_measure_59 : decode cX7_measure 59 = .ok (.iload 4, 2) := by decide +kernel
theorem dX7_measure_61 : decode cX7_measure 61 = .ok (.imul, 1) := by decide +kernel
theorem dX7_measure_62 : decode cX7_measure 62 = .ok (.i2l, 1) := by decide +kernel
theorem dX7_measure_63 : decode cX7_measure 63 = .ok (.iload_n 3, 1) := by decide +kernel
theorem dX7_measure_64 : decode cX7_measure 64 = .ok (.iload 4, 2) := by decide +kernel
theorem dX7_measure_66 : decode cX7_measure 66 = .ok (.iadd, 1) := by decide +kernel
theorem dX7_measure_67 : decode cX7_measure 67 = .ok (.i2l, 1) := by decide +kernel
theorem dX7_measure_68 : decode cX7_measure 68 = .ok (.invokevirtual 43, 3) := by decide +kernel
theorem dX7_measure_71 : decode cX7_measure 71 = .ok (.return_, 1) := by decide +kernel
set_option maxRecDepth 20000 in
theorem ggX7_nearestTo_X7_has : GoodIn wsX7_nearestTo wsX7_has := goodIn_r _ [9, 10, 11, 12, 8, 13, 14, 15, 16, 17, 18, 19, 48, 49, 50, 51, 52] (by decide +kernel) (by decide +kernel)
set_option maxRecDepth 20000 in
theorem gX7_nearestTo_X7_has : GoodIn wsX7_nearestTo (wsV RX7 47 RX7 yX7_has wsX7_has) := goodIn_app (goodIn_of _ (by decide +kernel)) ggX7_nearestTo_X7_has
set_option maxRecDepth 20000 in
theorem ggX7_nearestTo_X7_measure : GoodIn wsX7_nearestTo wsX7_measure := goodIn_r _ [23, 24, 14, 15, 8, 16, 11, 12, 13, 25, 26, 27, 28, 29, 30, 31, 17, 18, 19, 48, 49, 50, 51, 52, 53, 54] (by decide +kernel) (by decide +kernel)
set_option maxRecDepth 20000 in
theorem gX7_nearestTo_X7_measure : GoodIn wsX7_nearestTo (wsV RX7 50 RX7 yX7_measure wsX7_measure) := goodIn_app (goodIn_of _ (by decide +kernel)) ggX7_nearestTo_X7_measure
set_option maxRecDepth 20000 in
theorem ggX7_nearestTo_X7_isTriedBetter : GoodIn wsX7_nearestTo wsX7_isTriedBetter := goodIn_r _ [35, 1, 2, 4, 36, 37, 8, 38, 3, 39, 40, 41, 42, 43, 44, 45, 46, 47, 14, 15, 16, 11, 12, 13, 17, 18, 19, 48, 49, 50, 51, 52, 53, 54] (by decide +kernel) (by decide +kernel)
set_option maxRecDepth 20000 in
theorem gX7_nearestTo_X7_isTriedBetter : GoodIn wsX7_nearestTo (wsV RX7 54 RX7 yX7_isTriedBetter wsX7_isTriedBetter) := goodIn_app (goodIn_of _ (by decide +kernel)) ggX7_nearestTo_X7_isTriedBetter
set_option maxRecDepth 20000 in
theorem ggX7_nearestTo_X0_set : GoodIn wsX7_nearestTo wsX0_set := goodIn_r _ [29, 30, 31, 53, 54] (by decide +kernel) (by decide +kernel)
set_option maxRecDepth 20000 in
theorem gX7_nearestTo_X0_set : GoodIn wsX7_nearestTo (wsV RX7 43 RX0 yX0_set wsX0_set) := goodIn_app (goodIn_of _ (by decide +kernel)) ggX7_nearestTo_X0_set
theorem dX7_nearestTo_0 : decode cX7_nearestTo 0 = .ok (.bipush (-9), 2) := by decide +kernel
theorem dX7_nearestTo_2 : decode cX7_nearestTo 2 = .ok (.istore_n 3, 1) := by decide +kernel
theorem dX7_nearestTo_3 : decode cX7_nearestTo 3 = .ok (.iconst 0, 1) := by decide +kernel
theorem dX7_nearestTo_4 : decode cX7_nearestTo 4 = .ok (.istore 4, 2) := by decide +kernel
theorem dX7_nearestTo_6 : decode cX7_nearestTo 6 = .ok (.iload 4, 2) := by decide +kernel
theorem dX7_nearestTo_8 : decode cX7_nearestTo 8 = .ok (.sipush 300, 3) := by decide +kernel
theorem dX7_nearestTo_11 : decode cX7_nearestTo 11 = .ok (.if_icmp .ge 73, 3) := by decide +kernel
theorem dX7_nearestTo_14 : decode cX7_nearestTo 14 = .ok (.aload_n 0, 1) := by decide +kernel
theorem dX7_nearestTo_15 : decode cX7_nearestTo 15 = .ok (.iload 4, 2) := by decide +kernel
theorem dX7_nearestTo_17 : decode cX7_nearestTo 17 = .ok (.invokevirtual 47, 3) := by decide +kernel
theorem dX7_nearestTo_20 : decode cX7_nearestTo 20 = .ok (.ifCond .ne 6, 3) := by decide +kernel
theorem dX7_nearestTo_23 : decode cX7_nearestTo 23 = .ok (.goto 55, 3) := by decide +kernel
theorem dX7_nearestTo_26 : decode cX7_nearestTo 26 = .ok (.aload_n 0, 1) := by decide +kernel
theorem dX7_nearestTo_27 : decode cX7_nearestTo 27 = .ok (.iload 4, 2) := by decide +kernel
theorem dX7_nearestTo_29 : decode cX7_nearestTo 29 = .ok (.aload_n 0, 1) := by decide +kernel
theorem dX7_nearestTo_30 : decode cX7_nearestTo 30 = .ok (.getfield 25, 3) := by decide +kernel
theorem dX7_nearestTo_33 : decode cX7_nearestTo 33 = .ok (.invokevirtual 50, 3) := by decide +kernel
theorem dX7_nearestTo_36 : decode cX7_nearestTo 36 = .ok (.iload_n 3, 1) := by decide +kernel
theorem dX7_nearestTo_37 : decode cX7_nearestTo 37 = .ok (.bipush (-9), 2) := by decide +kernel
theorem dX7_nearestTo_39 : decode cX7_nearestTo 39 = .ok (.if_icmp .eq 15, 3) := by decide +kernel
theorem dX7_nearestTo_42 : decode cX7_nearestTo 42 = .ok (.aload_n 0, 1) := by decide +kernel
theorem dX7_nearestTo_43 : decode cX7_nearestTo 43 = .ok (.iload 4, 2) := by decide +kernel
theorem dX7_nearestTo_45 : decode cX7_nearestTo 45 = .ok (.iload_n 3, 1) := by decide +kernel
theorem dX7_nearestTo_46 : decode cX7_nearestTo 46 = .ok (.iload_n 1, 1) := by decide +kernel
theorem dX7_nearestTo_47 : decode cX7_nearestTo 47 = .ok (.iload_n 2, 1) := by decide +kernel
theorem dX7_nearestTo_48 : decode cX7_nearestTo 48 = .ok (.invokevirtual 54, 3) := by decide +kernel
theorem dX7_nearestTo_51 : decode cX7_nearestTo 51 = .ok (.ifCond .eq 27, 3) := by decide +kernel
theorem dX7_nearestTo_54 : decode cX7_nearestTo 54 = .ok (.iload 4, 2) := by decide +kernel
theorem dX7_nearestTo_56 : decode cX7_nearestTo 56 = .ok (.istore_n 3, 1) := by decide +kernel
theorem dX7_nearestTo_57 : decode cX7_nearestTo 57 = .ok (.aload_n 0, 1) := by decide +kernel
theorem dX7_nearestTo_58 : decode cX7_nearestTo 58 = .ok (.getfield 29, 3) := by decide +kernel
theorem dX7_nearestTo_61 : decode cX7_nearestTo 61 = .ok (.aload_n 0, 1) := by decide +kernel
theorem dX7_nearestTo_62 : decode cX7_nearestTo 62 = .ok (.getfield 25, 3) := by decide +kernel
theorem dX7_nearestTo_65 : decode cX7_nearestTo 65 = .ok (.getfield 58, 3) := by decide +kernel
theorem dX7_nearestTo_68 : decode cX7_nearestTo 68 = .ok (.aload_n 0, 1) := by decide +kernel
theorem dX7_nearestTo_69 : decode cX7_nearestTo 69 = .ok (.getfield 25, 3) := by decide +kernel
theorem dX7_nearestTo_72 : decode cX7_nearestTo 72 = .ok (.getfield 62, 3) := by decide +kernel
theorem dX7_nearestTo_75 : decode cX7_nearestTo 75 = .ok (.invokevirtual 43, 3) := by decide +kernel
theorem dX7_nearestTo_78 : decode cX7_nearestTo 78 = .ok (.iinc 4 1, 3) := by decide +kernel
theorem dX7_nearestTo_81 : decode cX7_nearestTo 81 = .ok (.goto (-75), 3) := by decide +kernel
theorem dX7_nearestTo_84 : decode cX7_nearestTo 84 = .ok (.iload_n 3, 1) := by decide +kernel
theorem dX7_nearestTo_85 : decode cX7_nearestTo 85 = .ok (.ireturn, 1) := by decide +kernel
set_option maxRecDepth 20000 in
theorem ggX7_isTriedBetter_X7_gap : GoodIn wsX7_isTriedBetter wsX7_gap := goodIn_r _ [7, 8, 3, 9, 10, 11, 12, 32, 33] (by decide +kernel) (by decide +kernel)
set_option maxRecDepth 20000 in
theorem gX7_isTriedBetter_X7_gap : GoodIn wsX7_isTriedBetter (va_wsS RX7 65 yX7_gap wsX7_gap) := goodIn_app (goodIn_of _ (by decide +kernel)) ggX7_isTriedBetter_X7_gap
set_option maxRecDepth 20000 in
theorem ggX7_isTriedBetter_X7_priceOf : GoodIn wsX7_isTriedBetter wsX7_priceOf := goodIn_r _ [16, 17, 18, 19, 6, 20, 21, 22, 23, 24, 25, 26, 27, 28, 29, 30, 31] (by decide +kernel) (by decide +kernel)
set_option maxRecDepth 20000 in
theorem gX7_isTriedBetter_X7_priceOf : GoodIn wsX7_isTriedBetter (wsV RX7 69 RX7 yX7_priceOf wsX7_priceOf) := goodIn_app (goodIn_of _ (by decide +kernel)) ggX7_isTriedBetter_X7_priceOf
theorem dX7_isTriedBetter_0 : decode cX7_isTriedBetter 0 = .ok (.aload_n 0, 1) := by decide +kernel
theorem dX7_isTriedBetter_1 : decode cX7_isTriedBetter 1 = .ok (.getfield 25, 3) := by decide +kernel
theorem dX7_isTriedBetter_4 : decode cX7_isTriedBetter 4 = .ok (.iload_n 3, 1) := by decide +kernel
theorem dX7_isTriedBetter_5 : decode cX7_isTriedBetter 5 = .ok (.iload 4, 2) := by decide +kernel
theorem dX7_isTriedBetter_7 : decode cX7_isTriedBetter 7 = .ok (.invokestatic 65, 3) := by decide +kernel
theorem dX7_isTriedBetter_10 : decode cX7_isTriedBetter 10 = .ok (.aload_n 0, 1) := by decide +kernel
theorem dX7_isTriedBetter_11 : decode cX7_isTriedBetter 11 = .ok (.getfield 29, 3) := by decide +kernel
theorem dX7_isTriedBetter_14 : decode cX7_isTriedBetter 14 = .ok (.getfield 62, 3) := by decide +kernel
theorem dX7_isTriedBetter_17 : decode cX7_isTriedBetter 17 = .ok (.lmul, 1) := by decide +kernel
theorem dX7_isTriedBetter_18 : decode cX7_isTriedBetter 18 = .ok (.lstore 5, 2) := by decide +kernel
theorem dX7_isTriedBetter_20 : decode cX7_isTriedBetter 20 = .ok (.aload_n 0, 1) := by decide +kernel
theorem dX7_isTriedBetter_21 : decode cX7_isTriedBetter 21 = .ok (.getfield 29, 3) := by decide +kernel
theorem dX7_isTriedBetter_24 : decode cX7_isTriedBetter 24 = .ok (.iload_n 3, 1) := by decide +kernel
theorem dX7_isTriedBetter_25 : decode cX7_isTriedBetter 25 = .ok (.iload 4, 2) := by decide +kernel
theorem dX7_isTriedBetter_27 : decode cX7_isTriedBetter 27 = .ok (.invokestatic 65, 3) := by decide +kernel
theorem dX7_isTriedBetter_30 : decode cX7_isTriedBetter 30 = .ok (.aload_n 0, 1) := by decide +kernel
theorem dX7_isTriedBetter_31 : decode cX7_isTriedBetter 31 = .ok (.getfield 25, 3) := by decide +kernel
theorem dX7_isTriedBetter_34 : decode cX7_isTriedBetter 34 = .ok (.getfield 62, 3) := by decide +kernel
theorem dX7_isTriedBetter_37 : decode cX7_isTriedBetter 37 = .ok (.lmul, 1) := by decide +kernel
theorem dX7_isTriedBetter_38 : decode cX7_isTriedBetter 38 = .ok (.lstore 7, 2) := by decide +kernel
theorem dX7_isTriedBetter_40 : decode cX7_isTriedBetter 40 = .ok (.lload 5, 2) := by decide +kernel
theorem dX7_isTriedBetter_42 : decode cX7_isTriedBetter 42 = .ok (.lload 7, 2) := by decide +kernel
theorem dX7_isTriedBetter_44 : decode cX7_isTriedBetter 44 = .ok (.lcmp, 1) := by decide +kernel
theorem dX7_isTriedBetter_45 : decode cX7_isTriedBetter 45 = .ok (.ifCond .eq 17, 3) := by decide +kernel
theorem dX7_isTriedBetter_48 : decode cX7_isTriedBetter 48 = .ok (.lload 5, 2) := by decide +kernel
theorem dX7_isTriedBetter_50 : decode cX7_isTriedBetter 50 = .ok (.lload 7, 2) := by decide +kernel
theorem dX7_isTriedBetter_52 : decode cX7_isTriedBetter 52 = .ok (.lcmp, 1) := by decide +kernel
theorem dX7_isTriedBetter_53 : decode cX7_isTriedBetter 53 = .ok (.ifCond .ge 7, 3) := by decide +kernel
theorem dX7_isTriedBetter_56 : decode cX7_isTriedBetter 56 = .ok (.iconst 1, 1) := by decide +kernel
theorem dX7_isTriedBetter_57 : decode cX7_isTriedBetter 57 = .ok (.goto 4, 3) := by decide +kernel
theorem dX7_isTriedBetter_60 : decode cX7_isTriedBetter 60 = .ok (.iconst 0, 1) := by decide +kernel
theorem dX7_isTriedBetter_61 : decode cX7_isTriedBetter 61 = .ok (.ireturn, 1) := by decide +kernel
theorem dX7_isTriedBetter_62 : decode cX7_isTriedBetter 62 = .ok (.aload_n 0, 1) := by decide +kernel
theorem dX7_isTriedBetter_63 : decode cX7_isTriedBetter 63 = .ok (.iload_n 1, 1) := by decide +kernel
theorem dX7_isTriedBetter_64 : decode cX7_isTriedBetter 64 = .ok (.invokevirtual 69, 3) := by decide +kernel
theorem dX7_isTriedBetter_67 : decode cX7_isTriedBetter 67 = .ok (.aload_n 0, 1) := by decide +kernel
theorem dX7_isTriedBetter_68 : decode cX7_isTriedBetter 68 = .ok (.iload_n 2, 1) := by decide +kernel
theorem dX7_isTriedBetter_69 : decode cX7_isTriedBetter 69 = .ok (.invokevirtual 69, 3) := by decide +kernel
theorem dX7_isTriedBetter_72 : decode cX7_isTriedBetter 72 = .ok (.if_icmp .ge 7, 3) := by decide +kernel
theorem dX7_isTriedBetter_75 : decode cX7_isTriedBetter 75 = .ok (.iconst 1, 1) := by decide +kernel
theorem dX7_isTriedBetter_76 : decode cX7_isTriedBetter 76 = .ok (.goto 4, 3) := by decide +kernel
theorem dX7_isTriedBetter_79 : decode cX7_isTriedBetter 79 = .ok (.iconst 0, 1) := by decide +kernel
theorem dX7_isTriedBetter_80 : decode cX7_isTriedBetter 80 = .ok (.ireturn, 1) := by decide +kernel
theorem dX7_gap_0 : decode cX7_gap 0 = .ok (.aload_n 0, 1) := by decide +kernel
theorem dX7_gap_1 : decode cX7_gap 1 = .ok (.getfield 58, 3) := by decide +kernel
theorem dX7_gap_4 : decode cX7_gap 4 = .ok (.iload_n 2, 1) := by decide +kernel
theorem dX7_gap_5 : decode cX7_gap 5 = .ok (.i2l, 1) := by decide +kernel
theorem dX7_gap_6 : decode cX7_gap 6 = .ok (.lmul, 1) := by decide +kernel
theorem dX7_gap_7 : decode cX7_gap 7 = .ok (.iload_n 1, 1) := by decide +kernel
theorem dX7_gap_8 : decode cX7_gap 8 = .ok (.i2l, 1) := by decide +kernel
theorem dX7_gap_9 : decode cX7_gap 9 = .ok (.aload_n 0, 1) := by decide +kernel
theorem dX7_gap_10 : decode cX7_gap 10 = .ok (.getfield 62, 3) := by decide +kernel
theorem dX7_gap_13 : decode cX7_gap 13 = .ok (.lmul, 1) := by decide +kernel
theorem dX7_gap_14 : decode cX7_gap 14 = .ok (.lsub, 1) := by decide +kernel
theorem dX7_gap_15 : decode cX7_gap 15 = .ok (.invokestatic 72, 3) := by decide +kernel
theorem dX7_gap_18 : decode cX7_gap 18 = .ok (.lreturn, 1) := by decide +kernel
set_option maxRecDepth 20000 in
theorem ggX8_init_X2_init : GoodIn wsX8_init wsX2_init := goodIn_r _ [5, 6, 7, 8, 9, 10, 11, 12, 13, 14, 15, 16, 22, 23, 24, 25, 17, 18, 19, 20, 21, 26, 27, 28] (by decide +kernel) (by decide +kernel)
set_option maxRecDepth 20000 in
theorem gX8_init_X2_init : GoodIn wsX8_init (wsX2_init) := ggX8_init_X2_init
theorem dX8_init_0 : decode cX8_init 0 = .ok (.aload_n 0, 1) := by decide +kernel
theorem dX8_init_1 : decode cX8_init 1 = .ok (.iload_n 1, 1) := by decide +kernel
theorem dX8_init_2 : decode cX8_init 2 = .ok (.iload_n 2, 1) := by decide +kernel
theorem dX8_init_3 : decode cX8_init 3 = .ok (.iload_n 3, 1) := by decide +kernel
theorem dX8_init_4 : decode cX8_init 4 = .ok (.iload 4, 2) := by decide +kernel
theorem dX8_init_6 : decode cX8_init 6 = .ok (.invokespecial 1, 3) := by decide +kernel
theorem dX8_init_9 : decode cX8_init 9 = .ok (.aload_n 0, 1) := by decide +kernel
theorem dX8_init_10 : decode cX8_init 10 = .ok (.iload 5, 2) := by decide +kernel
theorem dX8_init_12 : decode cX8_init 12 = .ok (.putfield 7, 3) := by decide +kernel
theorem dX8_init_15 : decode cX8_init 15 = .ok (.return_, 1) := by decide +kernel
set_option maxRecDepth 20000 in
theorem ggX8_measure_X2_measure : GoodIn wsX8_measure wsX2_measure := goodIn_r _ [8, 9, 10, 11, 12, 13, 14, 15, 16, 17, 18, 19, 20, 21, 22, 23, 24, 25, 31, 32, 33, 34, 26, 27, 28, 29, 30] (by decide +kernel) (by decide +kernel)
set_option maxRecDepth 20000 in
theorem gX8_measure_X2_measure_s13 : GoodIn wsX8_measure (va_wsSU RX8 13 yX2_measure wsX2_measure) := goodIn_app (goodIn_of _ (by decide +kernel)) ggX8_measure_X2_measure
theorem dX8_measure_0 : decode cX8_measure 0 = .ok (.aload_n 0, 1) := by decide +kernel
theorem dX8_measure_1 : decode cX8_measure 1 = .ok (.aload_n 1, 1) := by decide +kernel
theorem dX8_measure_2 : decode cX8_measure 2 = .ok (.invokespecial 13, 3) := by decide +kernel
theorem dX8_measure_5 : decode cX8_measure 5 = .ok (.istore_n 2, 1) := by decide +kernel
theorem dX8_measure_6 : decode cX8_measure 6 = .ok (.aload_n 1, 1) := by decide +kernel
theorem dX8_measure_7 : decode cX8_measure 7 = .ok (.dup, 1) := by decide +kernel
theorem dX8_measure_8 : decode cX8_measure 8 = .ok (.getfield 17, 3) := by decide +kernel
theorem dX8_measure_11 : decode cX8_measure 11 = .ok (.aload_n 0, 1) := by decide +kernel
theorem dX8_measure_12 : decode cX8_measure 12 = .ok (.getfield 7, 3) := by decide +kernel
theorem dX8_measure_15 : decode cX8_measure 15 = .ok (.i2l, 1) := by decide +kernel
theorem dX8_measure_16 : decode cX8_measure 16 = .ok (.lmul, 1) := by decide +kernel
theorem dX8_measure_17 : decode cX8_measure 17 = .ok (.putfield 17, 3) := by decide +kernel
theorem dX8_measure_20 : decode cX8_measure 20 = .ok (.iload_n 2, 1) := by decide +kernel
theorem dX8_measure_21 : decode cX8_measure 21 = .ok (.bipush 100, 2) := by decide +kernel
theorem dX8_measure_23 : decode cX8_measure 23 = .ok (.iadd, 1) := by decide +kernel
theorem dX8_measure_24 : decode cX8_measure 24 = .ok (.ireturn, 1) := by decide +kernel
set_option maxRecDepth 20000 in
theorem ggX9_init_X1_init : GoodIn wsX9_init wsX1_init := goodIn_r _ [23, 24, 2, 3, 25, 26, 27, 17, 18, 28, 29, 30, 31, 32, 33, 34, 35, 36, 37, 38, 39, 40, 41, 42, 43, 44, 45, 46, 47, 48, 49, 50, 51, 52, 53, 54, 55, 56, 57, 58, 84, 85, 86, 105, 106, 107, 108, 109, 110] (by decide +kernel) (by decide +kernel)
set_option maxRecDepth 20000 in
theorem gX9_init_X1_init : GoodIn wsX9_init (wsX1_init) := ggX9_init_X1_init
set_option maxRecDepth 20000 in
theorem ggX9_init_X3_init : GoodIn wsX9_init wsX3_init := goodIn_r _ [60, 61, 2, 3, 62, 63, 64, 65, 66, 67, 17, 18, 68, 69, 70, 71, 72, 73, 74, 32, 33, 34, 35, 36, 92, 93, 94, 95, 96, 97, 98, 99, 105, 106] (by decide +kernel) (by decide +kernel)
set_option maxRecDepth 20000 in
theorem gX9_init_X3_init_n18 : GoodIn wsX9_init (wsX3_init) := ggX9_init_X3_init
set_option maxRecDepth 20000 in
theorem ggX9_init_X7_init : GoodIn wsX9_init wsX7_init := goodIn_r _ [76, 77, 2, 3, 69, 78, 79, 80, 81, 17, 18, 82, 83, 32, 33, 34, 35, 36, 100, 101, 102, 103, 104, 105, 106] (by decide +kernel) (by decide +kernel)
set_option maxRecDepth 20000 in
theorem gX9_init_X7_init_n25 : GoodIn wsX9_init (wsX7_init) := ggX9_init_X7_init
set_option maxRecDepth 20000 in
theorem ggX9_init_X0_init : GoodIn wsX9_init wsX0_init := goodIn_r _ [33, 34, 2, 3, 35, 36, 105, 106] (by decide +kernel) (by decide +kernel)
set_option maxRecDepth 20000 in
theorem gX9_init_X0_init_n32 : GoodIn wsX9_init (wsX0_init) := ggX9_init_X0_init
theorem dX9_init_0 : decode cX9_init 0 = .ok (.aload_n 0, 1) := by decide +kernel
theorem dX9_init_1 : decode cX9_init 1 = .ok (.invokespecial 1, 3) := by decide +kernel
theorem dX9_init_4 : decode cX9_init 4 = .ok (.aload_n 0, 1) := by decide +kernel
theorem dX9_init_5 : decode cX9_init 5 = .ok (.new 7, 3) := by decide +kernel
theorem dX9_init_8 : decode cX9_init 8 = .ok (.dup, 1) := by decide +kernel
theorem dX9_init_9 : decode cX9_init 9 = .ok (.invokespecial 9, 3) := by decide +kernel
theorem dX9_init_12 : decode cX9_init 12 = .ok (.putfield 10, 3) := by decide +kernel
theorem dX9_init_15 : decode cX9_init 15 = .ok (.aload_n 0, 1) := by decide +kernel
theorem dX9_init_16 : decode cX9_init 16 = .ok (.new 16, 3) := by decide +kernel
theorem dX9_init_19 : decode cX9_init 19 = .ok (.dup, 1) := by decide +kernel
theorem dX9_init_20 : decode cX9_init 20 = .ok (.invokespecial 18, 3) := by decide +kernel
theorem dX9_init_23 : decode cX9_init 23 = .ok (.putfield 19, 3) := by decide +kernel
theorem dX9_init_26 : decode cX9_init 26 = .ok (.aload_n 0, 1) := by decide +kernel
theorem dX9_init_27 : decode cX9_init 27 = .ok (.new 23, 3) := by decide +kernel
theorem dX9_init_30 : decode cX9_init 30 = .ok (.dup, 1) := by decide +kernel
theorem dX9_init_31 : decode cX9_init 31 = .ok (.invokespecial 25, 3) := by decide +kernel
theorem dX9_init_34 : decode cX9_init 34 = .ok (.putfield 26, 3) := by decide +kernel
theorem dX9_init_37 : decode cX9_init 37 = .ok (.aload_n 0, 1) := by decide +kernel
theorem dX9_init_38 : decode cX9_init 38 = .ok (.new 30, 3) := by decide +kernel
theorem dX9_init_41 : decode cX9_init 41 = .ok (.dup, 1) := by decide +kernel
theorem dX9_init_42 : decode cX9_init 42 = .ok (.invokespecial 32, 3) := by decide +kernel
theorem dX9_init_45 : decode cX9_init 45 = .ok (.putfield 33, 3) := by decide +kernel
theorem dX9_init_48 : decode cX9_init 48 = .ok (.aload_n 0, 1) := by decide +kernel
theorem dX9_init_49 : decode cX9_init 49 = .ok (.lconst 0, 1) := by decide +kernel
theorem dX9_init_50 : decode cX9_init 50 = .ok (.putfield 37, 3) := by decide +kernel
theorem dX9_init_53 : decode cX9_init 53 = .ok (.return_, 1) := by decide +kernel
set_option maxRecDepth 20000 in
theorem ggX9_many_X9_isWithin : GoodIn wsX9_many wsX9_isWithin := goodIn_r _ [5] (by decide +kernel) (by decide +kernel)
set_option maxRecDepth 20000 in
theorem gX9_many_X9_isWithin : GoodIn wsX9_many (va_wsS RX9 41 yX9_isWithin wsX9_isWithin) := goodIn_app (goodIn_of _ (by decide +kernel)) ggX9_many_X9_isWithin
set_option maxRecDepth 20000 in
theorem ggX9_many_X1_sharesOf : GoodIn wsX9_many wsX1_sharesOf := goodIn_r _ [10, 11, 12, 13, 14, 15, 9, 16, 17, 18, 19, 20, 21, 22, 23, 24, 25, 26, 27, 28, 29, 30, 31, 32, 33, 34, 35, 36, 37, 38, 39, 40, 41, 42, 43, 44, 45, 46, 47, 48, 49, 50, 51, 52, 53, 54, 55, 56, 57, 58, 59, 60, 61, 62, 63, 64, 65, 66, 67, 68, 69, 70, 71, 72, 73, 74, 75, 76, 77, 78, 79, 80, 81, 82, 83, 84, 85, 86, 87, 88, 89, 90, 91, 92, 93, 94, 95, 96, 97, 98, 99, 100, 101, 102, 103, 104, 105, 106, 107, 108, 109, 110, 111, 112, 113, 114, 115, 116, 117, 118, 119, 120, 121, 122, 123, 124, 125, 126, 127, 128, 129, 130, 131, 132, 133, 134, 135, 136, 137, 138, 139, 140, 141, 142, 143, 144, 145, 146, 147, 148, 149, 150, 151, 152, 153, 154, 155, 156, 157, 158, 159, 160, 161, 162, 163, 164, 165, 166, 167, 168, 169, 170, 177, 178, 179, 180, 181, 182, 183, 184, 185, 186, 187, 188, 189, 190, 191] (by decide +kernel) (by decide +kernel)
set_option maxRecDepth 20000 in
theorem gX9_many_X1_sharesOf : GoodIn wsX9_many (wsV RX9 45 RX1 yX1_sharesOf wsX1_sharesOf) := goodIn_app (goodIn_of _ (by decide +kernel)) ggX9_many_X1_sharesOf
set_option maxRecDepth 20000 in
theorem ggX9_many_X6_size : GoodIn wsX9_many wsX6_size := goodIn_r _ [160, 32, 41, 42, 43, 44, 45, 46, 182, 189, 190, 191] (by decide +kernel) (by decide +kernel)
set_option maxRecDepth 20000 in
theorem gX9_many_X6_size : GoodIn wsX9_many (wsV RX9 49 RX6 yX6_size wsX6_size) := goodIn_app (goodIn_of _ (by decide +kernel)) ggX9_many_X6_size
theorem dX9_many_0 : decode cX9_many 0 = .ok (.iload_n 1, 1) := by decide +kernel
theorem dX9_many_1 : decode cX9_many 1 = .ok (.iconst 1, 1) := by decide +kernel
theorem dX9_many_2 : decode cX9_many 2 = .ok (.bipush 9, 2) := by decide +kernel
theorem dX9_many_4 : decode cX9_many 4 = .ok (.invokestatic 41, 3) := by decide +kernel
theorem dX9_many_7 : decode cX9_many 7 = .ok (.ifCond .ne 5, 3) := by decide +kernel
theorem dX9_many_10 : decode cX9_many 10 = .ok (.iconst (-1), 1) := by decide +kernel
theorem dX9_many_11 : decode cX9_many 11 = .ok (.ireturn, 1) := by decide +kernel
theorem dX9_many_12 : decode cX9_many 12 = .ok (.aload_n 0, 1) := by decide +kernel
theorem dX9_many_13 : decode cX9_many 13 = .ok (.getfield 10, 3) := by decide +kernel
theorem dX9_many_16 : decode cX9_many 16 = .ok (.iload_n 1, 1) := by decide +kernel
theorem dX9_many_17 : decode cX9_many 17 = .ok (.invokevirtual 45, 3) := by decide +kernel
theorem dX9_many_20 : decode cX9_many 20 = .ok (.invokevirtual 49, 3) := by decide +kernel
theorem dX9_many_23 : decode cX9_many 23 = .ok (.ireturn, 1) := by decide +kernel
set_option maxRecDepth 20000 in
theorem ggX9_share_X9_shareAt : GoodIn wsX9_share wsX9_shareAt := goodIn_r _ [7, 8, 9, 10, 6, 11, 12, 13, 14, 15, 16, 17, 18, 19, 20, 21, 22, 23, 24, 25, 26, 27, 28, 29, 30, 31, 32, 33, 34, 35, 36, 37, 38, 39, 40, 41, 42, 43, 44, 45, 46, 47, 48, 49, 50, 51, 52, 53, 54, 55, 56, 57, 58, 59, 60, 61, 62, 63, 64, 65, 66, 67, 68, 69, 70, 71, 72, 73, 74, 75, 76, 77, 78, 79, 80, 81, 82, 83, 84, 85, 86, 87, 88, 89, 90, 91, 92, 93, 94, 95, 96, 97, 98, 99, 100, 101, 102, 103, 104, 105, 106, 107, 108, 109, 110, 111, 112, 113, 114, 115, 116, 117, 118, 119, 120, 121, 122, 123, 124, 125, 126, 127, 128, 129, 130, 131, 132, 133, 134, 135, 136, 137, 138, 139, 140, 141, 142, 143, 144, 145, 146, 147, 148, 149, 150, 151, 152, 153, 154, 155, 156, 157, 158, 159, 160, 161, 162, 163, 164, 165, 166, 167, 168, 169, 170, 171, 172, 173, 174, 175, 176, 177, 184, 185, 186, 187, 188, 189, 190, 191, 192, 193, 194, 178, 179, 180, 181, 182, 183, 195, 196, 197] (by decide +kernel) (by decide +kernel)
set_option maxRecDepth 20000 in
theorem gX9_share_X9_shareAt : GoodIn wsX9_share (wsV RX9 55 RX9 yX9_shareAt wsX9_shareAt) := goodIn_app (goodIn_of _ (by decide +kernel)) ggX9_share_X9_shareAt
set_option maxRecDepth 20000 in
theorem ggX9_share_X9_isWithin : GoodIn wsX9_share wsX9_isWithin := goodIn_r _ [11] (by decide +kernel) (by decide +kernel)
set_option maxRecDepth 20000 in
theorem gX9_share_X9_isWithin : GoodIn wsX9_share (va_wsS RX9 41 yX9_isWithin wsX9_isWithin) := goodIn_app (goodIn_of _ (by decide +kernel)) ggX9_share_X9_isWithin
theorem dX9_share_0 : decode cX9_share 0 = .ok (.aload_n 0, 1) := by decide +kernel
theorem dX9_share_1 : decode cX9_share 1 = .ok (.iload_n 1, 1) := by decide +kernel
theorem dX9_share_2 : decode cX9_share 2 = .ok (.iload_n 2, 1) := by decide +kernel
theorem dX9_share_3 : decode cX9_share 3 = .ok (.invokevirtual 55, 3) := by decide +kernel
theorem dX9_share_6 : decode cX9_share 6 = .ok (.astore 4, 2) := by decide +kernel
theorem dX9_share_8 : decode cX9_share 8 = .ok (.aload 4, 2) := by decide +kernel
theorem dX9_share_10 : decode cX9_share 10 = .ok (.ifnull 12, 3) := by decide +kernel
theorem dX9_share_13 : decode cX9_share 13 = .ok (.iload_n 3, 1) := by decide +kernel
theorem dX9_share_14 : decode cX9_share 14 = .ok (.iconst 0, 1) := by decide +kernel
theorem dX9_share_15 : decode cX9_share 15 = .ok (.iconst 1, 1) := by decide +kernel
theorem dX9_share_16 : decode cX9_share 16 = .ok (.invokestatic 41, 3) := by decide +kernel
theorem dX9_share_19 : decode cX9_share 19 = .ok (.ifCond .ne 5, 3) := by decide +kernel
theorem dX9_share_22 : decode cX9_share 22 = .ok (.iconst (-1), 1) := by decide +kernel
theorem dX9_share_23 : decode cX9_share 23 = .ok (.ireturn, 1) := by decide +kernel
theorem dX9_share_24 : decode cX9_share 24 = .ok (.iload_n 3, 1) := by decide +kernel
theorem dX9_share_25 : decode cX9_share 25 = .ok (.ifCond .ne 11, 3) := by decide +kernel
theorem dX9_share_28 : decode cX9_share 28 = .ok (.aload 4, 2) := by decide +kernel
theorem dX9_share_30 : decode cX9_share 30 = .ok (.getfield 59, 3) := by decide +kernel
theorem dX9_share_33 : decode cX9_share 33 = .ok (.goto 8, 3) := by decide +kernel
theorem dX9_share_36 : decode cX9_share 36 = .ok (.aload 4, 2) := by decide +kernel
theorem dX9_share_38 : decode cX9_share 38 = .ok (.getfield 65, 3) := by decide +kernel
theorem dX9_share_41 : decode cX9_share 41 = .ok (.ireturn, 1) := by decide +kernel
set_option maxRecDepth 20000 in
theorem ggX9_rank_X9_isWithin : GoodIn wsX9_rank wsX9_isWithin := goodIn_r _ [6] (by decide +kernel) (by decide +kernel)
set_option maxRecDepth 20000 in
theorem gX9_rank_X9_isWithin : GoodIn wsX9_rank (va_wsS RX9 41 yX9_isWithin wsX9_isWithin) := goodIn_app (goodIn_of _ (by decide +kernel)) ggX9_rank_X9_isWithin
set_option maxRecDepth 20000 in
theorem ggX9_rank_X9_isTold : GoodIn wsX9_rank wsX9_isTold := goodIn_r _ [9, 3, 4, 5, 6] (by decide +kernel) (by decide +kernel)
set_option maxRecDepth 20000 in
theorem gX9_rank_X9_isTold : GoodIn wsX9_rank (va_wsS RX9 69 yX9_isTold wsX9_isTold) := goodIn_app (goodIn_of _ (by decide +kernel)) ggX9_rank_X9_isTold
set_option maxRecDepth 20000 in
theorem ggX9_rank_X1_sharesOf : GoodIn wsX9_rank wsX1_sharesOf := goodIn_r _ [14, 15, 16, 17, 18, 19, 13, 20, 21, 22, 23, 24, 25, 26, 27, 28, 29, 30, 31, 32, 33, 34, 35, 36, 37, 38, 39, 40, 41, 42, 43, 44, 45, 46, 47, 48, 49, 50, 51, 52, 53, 54, 55, 56, 57, 58, 59, 60, 61, 62, 63, 64, 65, 66, 67, 68, 69, 70, 71, 72, 73, 74, 75, 76, 77, 78, 79, 80, 81, 82, 83, 84, 85, 86, 87, 88, 89, 90, 91, 92, 93, 94, 95, 96, 97, 98, 99, 100, 101, 102, 103, 104, 105, 106, 107, 108, 109, 110, 111, 112, 113, 114, 115, 116, 117, 118, 119, 120, 121, 122, 123, 124, 125, 126, 127, 128, 129, 130, 131, 132, 133, 134, 135, 136, 137, 138, 139, 140, 141, 142, 143, 144, 145, 146, 147, 148, 149, 150, 151, 152, 153, 154, 155, 156, 157, 158, 159, 160, 161, 162, 163, 164, 165, 166, 167, 168, 169, 170, 171, 172, 173, 174, 184, 185, 186, 187, 188, 189, 190, 191, 192, 193, 194, 195, 196, 197, 198] (by decide +kernel) (by decide +kernel)
set_option maxRecDepth 20000 in
theorem gX9_rank_X1_sharesOf : GoodIn wsX9_rank (wsV RX9 45 RX1 yX1_sharesOf wsX1_sharesOf) := goodIn_app (goodIn_of _ (by decide +kernel)) ggX9_rank_X1_sharesOf
set_option maxRecDepth 20000 in
theorem ggX9_rank_X6_find : GoodIn wsX9_rank wsX6_find := goodIn_r _ [178, 40, 41, 42, 32, 43, 36, 44, 45, 46, 47, 48, 49, 50, 51, 52, 53, 54, 55, 56, 57, 58, 59, 60, 61, 62, 63, 64, 65, 66, 67, 68, 69, 70, 71, 72, 73, 74, 75, 76, 77, 78, 79, 80, 189, 196, 197, 198, 190, 191, 192, 193, 194, 195] (by decide +kernel) (by decide +kernel)
set_option maxRecDepth 20000 in
theorem gX9_rank_X6_find : GoodIn wsX9_rank (wsV RX9 72 RX6 yX6_find wsX6_find) := goodIn_app (goodIn_of _ (by decide +kernel)) ggX9_rank_X6_find
theorem dX9_rank_0 : decode cX9_rank 0 = .ok (.iload_n 1, 1) := by decide +kernel
theorem dX9_rank_1 : decode cX9_rank 1 = .ok (.iconst 1, 1) := by decide +kernel
theorem dX9_rank_2 : decode cX9_rank 2 = .ok (.bipush 9, 2) := by decide +kernel
theorem dX9_rank_4 : decode cX9_rank 4 = .ok (.invokestatic 41, 3) := by decide +kernel
theorem dX9_rank_7 : decode cX9_rank 7 = .ok (.ifCond .eq 13, 3) := by decide +kernel
theorem dX9_rank_10 : decode cX9_rank 10 = .ok (.iload_n 2, 1) := by decide +kernel
theorem dX9_rank_11 : decode cX9_rank 11 = .ok (.iload_n 3, 1) := by decide +kernel
theorem dX9_rank_12 : decode cX9_rank 12 = .ok (.ldc 68, 2) := by decide +kernel
theorem dX9_rank_14 : decode cX9_rank 14 = .ok (.invokestatic 69, 3) := by decide +kernel
theorem dX9_rank_17 : decode cX9_rank 17 = .ok (.ifCond .ne 5, 3) := by decide +kernel
theorem dX9_rank_20 : decode cX9_rank 20 = .ok (.iconst (-1), 1) := by decide +kernel
theorem dX9_rank_21 : decode cX9_rank 21 = .ok (.ireturn, 1) := by decide +kernel
theorem dX9_rank_22 : decode cX9_rank 22 = .ok (.aload_n 0, 1) := by decide +kernel
theorem dX9_rank_23 : decode cX9_rank 23 = .ok (.getfield 10, 3) := by decide +kernel
theorem dX9_rank_26 : decode cX9_rank 26 = .ok (.iload_n 1, 1) := by decide +kernel
theorem dX9_rank_27 : decode cX9_rank 27 = .ok (.invokevirtual 45, 3) := by decide +kernel
theorem dX9_rank_30 : decode cX9_rank 30 = .ok (.iload_n 2, 1) := by decide +kernel
theorem dX9_rank_31 : decode cX9_rank 31 = .ok (.iload_n 3, 1) := by decide +kernel
theorem dX9_rank_32 : decode cX9_rank 32 = .ok (.invokevirtual 72, 3) := by decide +kernel
theorem dX9_rank_35 : decode cX9_rank 35 = .ok (.ireturn, 1) := by decide +kernel
set_option maxRecDepth 20000 in
theorem ggX9_fewest_X9_isTold : GoodIn wsX9_fewest wsX9_isTold := goodIn_r _ [6, 7, 8, 5, 9] (by decide +kernel) (by decide +kernel)
set_option maxRecDepth 20000 in
theorem gX9_fewest_X9_isTold : GoodIn wsX9_fewest (va_wsS RX9 69 yX9_isTold wsX9_isTold) := goodIn_app (goodIn_of _ (by decide +kernel)) ggX9_fewest_X9_isTold
set_option maxRecDepth 20000 in
theorem ggX9_fewest_X1_sharesOf : GoodIn wsX9_fewest wsX1_sharesOf := goodIn_r _ [14, 15, 16, 17, 18, 19, 13, 20, 21, 22, 23, 24, 25, 26, 27, 28, 29, 30, 31, 32, 33, 34, 35, 36, 37, 38, 39, 40, 41, 42, 43, 44, 45, 46, 47, 48, 49, 50, 51, 52, 53, 54, 55, 56, 57, 58, 59, 60, 61, 62, 63, 64, 65, 66, 67, 68, 69, 70, 71, 72, 73, 74, 75, 76, 77, 78, 79, 80, 81, 82, 83, 84, 85, 86, 87, 88, 89, 90, 91, 92, 93, 94, 95, 96, 97, 98, 99, 100, 101, 102, 103, 104, 105, 106, 107, 108, 109, 110, 111, 112, 113, 114, 115, 116, 117, 118, 119, 120, 121, 122, 123, 124, 125, 126, 127, 128, 129, 130, 131, 132, 133, 134, 135, 136, 137, 138, 139, 140, 141, 142, 143, 144, 145, 146, 147, 148, 149, 150, 151, 152, 153, 154, 155, 156, 157, 158, 159, 160, 161, 162, 163, 164, 165, 166, 167, 168, 169, 170, 171, 172, 173, 174, 184, 185, 186, 187, 188, 189, 190, 191, 192, 193, 194, 195, 196, 197, 198] (by decide +kernel) (by decide +kernel)
set_option maxRecDepth 20000 in
theorem gX9_fewest_X1_sharesOf : GoodIn wsX9_fewest (wsV RX9 45 RX1 yX1_sharesOf wsX1_sharesOf) := goodIn_app (goodIn_of _ (by decide +kernel)) ggX9_fewest_X1_sharesOf
set_option maxRecDepth 20000 in
theorem ggX9_fewest_X6_find : GoodIn wsX9_fewest wsX6_find := goodIn_r _ [178, 40, 41, 42, 32, 43, 36, 44, 45, 46, 47, 48, 49, 50, 51, 52, 53, 54, 55, 56, 57, 58, 59, 60, 61, 62, 63, 64, 65, 66, 67, 68, 69, 70, 71, 72, 73, 74, 75, 76, 77, 78, 79, 80, 189, 196, 197, 198, 190, 191, 192, 193, 194, 195] (by decide +kernel) (by decide +kernel)
set_option maxRecDepth 20000 in
theorem gX9_fewest_X6_find : GoodIn wsX9_fewest (wsV RX9 72 RX6 yX6_find wsX6_find) := goodIn_app (goodIn_of _ (by decide +kernel)) ggX9_fewest_X6_find
theorem dX9_fewest_0 : decode cX9_fewest 0 = .ok (.iload_n 1, 1) := by decide +kernel
theorem dX9_fewest_1 : decode cX9_fewest 1 = .ok (.iload_n 2, 1) := by decide +kernel
theorem dX9_fewest_2 : decode cX9_fewest 2 = .ok (.ldc 68, 2) := by decide +kernel
theorem dX9_fewest_4 : decode cX9_fewest 4 = .ok (.invokestatic 69, 3) := by decide +kernel
theorem dX9_fewest_7 : decode cX9_fewest 7 = .ok (.ifCond .ne 5, 3) := by decide +kernel
theorem dX9_fewest_10 : decode cX9_fewest 10 = .ok (.iconst (-1), 1) := by decide +kernel
theorem dX9_fewest_11 : decode cX9_fewest 11 = .ok (.ireturn, 1) := by decide +kernel
theorem dX9_fewest_12 : decode cX9_fewest 12 = .ok (.iconst 1, 1) := by decide +kernel
theorem dX9_fewest_13 : decode cX9_fewest 13 = .ok (.istore_n 3, 1) := by decide +kernel
theorem dX9_fewest_14 : decode cX9_fewest 14 = .ok (.iload_n 3, 1) := by decide +kernel
theorem dX9_fewest_15 : decode cX9_fewest 15 = .ok (.bipush 9, 2) := by decide +kernel
theorem dX9_fewest_17 : decode cX9_fewest 17 = .ok (.if_icmp .gt 29, 3) := by decide +kernel
theorem dX9_fewest_20 : decode cX9_fewest 20 = .ok (.aload_n 0, 1) := by decide +kernel
theorem dX9_fewest_21 : decode cX9_fewest 21 = .ok (.getfield 10, 3) := by decide +kernel
theorem dX9_fewest_24 : decode cX9_fewest 24 = .ok (.iload_n 3, 1) := by decide +kernel
theorem dX9_fewest_25 : decode cX9_fewest 25 = .ok (.invokevirtual 45, 3) := by decide +kernel
theorem dX9_fewest_28 : decode cX9_fewest 28 = .ok (.iload_n 1, 1) := by decide +kernel
theorem dX9_fewest_29 : decode cX9_fewest 29 = .ok (.iload_n 2, 1) := by decide +kernel
theorem dX9_fewest_30 : decode cX9_fewest 30 = .ok (.invokevirtual 72, 3) := by decide +kernel
theorem dX9_fewest_33 : decode cX9_fewest 33 = .ok (.bipush (-9), 2) := by decide +kernel
theorem dX9_fewest_35 : decode cX9_fewest 35 = .ok (.if_icmp .eq 5, 3) := by decide +kernel
theorem dX9_fewest_38 : decode cX9_fewest 38 = .ok (.iload_n 3, 1) := by decide +kernel
theorem dX9_fewest_39 : decode cX9_fewest 39 = .ok (.ireturn, 1) := by decide +kernel
theorem dX9_fewest_40 : decode cX9_fewest 40 = .ok (.iinc 3 1, 3) := by decide +kernel
theorem dX9_fewest_43 : decode cX9_fewest 43 = .ok (.goto (-29), 3) := by decide +kernel
theorem dX9_fewest_46 : decode cX9_fewest 46 = .ok (.bipush (-9), 2) := by decide +kernel
theorem dX9_fewest_48 : decode cX9_fewest 48 = .ok (.ireturn, 1) := by decide +kernel
set_option maxRecDepth 20000 in
theorem ggX9_made_X9_shareAt : GoodIn wsX9_made wsX9_shareAt := goodIn_r _ [9, 10, 11, 12, 8, 13, 14, 15, 16, 17, 18, 19, 20, 21, 22, 23, 24, 25, 26, 27, 28, 29, 30, 31, 32, 33, 34, 35, 36, 37, 38, 39, 40, 41, 42, 43, 44, 45, 46, 47, 48, 49, 50, 51, 52, 53, 54, 55, 56, 57, 58, 59, 60, 61, 62, 63, 64, 65, 66, 67, 68, 69, 70, 71, 72, 73, 74, 75, 76, 77, 78, 79, 80, 81, 82, 83, 84, 85, 86, 87, 88, 89, 90, 91, 92, 93, 94, 95, 96, 97, 98, 99, 100, 101, 102, 103, 104, 105, 106, 107, 108, 109, 110, 111, 112, 113, 114, 115, 116, 117, 118, 119, 120, 121, 122, 123, 124, 125, 126, 127, 128, 129, 130, 131, 132, 133, 134, 135, 136, 137, 138, 139, 140, 141, 142, 143, 144, 145, 146, 147, 148, 149, 150, 151, 152, 153, 154, 155, 156, 157, 158, 159, 160, 161, 162, 163, 164, 165, 166, 167, 168, 169, 170, 171, 172, 173, 174, 175, 176, 177, 178, 179, 186, 187, 188, 189, 190, 191, 192, 193, 194, 195, 196, 180, 181, 182, 183, 184, 185, 197, 198, 199] (by decide +kernel) (by decide +kernel)
set_option maxRecDepth 20000 in
theorem gX9_made_X9_shareAt : GoodIn wsX9_made (wsV RX9 55 RX9 yX9_shareAt wsX9_shareAt) := goodIn_app (goodIn_of _ (by decide +kernel)) ggX9_made_X9_shareAt
theorem dX9_made_0 : decode cX9_made 0 = .ok (.aload_n 0, 1) := by decide +kernel
theorem dX9_made_1 : decode cX9_made 1 = .ok (.iload_n 1, 1) := by decide +kernel
theorem dX9_made_2 : decode cX9_made 2 = .ok (.iload_n 2, 1) := by decide +kernel
theorem dX9_made_3 : decode cX9_made 3 = .ok (.invokevirtual 55, 3) := by decide +kernel
theorem dX9_made_6 : decode cX9_made 6 = .ok (.astore 4, 2) := by decide +kernel
theorem dX9_made_8 : decode cX9_made 8 = .ok (.aload 4, 2) := by decide +kernel
theorem dX9_made_10 : decode cX9_made 10 = .ok (.ifnonnull 5, 3) := by decide +kernel
theorem dX9_made_13 : decode cX9_made 13 = .ok (.iconst (-1), 1) := by decide +kernel
theorem dX9_made_14 : decode cX9_made 14 = .ok (.ireturn, 1) := by decide +kernel
theorem dX9_made_15 : decode cX9_made 15 = .ok (.iload_n 3, 1) := by decide +kernel
theorem dX9_made_16 : decode cX9_made 16 = .ok (.tableswitch 56 0 3 #[32, 38, 44, 50], 32) := by decide +kernel
theorem dX9_made_48 : decode cX9_made 48 = .ok (.aload 4, 2) := by decide +kernel
theorem dX9_made_50 : decode cX9_made 50 = .ok (.getfield 76, 3) := by decide +kernel
theorem dX9_made_53 : decode cX9_made 53 = .ok (.ireturn, 1) := by decide +kernel
theorem dX9_made_54 : decode cX9_made 54 = .ok (.aload 4, 2) := by decide +kernel
theorem dX9_made_56 : decode cX9_made 56 = .ok (.getfield 79, 3) := by decide +kernel
theorem dX9_made_59 : decode cX9_made 59 = .ok (.ireturn, 1) := by decide +kernel
theorem dX9_made_60 : decode cX9_made 60 = .ok (.aload 4, 2) := by decide +kernel
theorem dX9_made_62 : decode cX9_made 62 = .ok (.getfield 82, 3) := by decide +kernel
theorem dX9_made_65 : decode cX9_made 65 = .ok (.ireturn, 1) := by decide +kernel
theorem dX9_made_66 : decode cX9_made 66 = .ok (.aload 4, 2) := by decide +kernel
theorem dX9_made_68 : decode cX9_made 68 = .ok (.getfield 85, 3) := by decide +kernel
theorem dX9_made_71 : decode cX9_made 71 = .ok (.ireturn, 1) := by decide +kernel
theorem dX9_made_72 : decode cX9_made 72 = .ok (.iconst (-1), 1) := by decide +kernel
theorem dX9_made_73 : decode cX9_made 73 = .ok (.ireturn, 1) := by decide +kernel
set_option maxRecDepth 20000 in
theorem ggX9_turned_X9_shareAt : GoodIn wsX9_turned wsX9_shareAt := goodIn_r _ [6, 1, 7, 8, 5, 9, 10, 11, 12, 13, 14, 15, 16, 17, 18, 19, 20, 21, 22, 23, 24, 25, 26, 27, 28, 29, 30, 31, 32, 33, 34, 35, 36, 37, 38, 39, 40, 41, 42, 43, 44, 45, 46, 47, 48, 49, 50, 51, 52, 53, 54, 55, 56, 57, 58, 59, 60, 61, 62, 63, 64, 65, 66, 67, 68, 69, 70, 71, 72, 73, 74, 75, 76, 77, 78, 79, 80, 81, 82, 83, 84, 85, 86, 87, 88, 89, 90, 91, 92, 93, 94, 95, 96, 97, 98, 99, 100, 101, 102, 103, 104, 105, 106, 107, 108, 109, 110, 111, 112, 113, 114, 115, 116, 117, 118, 119, 120, 121, 122, 123, 124, 125, 126, 127, 128, 129, 130, 131, 132, 133, 134, 135, 136, 137, 138, 139, 140, 141, 142, 143, 144, 145, 146, 147, 148, 149, 150, 151, 152, 153, 154, 155, 156, 157, 158, 159, 160, 161, 162, 163, 164, 165, 166, 167, 168, 169, 170, 171, 172, 173, 174, 175, 177, 178, 179, 180, 181, 182, 183, 184, 185, 186, 187, 188, 189, 190, 191, 192, 193, 194, 195, 196] (by decide +kernel) (by decide +kernel)
set_option maxRecDepth 20000 in
theorem gX9_turned_X9_shareAt : GoodIn wsX9_turned (wsV RX9 55 RX9 yX9_shareAt wsX9_shareAt) := goodIn_app (goodIn_of _ (by decide +kernel)) ggX9_turned_X9_shareAt
set_option maxRecDepth 20000 in
theorem ggX9_turned_X1_sharesOf : GoodIn wsX9_turned wsX1_sharesOf := goodIn_r _ [14, 15, 16, 17, 18, 19, 13, 20, 21, 22, 23, 24, 25, 26, 27, 28, 29, 30, 31, 32, 33, 34, 35, 36, 37, 38, 39, 40, 41, 42, 43, 44, 45, 46, 47, 48, 49, 50, 51, 52, 53, 54, 55, 56, 57, 58, 59, 60, 61, 62, 63, 64, 65, 66, 67, 68, 69, 70, 71, 72, 73, 74, 75, 76, 77, 78, 79, 80, 81, 82, 83, 84, 85, 86, 87, 88, 89, 90, 91, 92, 93, 94, 95, 96, 97, 98, 99, 100, 101, 102, 103, 104, 105, 106, 107, 108, 109, 110, 111, 112, 113, 114, 115, 116, 117, 118, 119, 120, 121, 122, 123, 124, 125, 126, 127, 128, 129, 130, 131, 132, 133, 134, 135, 136, 137, 138, 139, 140, 141, 142, 143, 144, 145, 146, 147, 148, 149, 150, 151, 152, 153, 154, 155, 156, 157, 158, 159, 160, 161, 162, 163, 164, 165, 166, 167, 168, 169, 170, 171, 172, 173, 174, 182, 183, 184, 185, 186, 187, 188, 189, 190, 191, 192, 193, 194, 195, 196] (by decide +kernel) (by decide +kernel)
set_option maxRecDepth 20000 in
theorem gX9_turned_X1_sharesOf : GoodIn wsX9_turned (wsV RX9 45 RX1 yX1_sharesOf wsX1_sharesOf) := goodIn_app (goodIn_of _ (by decide +kernel)) ggX9_turned_X1_sharesOf
set_option maxRecDepth 20000 in
theorem ggX9_turned_X6_size : GoodIn wsX9_turned wsX6_size := goodIn_r _ [164, 36, 45, 46, 47, 48, 49, 50, 187, 194, 195, 196] (by decide +kernel) (by decide +kernel)
set_option maxRecDepth 20000 in
theorem gX9_turned_X6_size : GoodIn wsX9_turned (wsV RX9 49 RX6 yX6_size wsX6_size) := goodIn_app (goodIn_of _ (by decide +kernel)) ggX9_turned_X6_size
theorem dX9_turned_0 : decode cX9_turned 0 = .ok (.aload_n 0, 1) := by decide +kernel
theorem dX9_turned_1 : decode cX9_turned 1 = .ok (.iload_n 1, 1) := by decide +kernel
theorem dX9_turned_2 : decode cX9_turned 2 = .ok (.iload_n 2, 1) := by decide +kernel
theorem dX9_turned_3 : decode cX9_turned 3 = .ok (.invokevirtual 55, 3) := by decide +kernel
theorem dX9_turned_6 : decode cX9_turned 6 = .ok (.ifnonnull 5, 3) := by decide +kernel
theorem dX9_turned_9 : decode cX9_turned 9 = .ok (.iconst (-1), 1) := by decide +kernel
theorem dX9_turned_10 : decode cX9_turned 10 = .ok (.ireturn, 1) := by decide +kernel
theorem dX9_turned_11 : decode cX9_turned 11 = .ok (.aload_n 0, 1) := by decide +kernel
theorem dX9_turned_12 : decode cX9_turned 12 = .ok (.getfield 10, 3) := by decide +kernel
theorem dX9_turned_15 : decode cX9_turned 15 = .ok (.iload_n 1, 1) := by decide +kernel
theorem dX9_turned_16 : decode cX9_turned 16 = .ok (.invokevirtual 45, 3) := by decide +kernel
theorem dX9_turned_19 : decode cX9_turned 19 = .ok (.invokevirtual 49, 3) := by decide +kernel
theorem dX9_turned_22 : decode cX9_turned 22 = .ok (.iconst 1, 1) := by decide +kernel
theorem dX9_turned_23 : decode cX9_turned 23 = .ok (.isub, 1) := by decide +kernel
theorem dX9_turned_24 : decode cX9_turned 24 = .ok (.iload_n 2, 1) := by decide +kernel
theorem dX9_turned_25 : decode cX9_turned 25 = .ok (.isub, 1) := by decide +kernel
theorem dX9_turned_26 : decode cX9_turned 26 = .ok (.ireturn, 1) := by decide +kernel
set_option maxRecDepth 20000 in
theorem ggX9_shareAt_X9_isWithin : GoodIn wsX9_shareAt wsX9_isWithin := goodIn_r _ [5] (by decide +kernel) (by decide +kernel)
set_option maxRecDepth 20000 in
theorem gX9_shareAt_X9_isWithin : GoodIn wsX9_shareAt (va_wsS RX9 41 yX9_isWithin wsX9_isWithin) := goodIn_app (goodIn_of _ (by decide +kernel)) ggX9_shareAt_X9_isWithin
set_option maxRecDepth 20000 in
theorem ggX9_shareAt_X1_sharesOf : GoodIn wsX9_shareAt wsX1_sharesOf := goodIn_r _ [10, 11, 12, 13, 14, 15, 9, 16, 17, 18, 19, 20, 21, 22, 23, 24, 25, 26, 27, 28, 29, 30, 31, 32, 33, 34, 35, 36, 37, 38, 39, 40, 41, 42, 43, 44, 45, 46, 47, 48, 49, 50, 51, 52, 53, 54, 55, 56, 57, 58, 59, 60, 61, 62, 63, 64, 65, 66, 67, 68, 69, 70, 71, 72, 73, 74, 75, 76, 77, 78, 79, 80, 81, 82, 83, 84, 85, 86, 87, 88, 89, 90, 91, 92, 93, 94, 95, 96, 97, 98, 99, 100, 101, 102, 103, 104, 105, 106, 107, 108, 109, 110, 111, 112, 113, 114, 115, 116, 117, 118, 119, 120, 121, 122, 123, 124, 125, 126, 127, 128, 129, 130, 131, 132, 133, 134, 135, 136, 137, 138, 139, 140, 141, 142, 143, 144, 145, 146, 147, 148, 149, 150, 151, 152, 153, 154, 155, 156, 157, 158, 159, 160, 161, 162, 163, 164, 165, 166, 167, 168, 169, 170, 177, 178, 179, 180, 181, 182, 183, 184, 185, 186, 187, 188, 189, 190, 191] (by decide +kernel) (by decide +kernel)
set_option maxRecDepth 20000 in
theorem gX9_shareAt_X1_sharesOf : GoodIn wsX9_shareAt (wsV RX9 45 RX1 yX1_sharesOf wsX1_sharesOf) := goodIn_app (goodIn_of _ (by decide +kernel)) ggX9_shareAt_X1_sharesOf
set_option maxRecDepth 20000 in
theorem ggX9_shareAt_X6_at : GoodIn wsX9_shareAt wsX6_at := goodIn_r _ [164, 32, 40, 41, 42, 43, 44, 45, 46, 47, 48, 49, 50, 51, 52, 53, 54, 55, 56, 57, 58, 59, 60, 61, 62, 63, 182, 189, 190, 191] (by decide +kernel) (by decide +kernel)
set_option maxRecDepth 20000 in
theorem gX9_shareAt_X6_at : GoodIn wsX9_shareAt (wsV RX9 88 RX6 yX6_at wsX6_at) := goodIn_app (goodIn_of _ (by decide +kernel)) ggX9_shareAt_X6_at
theorem dX9_shareAt_0 : decode cX9_shareAt 0 = .ok (.iload_n 1, 1) := by decide +kernel
theorem dX9_shareAt_1 : decode cX9_shareAt 1 = .ok (.iconst 1, 1) := by decide +kernel
theorem dX9_shareAt_2 : decode cX9_shareAt 2 = .ok (.bipush 9, 2) := by decide +kernel
theorem dX9_shareAt_4 : decode cX9_shareAt 4 = .ok (.invokestatic 41, 3) := by decide +kernel
theorem dX9_shareAt_7 : decode cX9_shareAt 7 = .ok (.ifCond .ne 5, 3) := by decide +kernel
theorem dX9_shareAt_10 : decode cX9_shareAt 10 = .ok (.aconst_null, 1) := by decide +kernel
theorem dX9_shareAt_11 : decode cX9_shareAt 11 = .ok (.areturn, 1) := by decide +kernel
theorem dX9_shareAt_12 : decode cX9_shareAt 12 = .ok (.aload_n 0, 1) := by decide +kernel
theorem dX9_shareAt_13 : decode cX9_shareAt 13 = .ok (.getfield 10, 3) := by decide +kernel
theorem dX9_shareAt_16 : decode cX9_shareAt 16 = .ok (.iload_n 1, 1) := by decide +kernel
theorem dX9_shareAt_17 : decode cX9_shareAt 17 = .ok (.invokevirtual 45, 3) := by decide +kernel
theorem dX9_shareAt_20 : decode cX9_shareAt 20 = .ok (.iload_n 2, 1) := by decide +kernel
theorem dX9_shareAt_21 : decode cX9_shareAt 21 = .ok (.invokevirtual 88, 3) := by decide +kernel
theorem dX9_shareAt_24 : decode cX9_shareAt 24 = .ok (.areturn, 1) := by decide +kernel
set_option maxRecDepth 20000 in
theorem ggX9_wire_X9_isWithin : GoodIn wsX9_wire wsX9_isWithin := goodIn_r _ [5] (by decide +kernel) (by decide +kernel)
set_option maxRecDepth 20000 in
theorem gX9_wire_X9_isWithin : GoodIn wsX9_wire (va_wsS RX9 41 yX9_isWithin wsX9_isWithin) := goodIn_app (goodIn_of _ (by decide +kernel)) ggX9_wire_X9_isWithin
set_option maxRecDepth 20000 in
theorem ggX9_wire_X9_areTwoKnots : GoodIn wsX9_wire wsX9_areTwoKnots := goodIn_r _ [8, 9, 10, 4, 11, 2, 3, 5] (by decide +kernel) (by decide +kernel)
set_option maxRecDepth 20000 in
theorem gX9_wire_X9_areTwoKnots : GoodIn wsX9_wire (va_wsS RX9 92 yX9_areTwoKnots wsX9_areTwoKnots) := goodIn_app (goodIn_of _ (by decide +kernel)) ggX9_wire_X9_areTwoKnots
set_option maxRecDepth 20000 in
theorem ggX9_wire_X3_size : GoodIn wsX9_wire wsX3_size := goodIn_r _ [16, 17, 95, 96, 97, 98, 99, 100, 101, 102] (by decide +kernel) (by decide +kernel)
set_option maxRecDepth 20000 in
theorem gX9_wire_X3_size : GoodIn wsX9_wire (wsV RX9 96 RX3 yX3_size wsX3_size) := goodIn_app (goodIn_of _ (by decide +kernel)) ggX9_wire_X3_size
set_option maxRecDepth 20000 in
theorem ggX9_wire_X9_newWire : GoodIn wsX9_wire wsX9_newWire := goodIn_r _ [20, 21, 22, 23, 24, 25, 26, 27, 28, 29, 30, 31, 32, 33, 34, 35, 36, 37, 38, 39, 40, 41, 42, 43, 44, 45, 46, 47, 48, 103, 104, 105, 106, 107, 108, 109, 110, 111, 112, 113, 114] (by decide +kernel) (by decide +kernel)
set_option maxRecDepth 20000 in
theorem gX9_wire_X9_newWire : GoodIn wsX9_wire (va_wsS RX9 97 yX9_newWire wsX9_newWire) := goodIn_app (goodIn_of _ (by decide +kernel)) ggX9_wire_X9_newWire
set_option maxRecDepth 20000 in
theorem ggX9_wire_X3_add : GoodIn wsX9_wire wsX3_add := goodIn_r _ [52, 53, 17, 54, 55, 56, 57, 15, 58, 59, 60, 61, 62, 63, 64, 65, 66, 67, 26, 68, 69, 37, 70, 71, 72, 29, 73, 74, 75, 76, 77, 78, 79, 80, 81, 82, 83, 84, 23, 85, 86, 33, 87, 88, 89, 95, 96, 97, 98, 99, 100, 101, 102, 115, 116, 108, 109, 110, 111, 103, 104, 105, 106, 107] (by decide +kernel) (by decide +kernel)
set_option maxRecDepth 20000 in
theorem gX9_wire_X3_add : GoodIn wsX9_wire (wsV RX9 101 RX3 yX3_add wsX3_add) := goodIn_app (goodIn_of _ (by decide +kernel)) ggX9_wire_X3_add
theorem dX9_wire_0 : decode cX9_wire 0 = .ok (.iload_n 1, 1) := by decide +kernel
theorem dX9_wire_1 : decode cX9_wire 1 = .ok (.iconst 0, 1) := by decide +kernel
theorem dX9_wire_2 : decode cX9_wire 2 = .ok (.iconst 2, 1) := by decide +kernel
theorem dX9_wire_3 : decode cX9_wire 3 = .ok (.invokestatic 41, 3) := by decide +kernel
theorem dX9_wire_6 : decode cX9_wire 6 = .ok (.ifCond .eq 11, 3) := by decide +kernel
theorem dX9_wire_9 : decode cX9_wire 9 = .ok (.iload_n 2, 1) := by decide +kernel
theorem dX9_wire_10 : decode cX9_wire 10 = .ok (.iload_n 3, 1) := by decide +kernel
theorem dX9_wire_11 : decode cX9_wire 11 = .ok (.invokestatic 92, 3) := by decide +kernel
theorem dX9_wire_14 : decode cX9_wire 14 = .ok (.ifCond .ne 5, 3) := by decide +kernel
theorem dX9_wire_17 : decode cX9_wire 17 = .ok (.iconst (-1), 1) := by decide +kernel
theorem dX9_wire_18 : decode cX9_wire 18 = .ok (.ireturn, 1) := by decide +kernel
theorem dX9_wire_19 : decode cX9_wire 19 = .ok (.iload_n 1, 1) := by decide +kernel
end
section
theorem dX9_wire_20 : decode cX9_wire 20 = .ok (.iconst 1, 1) := by decide +kernel
theorem dX9_wire_21 : decode cX9_wire 21 = .ok (.if_icmp .lt 15, 3) := by decide +kernel
theorem dX9_wire_24 : decode cX9_wire 24 = .ok (.iload 4, 2) := by decide +kernel
theorem dX9_wire_26 : decode cX9_wire 26 = .ok (.iconst 1, 1) := by decide +kernel
theorem dX9_wire_27 : decode cX9_wire 27 = .ok (.iconst 4, 1) := by decide +kernel
theorem dX9_wire_28 : decode cX9_wire 28 = .ok (.invokestatic 41, 3) := by decide +kernel
theorem dX9_wire_31 : decode cX9_wire 31 = .ok (.ifCond .ne 5, 3) := by decide +kernel
theorem dX9_wire_34 : decode cX9_wire 34 = .ok (.iconst (-1), 1) := by decide +kernel
theorem dX9_wire_35 : decode cX9_wire 35 = .ok (.ireturn, 1) := by decide +kernel
theorem dX9_wire_36 : decode cX9_wire 36 = .ok (.iload_n 1, 1) := by decide +kernel
theorem dX9_wire_37 : decode cX9_wire 37 = .ok (.iconst 2, 1) := by decide +kernel
theorem dX9_wire_38 : decode cX9_wire 38 = .ok (.if_icmp .lt 15, 3) := by decide +kernel
theorem dX9_wire_41 : decode cX9_wire 41 = .ok (.iload 5, 2) := by decide +kernel
theorem dX9_wire_43 : decode cX9_wire 43 = .ok (.iconst 1, 1) := by decide +kernel
theorem dX9_wire_44 : decode cX9_wire 44 = .ok (.iconst 4, 1) := by decide +kernel
theorem dX9_wire_45 : decode cX9_wire 45 = .ok (.invokestatic 41, 3) := by decide +kernel
theorem dX9_wire_48 : decode cX9_wire 48 = .ok (.ifCond .ne 5, 3) := by decide +kernel
theorem dX9_wire_51 : decode cX9_wire 51 = .ok (.iconst (-1), 1) := by decide +kernel
theorem dX9_wire_52 : decode cX9_wire 52 = .ok (.ireturn, 1) := by decide +kernel
theorem dX9_wire_53 : decode cX9_wire 53 = .ok (.aload_n 0, 1) := by decide +kernel
theorem dX9_wire_54 : decode cX9_wire 54 = .ok (.getfield 19, 3) := by decide +kernel
theorem dX9_wire_57 : decode cX9_wire 57 = .ok (.invokevirtual 96, 3) := by decide +kernel
theorem dX9_wire_60 : decode cX9_wire 60 = .ok (.bipush 12, 2) := by decide +kernel
theorem dX9_wire_62 : decode cX9_wire 62 = .ok (.if_icmp .lt 6, 3) := by decide +kernel
theorem dX9_wire_65 : decode cX9_wire 65 = .ok (.bipush (-3), 2) := by decide +kernel
theorem dX9_wire_67 : decode cX9_wire 67 = .ok (.ireturn, 1) := by decide +kernel
theorem dX9_wire_68 : decode cX9_wire 68 = .ok (.aload_n 0, 1) := by decide +kernel
theorem dX9_wire_69 : decode cX9_wire 69 = .ok (.getfield 19, 3) := by decide +kernel
theorem dX9_wire_72 : decode cX9_wire 72 = .ok (.iload_n 1, 1) := by decide +kernel
theorem dX9_wire_73 : decode cX9_wire 73 = .ok (.iload_n 2, 1) := by decide +kernel
theorem dX9_wire_74 : decode cX9_wire 74 = .ok (.iload_n 3, 1) := by decide +kernel
theorem dX9_wire_75 : decode cX9_wire 75 = .ok (.iload 4, 2) := by decide +kernel
theorem dX9_wire_77 : decode cX9_wire 77 = .ok (.iload 5, 2) := by decide +kernel
theorem dX9_wire_79 : decode cX9_wire 79 = .ok (.invokestatic 97, 3) := by decide +kernel
theorem dX9_wire_82 : decode cX9_wire 82 = .ok (.invokevirtual 101, 3) := by decide +kernel
theorem dX9_wire_85 : decode cX9_wire 85 = .ok (.ireturn, 1) := by decide +kernel
set_option maxRecDepth 20000 in
theorem ggX9_newWire_X8_init : GoodIn wsX9_newWire wsX8_init := goodIn_r _ [12, 13, 14, 15, 6, 16, 17, 18, 19, 9, 20, 21, 22, 23, 24, 25, 26, 29, 30, 31, 32, 33, 34, 35, 36, 37, 38, 39, 40] (by decide +kernel) (by decide +kernel)
set_option maxRecDepth 20000 in
theorem gX9_newWire_X8_init : GoodIn wsX9_newWire (wsX8_init) := ggX9_newWire_X8_init
set_option maxRecDepth 20000 in
theorem ggX9_newWire_X2_init : GoodIn wsX9_newWire wsX2_init := goodIn_r _ [16, 17, 18, 19, 9, 20, 21, 22, 23, 24, 25, 26, 34, 35, 36, 37, 29, 30, 31, 32, 33, 38, 39, 40] (by decide +kernel) (by decide +kernel)
set_option maxRecDepth 20000 in
theorem gX9_newWire_X2_init : GoodIn wsX9_newWire (wsX2_init) := ggX9_newWire_X2_init
set_option maxRecDepth 20000 in
theorem ggX9_newWire_X4_init : GoodIn wsX9_newWire wsX4_init := goodIn_r _ [20, 21, 22, 23, 24, 25, 26, 34, 35, 36, 37, 38, 39, 40, 29, 30, 31, 32, 33] (by decide +kernel) (by decide +kernel)
set_option maxRecDepth 20000 in
theorem gX9_newWire_X4_init : GoodIn wsX9_newWire (wsX4_init) := ggX9_newWire_X4_init
theorem dX9_newWire_0 : decode cX9_newWire 0 = .ok (.iload_n 0, 1) := by decide +kernel
theorem dX9_newWire_1 : decode cX9_newWire 1 = .ok (.iconst 2, 1) := by decide +kernel
theorem dX9_newWire_2 : decode cX9_newWire 2 = .ok (.if_icmp .ne 17, 3) := by decide +kernel
theorem dX9_newWire_5 : decode cX9_newWire 5 = .ok (.new 105, 3) := by decide +kernel
theorem dX9_newWire_8 : decode cX9_newWire 8 = .ok (.dup, 1) := by decide +kernel
theorem dX9_newWire_9 : decode cX9_newWire 9 = .ok (.iload_n 0, 1) := by decide +kernel
theorem dX9_newWire_10 : decode cX9_newWire 10 = .ok (.iload_n 1, 1) := by decide +kernel
theorem dX9_newWire_11 : decode cX9_newWire 11 = .ok (.iload_n 2, 1) := by decide +kernel
theorem dX9_newWire_12 : decode cX9_newWire 12 = .ok (.iload_n 3, 1) := by decide +kernel
theorem dX9_newWire_13 : decode cX9_newWire 13 = .ok (.iload 4, 2) := by decide +kernel
theorem dX9_newWire_15 : decode cX9_newWire 15 = .ok (.invokespecial 107, 3) := by decide +kernel
theorem dX9_newWire_18 : decode cX9_newWire 18 = .ok (.areturn, 1) := by decide +kernel
theorem dX9_newWire_19 : decode cX9_newWire 19 = .ok (.iload_n 0, 1) := by decide +kernel
theorem dX9_newWire_20 : decode cX9_newWire 20 = .ok (.iconst 1, 1) := by decide +kernel
theorem dX9_newWire_21 : decode cX9_newWire 21 = .ok (.if_icmp .ne 15, 3) := by decide +kernel
theorem dX9_newWire_24 : decode cX9_newWire 24 = .ok (.new 110, 3) := by decide +kernel
theorem dX9_newWire_27 : decode cX9_newWire 27 = .ok (.dup, 1) := by decide +kernel
theorem dX9_newWire_28 : decode cX9_newWire 28 = .ok (.iload_n 0, 1) := by decide +kernel
theorem dX9_newWire_29 : decode cX9_newWire 29 = .ok (.iload_n 1, 1) := by decide +kernel
theorem dX9_newWire_30 : decode cX9_newWire 30 = .ok (.iload_n 2, 1) := by decide +kernel
theorem dX9_newWire_31 : decode cX9_newWire 31 = .ok (.iload_n 3, 1) := by decide +kernel
theorem dX9_newWire_32 : decode cX9_newWire 32 = .ok (.invokespecial 112, 3) := by decide +kernel
theorem dX9_newWire_35 : decode cX9_newWire 35 = .ok (.areturn, 1) := by decide +kernel
theorem dX9_newWire_36 : decode cX9_newWire 36 = .ok (.new 115, 3) := by decide +kernel
theorem dX9_newWire_39 : decode cX9_newWire 39 = .ok (.dup, 1) := by decide +kernel
theorem dX9_newWire_40 : decode cX9_newWire 40 = .ok (.iload_n 0, 1) := by decide +kernel
theorem dX9_newWire_41 : decode cX9_newWire 41 = .ok (.iload_n 1, 1) := by decide +kernel
theorem dX9_newWire_42 : decode cX9_newWire 42 = .ok (.iload_n 2, 1) := by decide +kernel
theorem dX9_newWire_43 : decode cX9_newWire 43 = .ok (.invokespecial 117, 3) := by decide +kernel
theorem dX9_newWire_46 : decode cX9_newWire 46 = .ok (.areturn, 1) := by decide +kernel
set_option maxRecDepth 20000 in
theorem ggX9_cut_X3_size : GoodIn wsX9_cut wsX3_size := goodIn_r _ [6, 7, 18, 19, 20, 21, 22, 23, 24, 25] (by decide +kernel) (by decide +kernel)
set_option maxRecDepth 20000 in
theorem gX9_cut_X3_size : GoodIn wsX9_cut (wsV RX9 96 RX3 yX3_size wsX3_size) := goodIn_app (goodIn_of _ (by decide +kernel)) ggX9_cut_X3_size
set_option maxRecDepth 20000 in
theorem ggX9_cut_X3_removeLatest : GoodIn wsX9_cut wsX3_removeLatest := goodIn_r _ [11, 7, 12, 18, 19, 20, 21, 22, 23, 24, 25] (by decide +kernel) (by decide +kernel)
set_option maxRecDepth 20000 in
theorem gX9_cut_X3_removeLatest : GoodIn wsX9_cut (wsV RX9 120 RX3 yX3_removeLatest wsX3_removeLatest) := goodIn_app (goodIn_of _ (by decide +kernel)) ggX9_cut_X3_removeLatest
theorem dX9_cut_0 : decode cX9_cut 0 = .ok (.aload_n 0, 1) := by decide +kernel
theorem dX9_cut_1 : decode cX9_cut 1 = .ok (.getfield 19, 3) := by decide +kernel
theorem dX9_cut_4 : decode cX9_cut 4 = .ok (.invokevirtual 96, 3) := by decide +kernel
theorem dX9_cut_7 : decode cX9_cut 7 = .ok (.ifCond .ne 6, 3) := by decide +kernel
theorem dX9_cut_10 : decode cX9_cut 10 = .ok (.bipush (-2), 2) := by decide +kernel
theorem dX9_cut_12 : decode cX9_cut 12 = .ok (.ireturn, 1) := by decide +kernel
theorem dX9_cut_13 : decode cX9_cut 13 = .ok (.aload_n 0, 1) := by decide +kernel
theorem dX9_cut_14 : decode cX9_cut 14 = .ok (.getfield 19, 3) := by decide +kernel
theorem dX9_cut_17 : decode cX9_cut 17 = .ok (.invokevirtual 120, 3) := by decide +kernel
theorem dX9_cut_20 : decode cX9_cut 20 = .ok (.ireturn, 1) := by decide +kernel
set_option maxRecDepth 20000 in
theorem ggX9_ohms_X3_at : GoodIn wsX9_ohms wsX3_at := goodIn_r _ [8, 9, 10, 67, 68, 69, 70, 71, 72, 73, 74] (by decide +kernel) (by decide +kernel)
set_option maxRecDepth 20000 in
theorem gX9_ohms_X3_at : GoodIn wsX9_ohms (wsV RX9 123 RX3 yX3_at wsX3_at) := goodIn_app (goodIn_of _ (by decide +kernel)) ggX9_ohms_X3_at
set_option maxRecDepth 20000 in
theorem ggX9_ohms_X9_isWithin : GoodIn wsX9_ohms wsX9_isWithin := goodIn_r _ [14] (by decide +kernel) (by decide +kernel)
set_option maxRecDepth 20000 in
theorem gX9_ohms_X9_isWithin : GoodIn wsX9_ohms (va_wsS RX9 41 yX9_isWithin wsX9_isWithin) := goodIn_app (goodIn_of _ (by decide +kernel)) ggX9_ohms_X9_isWithin
set_option maxRecDepth 20000 in
theorem ggX9_ohms_X2_measure : GoodIn wsX9_ohms wsX2_measure := goodIn_r _ [21, 22, 23, 24, 16, 25, 26, 27, 28, 29, 30, 31, 32, 33, 34, 35, 75, 76, 77, 78, 79, 80, 81, 82, 83, 84, 85] (by decide +kernel) (by decide +kernel)
set_option maxRecDepth 20000 in
theorem gX9_ohms_X2_measure_u126X2 : GoodIn wsX9_ohms (va_wsO RX9 126 RX2 "OhmNets$OneWire" ⟨"OhmNets$OneWire", "measure", "(LOhmNets$Fraction;)I"⟩ yX2_measure wsX2_measure) := goodIn_app (goodIn_of _ (by decide +kernel)) ggX9_ohms_X2_measure
set_option maxRecDepth 20000 in
theorem ggX9_ohms_X4_measure : GoodIn wsX9_ohms wsX4_measure := goodIn_r _ [28, 29, 30, 31, 32, 33, 34, 35, 75, 76] (by decide +kernel) (by decide +kernel)
set_option maxRecDepth 20000 in
theorem gX9_ohms_X4_measure : GoodIn wsX9_ohms (wsV RX9 126 RX4 yX4_measure wsX4_measure) := goodIn_app (goodIn_of _ (by decide +kernel)) ggX9_ohms_X4_measure
set_option maxRecDepth 20000 in
theorem ggX9_ohms_X8_measure : GoodIn wsX9_ohms wsX8_measure := goodIn_r _ [41, 42, 43, 44, 45, 46, 19, 20, 21, 22, 23, 24, 16, 25, 26, 27, 28, 29, 30, 31, 32, 33, 34, 35, 75, 76, 81, 82, 83, 84, 85, 77, 78, 79, 80] (by decide +kernel) (by decide +kernel)
set_option maxRecDepth 20000 in
theorem gX9_ohms_X8_measure_u126X8 : GoodIn wsX9_ohms (va_wsO RX9 126 RX8 "OhmNets$OneWire" ⟨"OhmNets$OneWire", "measure", "(LOhmNets$Fraction;)I"⟩ yX8_measure wsX8_measure) := goodIn_app (goodIn_of _ (by decide +kernel)) ggX9_ohms_X8_measure
set_option maxRecDepth 20000 in
theorem ggX9_ohms_X0_reduce : GoodIn wsX9_ohms wsX0_reduce := goodIn_r _ [50, 34, 51, 52, 53, 54, 35, 55, 56, 32, 57, 75, 76] (by decide +kernel) (by decide +kernel)
set_option maxRecDepth 20000 in
theorem gX9_ohms_X0_reduce : GoodIn wsX9_ohms (wsV RX9 130 RX0 yX0_reduce wsX0_reduce) := goodIn_app (goodIn_of _ (by decide +kernel)) ggX9_ohms_X0_reduce
set_option maxRecDepth 20000 in
theorem ggX9_ohms_X0_part : GoodIn wsX9_ohms wsX0_part := goodIn_r _ [61, 34, 35, 75, 76] (by decide +kernel) (by decide +kernel)
set_option maxRecDepth 20000 in
theorem gX9_ohms_X0_part : GoodIn wsX9_ohms (wsV RX9 133 RX0 yX0_part wsX0_part) := goodIn_app (goodIn_of _ (by decide +kernel)) ggX9_ohms_X0_part
theorem dX9_ohms_0 : decode cX9_ohms 0 = .ok (.aload_n 0, 1) := by decide +kernel
theorem dX9_ohms_1 : decode cX9_ohms 1 = .ok (.getfield 19, 3) := by decide +kernel
theorem dX9_ohms_4 : decode cX9_ohms 4 = .ok (.iload_n 1, 1) := by decide +kernel
theorem dX9_ohms_5 : decode cX9_ohms 5 = .ok (.invokevirtual 123, 3) := by decide +kernel
theorem dX9_ohms_8 : decode cX9_ohms 8 = .ok (.astore_n 3, 1) := by decide +kernel
theorem dX9_ohms_9 : decode cX9_ohms 9 = .ok (.aload_n 3, 1) := by decide +kernel
theorem dX9_ohms_10 : decode cX9_ohms 10 = .ok (.ifnull 12, 3) := by decide +kernel
theorem dX9_ohms_13 : decode cX9_ohms 13 = .ok (.iload_n 2, 1) := by decide +kernel
theorem dX9_ohms_14 : decode cX9_ohms 14 = .ok (.iconst 0, 1) := by decide +kernel
theorem dX9_ohms_15 : decode cX9_ohms 15 = .ok (.iconst 1, 1) := by decide +kernel
theorem dX9_ohms_16 : decode cX9_ohms 16 = .ok (.invokestatic 41, 3) := by decide +kernel
theorem dX9_ohms_19 : decode cX9_ohms 19 = .ok (.ifCond .ne 5, 3) := by decide +kernel
theorem dX9_ohms_22 : decode cX9_ohms 22 = .ok (.iconst (-1), 1) := by decide +kernel
theorem dX9_ohms_23 : decode cX9_ohms 23 = .ok (.ireturn, 1) := by decide +kernel
theorem dX9_ohms_24 : decode cX9_ohms 24 = .ok (.aload_n 0, 1) := by decide +kernel
theorem dX9_ohms_25 : decode cX9_ohms 25 = .ok (.dup, 1) := by decide +kernel
theorem dX9_ohms_26 : decode cX9_ohms 26 = .ok (.getfield 37, 3) := by decide +kernel
theorem dX9_ohms_29 : decode cX9_ohms 29 = .ok (.aload_n 3, 1) := by decide +kernel
theorem dX9_ohms_30 : decode cX9_ohms 30 = .ok (.aload_n 0, 1) := by decide +kernel
theorem dX9_ohms_31 : decode cX9_ohms 31 = .ok (.getfield 33, 3) := by decide +kernel
theorem dX9_ohms_34 : decode cX9_ohms 34 = .ok (.invokevirtual 126, 3) := by decide +kernel
theorem dX9_ohms_37 : decode cX9_ohms 37 = .ok (.i2l, 1) := by decide +kernel
theorem dX9_ohms_38 : decode cX9_ohms 38 = .ok (.ladd, 1) := by decide +kernel
theorem dX9_ohms_39 : decode cX9_ohms 39 = .ok (.putfield 37, 3) := by decide +kernel
theorem dX9_ohms_42 : decode cX9_ohms 42 = .ok (.aload_n 0, 1) := by decide +kernel
theorem dX9_ohms_43 : decode cX9_ohms 43 = .ok (.getfield 33, 3) := by decide +kernel
theorem dX9_ohms_46 : decode cX9_ohms 46 = .ok (.invokevirtual 130, 3) := by decide +kernel
theorem dX9_ohms_49 : decode cX9_ohms 49 = .ok (.aload_n 0, 1) := by decide +kernel
theorem dX9_ohms_50 : decode cX9_ohms 50 = .ok (.getfield 33, 3) := by decide +kernel
theorem dX9_ohms_53 : decode cX9_ohms 53 = .ok (.iload_n 2, 1) := by decide +kernel
theorem dX9_ohms_54 : decode cX9_ohms 54 = .ok (.invokevirtual 133, 3) := by decide +kernel
theorem dX9_ohms_57 : decode cX9_ohms 57 = .ok (.l2i, 1) := by decide +kernel
theorem dX9_ohms_58 : decode cX9_ohms 58 = .ok (.ireturn, 1) := by decide +kernel
set_option maxRecDepth 20000 in
theorem ggX9_about_X3_at : GoodIn wsX9_about wsX3_at := goodIn_r _ [9, 10, 11, 29, 30, 31, 32, 33, 34, 35, 36] (by decide +kernel) (by decide +kernel)
set_option maxRecDepth 20000 in
theorem gX9_about_X3_at : GoodIn wsX9_about (wsV RX9 123 RX3 yX3_at wsX3_at) := goodIn_app (goodIn_of _ (by decide +kernel)) ggX9_about_X3_at
theorem dX9_about_0 : decode cX9_about 0 = .ok (.aload_n 0, 1) := by decide +kernel
theorem dX9_about_1 : decode cX9_about 1 = .ok (.getfield 19, 3) := by decide +kernel
theorem dX9_about_4 : decode cX9_about 4 = .ok (.iload_n 1, 1) := by decide +kernel
theorem dX9_about_5 : decode cX9_about 5 = .ok (.invokevirtual 123, 3) := by decide +kernel
theorem dX9_about_8 : decode cX9_about 8 = .ok (.astore_n 3, 1) := by decide +kernel
theorem dX9_about_9 : decode cX9_about 9 = .ok (.aload_n 3, 1) := by decide +kernel
theorem dX9_about_10 : decode cX9_about 10 = .ok (.ifnonnull 5, 3) := by decide +kernel
theorem dX9_about_13 : decode cX9_about 13 = .ok (.iconst (-1), 1) := by decide +kernel
theorem dX9_about_14 : decode cX9_about 14 = .ok (.ireturn, 1) := by decide +kernel
theorem dX9_about_15 : decode cX9_about 15 = .ok (.iload_n 2, 1) := by decide +kernel
theorem dX9_about_16 : decode cX9_about 16 = .ok (.tableswitch 43 0 2 #[28, 33, 38], 28) := by decide +kernel
theorem dX9_about_44 : decode cX9_about 44 = .ok (.aload_n 3, 1) := by decide +kernel
theorem dX9_about_45 : decode cX9_about 45 = .ok (.getfield 137, 3) := by decide +kernel
theorem dX9_about_48 : decode cX9_about 48 = .ok (.ireturn, 1) := by decide +kernel
theorem dX9_about_49 : decode cX9_about 49 = .ok (.aload_n 3, 1) := by decide +kernel
theorem dX9_about_50 : decode cX9_about 50 = .ok (.getfield 140, 3) := by decide +kernel
theorem dX9_about_53 : decode cX9_about 53 = .ok (.ireturn, 1) := by decide +kernel
theorem dX9_about_54 : decode cX9_about 54 = .ok (.aload_n 3, 1) := by decide +kernel
theorem dX9_about_55 : decode cX9_about 55 = .ok (.getfield 143, 3) := by decide +kernel
theorem dX9_about_58 : decode cX9_about 58 = .ok (.ireturn, 1) := by decide +kernel
theorem dX9_about_59 : decode cX9_about 59 = .ok (.iconst (-1), 1) := by decide +kernel
theorem dX9_about_60 : decode cX9_about 60 = .ok (.ireturn, 1) := by decide +kernel
set_option maxRecDepth 20000 in
theorem ggX9_between_X9_isKnot : GoodIn wsX9_between wsX9_isKnot := goodIn_r _ [8, 9, 10, 7, 11] (by decide +kernel) (by decide +kernel)
set_option maxRecDepth 20000 in
theorem gX9_between_X9_isKnot : GoodIn wsX9_between (va_wsS RX9 146 yX9_isKnot wsX9_isKnot) := goodIn_app (goodIn_of _ (by decide +kernel)) ggX9_between_X9_isKnot
set_option maxRecDepth 20000 in
theorem ggX9_between_X9_isWithin : GoodIn wsX9_between wsX9_isWithin := goodIn_r _ [11] (by decide +kernel) (by decide +kernel)
set_option maxRecDepth 20000 in
theorem gX9_between_X9_isWithin : GoodIn wsX9_between (va_wsS RX9 41 yX9_isWithin wsX9_isWithin) := goodIn_app (goodIn_of _ (by decide +kernel)) ggX9_between_X9_isWithin
set_option maxRecDepth 20000 in
theorem ggX9_between_X3_hangTogether : GoodIn wsX9_between wsX3_hangTogether := goodIn_r _ [16, 17, 18, 19, 15, 20, 21, 22, 23, 24, 25, 26, 27, 28, 29, 30, 31, 32, 33, 34, 35, 100, 101, 102, 103, 104, 105, 106, 107, 108, 109, 110, 111, 112, 113, 114, 115, 116, 117, 118, 119] (by decide +kernel) (by decide +kernel)
set_option maxRecDepth 20000 in
theorem gX9_between_X3_hangTogether : GoodIn wsX9_between (wsV RX9 152 RX3 yX3_hangTogether wsX3_hangTogether) := goodIn_app (goodIn_of _ (by decide +kernel)) ggX9_between_X3_hangTogether
set_option maxRecDepth 20000 in
theorem ggX9_between_X3_solveBetween : GoodIn wsX9_between wsX3_solveBetween := goodIn_r _ [39, 40, 41, 42, 43, 44, 45, 46, 47, 48, 49, 50, 15, 51, 52, 53, 54, 17, 18, 19, 20, 21, 22, 23, 24, 25, 26, 27, 28, 29, 30, 31, 32, 33, 34, 35, 55, 56, 57, 58, 59, 60, 61, 62, 63, 64, 65, 66, 67, 68, 69, 70, 71, 72, 73, 74, 75, 76, 77, 78, 79, 80, 81, 82, 83, 84, 85, 86, 87, 88, 89, 90, 120, 121, 100, 101, 102, 103, 104, 105, 106, 107, 108, 109, 110, 111, 112, 113, 114, 115, 116, 117, 118, 119] (by decide +kernel) (by decide +kernel)
set_option maxRecDepth 20000 in
theorem gX9_between_X3_solveBetween : GoodIn wsX9_between (wsV RX9 157 RX3 yX3_solveBetween wsX3_solveBetween) := goodIn_app (goodIn_of _ (by decide +kernel)) ggX9_between_X3_solveBetween
set_option maxRecDepth 20000 in
theorem ggX9_between_X0_part : GoodIn wsX9_between wsX0_part := goodIn_r _ [94, 46, 47, 120, 121] (by decide +kernel) (by decide +kernel)
set_option maxRecDepth 20000 in
theorem gX9_between_X0_part : GoodIn wsX9_between (wsV RX9 133 RX0 yX0_part wsX0_part) := goodIn_app (goodIn_of _ (by decide +kernel)) ggX9_between_X0_part
theorem dX9_between_0 : decode cX9_between 0 = .ok (.iload_n 1, 1) := by decide +kernel
theorem dX9_between_1 : decode cX9_between 1 = .ok (.invokestatic 146, 3) := by decide +kernel
theorem dX9_between_4 : decode cX9_between 4 = .ok (.ifCond .eq 19, 3) := by decide +kernel
theorem dX9_between_7 : decode cX9_between 7 = .ok (.iload_n 2, 1) := by decide +kernel
theorem dX9_between_8 : decode cX9_between 8 = .ok (.invokestatic 146, 3) := by decide +kernel
theorem dX9_between_11 : decode cX9_between 11 = .ok (.ifCond .eq 12, 3) := by decide +kernel
theorem dX9_between_14 : decode cX9_between 14 = .ok (.iload_n 3, 1) := by decide +kernel
theorem dX9_between_15 : decode cX9_between 15 = .ok (.iconst 0, 1) := by decide +kernel
theorem dX9_between_16 : decode cX9_between 16 = .ok (.iconst 1, 1) := by decide +kernel
theorem dX9_between_17 : decode cX9_between 17 = .ok (.invokestatic 41, 3) := by decide +kernel
theorem dX9_between_20 : decode cX9_between 20 = .ok (.ifCond .ne 7, 3) := by decide +kernel
theorem dX9_between_23 : decode cX9_between 23 = .ok (.ldc2_w 150, 3) := by decide +kernel
theorem dX9_between_26 : decode cX9_between 26 = .ok (.lreturn, 1) := by decide +kernel
theorem dX9_between_27 : decode cX9_between 27 = .ok (.aload_n 0, 1) := by decide +kernel
theorem dX9_between_28 : decode cX9_between 28 = .ok (.getfield 19, 3) := by decide +kernel
theorem dX9_between_31 : decode cX9_between 31 = .ok (.iload_n 1, 1) := by decide +kernel
theorem dX9_between_32 : decode cX9_between 32 = .ok (.iload_n 2, 1) := by decide +kernel
theorem dX9_between_33 : decode cX9_between 33 = .ok (.invokevirtual 152, 3) := by decide +kernel
theorem dX9_between_36 : decode cX9_between 36 = .ok (.ifCond .ne 7, 3) := by decide +kernel
theorem dX9_between_39 : decode cX9_between 39 = .ok (.ldc2_w 155, 3) := by decide +kernel
theorem dX9_between_42 : decode cX9_between 42 = .ok (.lreturn, 1) := by decide +kernel
theorem dX9_between_43 : decode cX9_between 43 = .ok (.aload_n 0, 1) := by decide +kernel
theorem dX9_between_44 : decode cX9_between 44 = .ok (.getfield 19, 3) := by decide +kernel
theorem dX9_between_47 : decode cX9_between 47 = .ok (.iload_n 1, 1) := by decide +kernel
theorem dX9_between_48 : decode cX9_between 48 = .ok (.iload_n 2, 1) := by decide +kernel
theorem dX9_between_49 : decode cX9_between 49 = .ok (.aload_n 0, 1) := by decide +kernel
theorem dX9_between_50 : decode cX9_between 50 = .ok (.getfield 33, 3) := by decide +kernel
theorem dX9_between_53 : decode cX9_between 53 = .ok (.invokevirtual 157, 3) := by decide +kernel
theorem dX9_between_56 : decode cX9_between 56 = .ok (.aload_n 0, 1) := by decide +kernel
theorem dX9_between_57 : decode cX9_between 57 = .ok (.getfield 33, 3) := by decide +kernel
theorem dX9_between_60 : decode cX9_between 60 = .ok (.iload_n 3, 1) := by decide +kernel
theorem dX9_between_61 : decode cX9_between 61 = .ok (.invokevirtual 133, 3) := by decide +kernel
theorem dX9_between_64 : decode cX9_between 64 = .ok (.lreturn, 1) := by decide +kernel
set_option maxRecDepth 20000 in
theorem ggX9_through_X3_at : GoodIn wsX9_through wsX3_at := goodIn_r _ [8, 9, 10, 105, 106, 107, 108, 109, 110, 111, 112] (by decide +kernel) (by decide +kernel)
set_option maxRecDepth 20000 in
theorem gX9_through_X3_at : GoodIn wsX9_through (wsV RX9 123 RX3 yX3_at wsX3_at) := goodIn_app (goodIn_of _ (by decide +kernel)) ggX9_through_X3_at
set_option maxRecDepth 20000 in
theorem ggX9_through_X9_areTwoKnots : GoodIn wsX9_through wsX9_areTwoKnots := goodIn_r _ [14, 15, 16, 13, 17, 18, 19, 20] (by decide +kernel) (by decide +kernel)
set_option maxRecDepth 20000 in
theorem gX9_through_X9_areTwoKnots : GoodIn wsX9_through (va_wsS RX9 92 yX9_areTwoKnots wsX9_areTwoKnots) := goodIn_app (goodIn_of _ (by decide +kernel)) ggX9_through_X9_areTwoKnots
set_option maxRecDepth 20000 in
theorem ggX9_through_X9_isWithin : GoodIn wsX9_through wsX9_isWithin := goodIn_r _ [20] (by decide +kernel) (by decide +kernel)
set_option maxRecDepth 20000 in
theorem gX9_through_X9_isWithin : GoodIn wsX9_through (va_wsS RX9 41 yX9_isWithin wsX9_isWithin) := goodIn_app (goodIn_of _ (by decide +kernel)) ggX9_through_X9_isWithin
set_option maxRecDepth 20000 in
theorem ggX9_through_X3_hangTogether : GoodIn wsX9_through wsX3_hangTogether := goodIn_r _ [24, 25, 26, 27, 7, 28, 9, 10, 29, 30, 31, 32, 33, 34, 35, 36, 37, 38, 39, 40, 41, 105, 106, 107, 108, 109, 110, 111, 112, 113, 114, 115, 116, 117, 118, 119, 120, 121, 122, 123, 124] (by decide +kernel) (by decide +kernel)
set_option maxRecDepth 20000 in
theorem gX9_through_X3_hangTogether : GoodIn wsX9_through (wsV RX9 152 RX3 yX3_hangTogether wsX3_hangTogether) := goodIn_app (goodIn_of _ (by decide +kernel)) ggX9_through_X3_hangTogether
set_option maxRecDepth 20000 in
theorem ggX9_through_X3_solveThrough : GoodIn wsX9_through wsX3_solveThrough := goodIn_r _ [45, 10, 29, 30, 46, 47, 48, 49, 7, 50, 51, 52, 53, 25, 26, 27, 28, 9, 31, 32, 33, 34, 35, 36, 37, 38, 39, 40, 41, 54, 55, 56, 57, 58, 59, 60, 61, 62, 63, 64, 65, 66, 67, 68, 69, 70, 71, 72, 73, 74, 75, 76, 77, 78, 79, 80, 81, 82, 83, 84, 85, 86, 87, 88, 89, 90, 91, 92, 93, 94, 95, 105, 106, 107, 108, 109, 110, 111, 112, 113, 114, 115, 116, 117, 118, 119, 120, 121, 122, 123, 124, 125, 126] (by decide +kernel) (by decide +kernel)
set_option maxRecDepth 20000 in
theorem gX9_through_X3_solveThrough : GoodIn wsX9_through (wsV RX9 165 RX3 yX3_solveThrough wsX3_solveThrough) := goodIn_app (goodIn_of _ (by decide +kernel)) ggX9_through_X3_solveThrough
set_option maxRecDepth 20000 in
theorem ggX9_through_X0_part : GoodIn wsX9_through wsX0_part := goodIn_r _ [99, 83, 84, 125, 126] (by decide +kernel) (by decide +kernel)
set_option maxRecDepth 20000 in
theorem gX9_through_X0_part : GoodIn wsX9_through (wsV RX9 133 RX0 yX0_part wsX0_part) := goodIn_app (goodIn_of _ (by decide +kernel)) ggX9_through_X0_part
theorem dX9_through_0 : decode cX9_through 0 = .ok (.aload_n 0, 1) := by decide +kernel
theorem dX9_through_1 : decode cX9_through 1 = .ok (.getfield 19, 3) := by decide +kernel
theorem dX9_through_4 : decode cX9_through 4 = .ok (.iload_n 1, 1) := by decide +kernel
theorem dX9_through_5 : decode cX9_through 5 = .ok (.invokevirtual 123, 3) := by decide +kernel
theorem dX9_through_8 : decode cX9_through 8 = .ok (.ifnull 21, 3) := by decide +kernel
theorem dX9_through_11 : decode cX9_through 11 = .ok (.iload_n 2, 1) := by decide +kernel
theorem dX9_through_12 : decode cX9_through 12 = .ok (.iload_n 3, 1) := by decide +kernel
theorem dX9_through_13 : decode cX9_through 13 = .ok (.invokestatic 92, 3) := by decide +kernel
theorem dX9_through_16 : decode cX9_through 16 = .ok (.ifCond .eq 13, 3) := by decide +kernel
theorem dX9_through_19 : decode cX9_through 19 = .ok (.iload 4, 2) := by decide +kernel
theorem dX9_through_21 : decode cX9_through 21 = .ok (.iconst 0, 1) := by decide +kernel
theorem dX9_through_22 : decode cX9_through 22 = .ok (.iconst 1, 1) := by decide +kernel
theorem dX9_through_23 : decode cX9_through 23 = .ok (.invokestatic 41, 3) := by decide +kernel
theorem dX9_through_26 : decode cX9_through 26 = .ok (.ifCond .ne 7, 3) := by decide +kernel
theorem dX9_through_29 : decode cX9_through 29 = .ok (.ldc2_w 163, 3) := by decide +kernel
theorem dX9_through_32 : decode cX9_through 32 = .ok (.lreturn, 1) := by decide +kernel
theorem dX9_through_33 : decode cX9_through 33 = .ok (.aload_n 0, 1) := by decide +kernel
theorem dX9_through_34 : decode cX9_through 34 = .ok (.getfield 19, 3) := by decide +kernel
theorem dX9_through_37 : decode cX9_through 37 = .ok (.iload_n 2, 1) := by decide +kernel
theorem dX9_through_38 : decode cX9_through 38 = .ok (.iload_n 3, 1) := by decide +kernel
theorem dX9_through_39 : decode cX9_through 39 = .ok (.invokevirtual 152, 3) := by decide +kernel
theorem dX9_through_42 : decode cX9_through 42 = .ok (.ifCond .ne 7, 3) := by decide +kernel
theorem dX9_through_45 : decode cX9_through 45 = .ok (.ldc2_w 163, 3) := by decide +kernel
theorem dX9_through_48 : decode cX9_through 48 = .ok (.lreturn, 1) := by decide +kernel
theorem dX9_through_49 : decode cX9_through 49 = .ok (.aload_n 0, 1) := by decide +kernel
theorem dX9_through_50 : decode cX9_through 50 = .ok (.getfield 19, 3) := by decide +kernel
theorem dX9_through_53 : decode cX9_through 53 = .ok (.iload_n 1, 1) := by decide +kernel
theorem dX9_through_54 : decode cX9_through 54 = .ok (.iload_n 2, 1) := by decide +kernel
theorem dX9_through_55 : decode cX9_through 55 = .ok (.iload_n 3, 1) := by decide +kernel
theorem dX9_through_56 : decode cX9_through 56 = .ok (.aload_n 0, 1) := by decide +kernel
theorem dX9_through_57 : decode cX9_through 57 = .ok (.getfield 33, 3) := by decide +kernel
theorem dX9_through_60 : decode cX9_through 60 = .ok (.invokevirtual 165, 3) := by decide +kernel
theorem dX9_through_63 : decode cX9_through 63 = .ok (.aload_n 0, 1) := by decide +kernel
theorem dX9_through_64 : decode cX9_through 64 = .ok (.getfield 33, 3) := by decide +kernel
theorem dX9_through_67 : decode cX9_through 67 = .ok (.iload 4, 2) := by decide +kernel
theorem dX9_through_69 : decode cX9_through 69 = .ok (.invokevirtual 133, 3) := by decide +kernel
theorem dX9_through_72 : decode cX9_through 72 = .ok (.lreturn, 1) := by decide +kernel
set_option maxRecDepth 20000 in
theorem ggX9_trees_X3_countTrees : GoodIn wsX9_trees wsX3_countTrees := goodIn_r _ [6, 7, 8, 9, 5, 10, 11, 12, 13, 14, 15, 16, 17, 18, 19, 20, 21, 22, 23, 24, 25, 26, 27, 28, 29, 30, 31, 32, 33, 34, 35, 36, 37, 38, 39, 40, 41, 42, 43, 49, 50, 51, 52, 53, 54, 55, 56, 57, 58, 59, 60, 61, 62, 63, 64, 65, 66, 67, 68] (by decide +kernel) (by decide +kernel)
set_option maxRecDepth 20000 in
theorem gX9_trees_X3_countTrees : GoodIn wsX9_trees (wsV RX9 169 RX3 yX3_countTrees wsX3_countTrees) := goodIn_app (goodIn_of _ (by decide +kernel)) ggX9_trees_X3_countTrees
theorem dX9_trees_0 : decode cX9_trees 0 = .ok (.aload_n 0, 1) := by decide +kernel
theorem dX9_trees_1 : decode cX9_trees 1 = .ok (.getfield 19, 3) := by decide +kernel
theorem dX9_trees_4 : decode cX9_trees 4 = .ok (.invokevirtual 169, 3) := by decide +kernel
theorem dX9_trees_7 : decode cX9_trees 7 = .ok (.ireturn, 1) := by decide +kernel
set_option maxRecDepth 20000 in
theorem ggX9_falls_X9_areTwoKnots : GoodIn wsX9_falls wsX9_areTwoKnots := goodIn_r _ [5, 6, 7, 4, 8, 9, 10, 11] (by decide +kernel) (by decide +kernel)
set_option maxRecDepth 20000 in
theorem gX9_falls_X9_areTwoKnots : GoodIn wsX9_falls (va_wsS RX9 92 yX9_areTwoKnots wsX9_areTwoKnots) := goodIn_app (goodIn_of _ (by decide +kernel)) ggX9_falls_X9_areTwoKnots
set_option maxRecDepth 20000 in
theorem ggX9_falls_X3_hangTogether : GoodIn wsX9_falls wsX3_hangTogether := goodIn_r _ [16, 17, 18, 19, 15, 20, 21, 22, 23, 24, 25, 26, 27, 28, 29, 30, 31, 32, 33, 34, 35, 69, 70, 71, 72, 73, 74, 75, 76, 77, 78, 79, 80, 81, 82, 83, 84, 85, 86, 87, 88] (by decide +kernel) (by decide +kernel)
set_option maxRecDepth 20000 in
theorem gX9_falls_X3_hangTogether : GoodIn wsX9_falls (wsV RX9 152 RX3 yX3_hangTogether wsX3_hangTogether) := goodIn_app (goodIn_of _ (by decide +kernel)) ggX9_falls_X3_hangTogether
set_option maxRecDepth 20000 in
theorem ggX9_falls_X3_fallsTogether : GoodIn wsX9_falls wsX3_fallsTogether := goodIn_r _ [39, 40, 17, 18, 19, 15, 20, 21, 22, 23, 24, 25, 26, 27, 28, 29, 30, 31, 32, 33, 34, 35, 41, 42, 43, 44, 45, 46, 47, 48, 49, 50, 51, 52, 53, 54, 55, 56, 57, 58, 59, 60, 61, 62, 63, 69, 70, 71, 72, 73, 74, 75, 76, 77, 78, 79, 80, 81, 82, 83, 84, 85, 86, 87, 88] (by decide +kernel) (by decide +kernel)
set_option maxRecDepth 20000 in
theorem gX9_falls_X3_fallsTogether : GoodIn wsX9_falls (wsV RX9 172 RX3 yX3_fallsTogether wsX3_fallsTogether) := goodIn_app (goodIn_of _ (by decide +kernel)) ggX9_falls_X3_fallsTogether
theorem dX9_falls_0 : decode cX9_falls 0 = .ok (.iload_n 1, 1) := by decide +kernel
theorem dX9_falls_1 : decode cX9_falls 1 = .ok (.iload_n 2, 1) := by decide +kernel
theorem dX9_falls_2 : decode cX9_falls 2 = .ok (.invokestatic 92, 3) := by decide +kernel
theorem dX9_falls_5 : decode cX9_falls 5 = .ok (.ifCond .ne 5, 3) := by decide +kernel
theorem dX9_falls_8 : decode cX9_falls 8 = .ok (.iconst (-1), 1) := by decide +kernel
theorem dX9_falls_9 : decode cX9_falls 9 = .ok (.ireturn, 1) := by decide +kernel
theorem dX9_falls_10 : decode cX9_falls 10 = .ok (.aload_n 0, 1) := by decide +kernel
theorem dX9_falls_11 : decode cX9_falls 11 = .ok (.getfield 19, 3) := by decide +kernel
theorem dX9_falls_14 : decode cX9_falls 14 = .ok (.iload_n 1, 1) := by decide +kernel
theorem dX9_falls_15 : decode cX9_falls 15 = .ok (.iload_n 2, 1) := by decide +kernel
theorem dX9_falls_16 : decode cX9_falls 16 = .ok (.invokevirtual 152, 3) := by decide +kernel
theorem dX9_falls_19 : decode cX9_falls 19 = .ok (.ifCond .ne 6, 3) := by decide +kernel
theorem dX9_falls_22 : decode cX9_falls 22 = .ok (.bipush (-2), 2) := by decide +kernel
theorem dX9_falls_24 : decode cX9_falls 24 = .ok (.ireturn, 1) := by decide +kernel
theorem dX9_falls_25 : decode cX9_falls 25 = .ok (.aload_n 0, 1) := by decide +kernel
theorem dX9_falls_26 : decode cX9_falls 26 = .ok (.getfield 19, 3) := by decide +kernel
theorem dX9_falls_29 : decode cX9_falls 29 = .ok (.iload_n 1, 1) := by decide +kernel
theorem dX9_falls_30 : decode cX9_falls 30 = .ok (.iload_n 2, 1) := by decide +kernel
theorem dX9_falls_31 : decode cX9_falls 31 = .ok (.invokevirtual 172, 3) := by decide +kernel
theorem dX9_falls_34 : decode cX9_falls 34 = .ok (.ifCond .eq 7, 3) := by decide +kernel
theorem dX9_falls_37 : decode cX9_falls 37 = .ok (.iconst 1, 1) := by decide +kernel
theorem dX9_falls_38 : decode cX9_falls 38 = .ok (.goto 4, 3) := by decide +kernel
theorem dX9_falls_41 : decode cX9_falls 41 = .ok (.iconst 0, 1) := by decide +kernel
theorem dX9_falls_42 : decode cX9_falls 42 = .ok (.ireturn, 1) := by decide +kernel
set_option maxRecDepth 20000 in
theorem ggX9_sort_X9_isWithin : GoodIn wsX9_sort wsX9_isWithin := goodIn_r _ [5] (by decide +kernel) (by decide +kernel)
set_option maxRecDepth 20000 in
theorem gX9_sort_X9_isWithin : GoodIn wsX9_sort (va_wsS RX9 41 yX9_isWithin wsX9_isWithin) := goodIn_app (goodIn_of _ (by decide +kernel)) ggX9_sort_X9_isWithin
set_option maxRecDepth 20000 in
theorem ggX9_sort_X7_size : GoodIn wsX9_sort wsX7_size := goodIn_r _ [10, 11, 23, 24, 25, 26, 27] (by decide +kernel) (by decide +kernel)
set_option maxRecDepth 20000 in
theorem gX9_sort_X7_size : GoodIn wsX9_sort (wsV RX9 175 RX7 yX7_size wsX7_size) := goodIn_app (goodIn_of _ (by decide +kernel)) ggX9_sort_X7_size
set_option maxRecDepth 20000 in
theorem ggX9_sort_X7_add : GoodIn wsX9_sort wsX7_add := goodIn_r _ [15, 16, 11, 17, 23, 24, 25, 26, 27] (by decide +kernel) (by decide +kernel)
set_option maxRecDepth 20000 in
theorem gX9_sort_X7_add : GoodIn wsX9_sort (wsV RX9 176 RX7 yX7_add wsX7_add) := goodIn_app (goodIn_of _ (by decide +kernel)) ggX9_sort_X7_add
theorem dX9_sort_0 : decode cX9_sort 0 = .ok (.iload_n 1, 1) := by decide +kernel
theorem dX9_sort_1 : decode cX9_sort 1 = .ok (.iconst 1, 1) := by decide +kernel
theorem dX9_sort_2 : decode cX9_sort 2 = .ok (.bipush 100, 2) := by decide +kernel
theorem dX9_sort_4 : decode cX9_sort 4 = .ok (.invokestatic 41, 3) := by decide +kernel
theorem dX9_sort_7 : decode cX9_sort 7 = .ok (.ifCond .eq 13, 3) := by decide +kernel
theorem dX9_sort_10 : decode cX9_sort 10 = .ok (.iload_n 2, 1) := by decide +kernel
theorem dX9_sort_11 : decode cX9_sort 11 = .ok (.iconst 1, 1) := by decide +kernel
theorem dX9_sort_12 : decode cX9_sort 12 = .ok (.bipush 50, 2) := by decide +kernel
theorem dX9_sort_14 : decode cX9_sort 14 = .ok (.invokestatic 41, 3) := by decide +kernel
theorem dX9_sort_17 : decode cX9_sort 17 = .ok (.ifCond .ne 5, 3) := by decide +kernel
theorem dX9_sort_20 : decode cX9_sort 20 = .ok (.iconst (-1), 1) := by decide +kernel
theorem dX9_sort_21 : decode cX9_sort 21 = .ok (.ireturn, 1) := by decide +kernel
theorem dX9_sort_22 : decode cX9_sort 22 = .ok (.aload_n 0, 1) := by decide +kernel
theorem dX9_sort_23 : decode cX9_sort 23 = .ok (.getfield 26, 3) := by decide +kernel
theorem dX9_sort_26 : decode cX9_sort 26 = .ok (.invokevirtual 175, 3) := by decide +kernel
theorem dX9_sort_29 : decode cX9_sort 29 = .ok (.bipush 6, 2) := by decide +kernel
theorem dX9_sort_31 : decode cX9_sort 31 = .ok (.if_icmp .lt 6, 3) := by decide +kernel
theorem dX9_sort_34 : decode cX9_sort 34 = .ok (.bipush (-3), 2) := by decide +kernel
theorem dX9_sort_36 : decode cX9_sort 36 = .ok (.ireturn, 1) := by decide +kernel
theorem dX9_sort_37 : decode cX9_sort 37 = .ok (.aload_n 0, 1) := by decide +kernel
theorem dX9_sort_38 : decode cX9_sort 38 = .ok (.getfield 26, 3) := by decide +kernel
theorem dX9_sort_41 : decode cX9_sort 41 = .ok (.iload_n 1, 1) := by decide +kernel
theorem dX9_sort_42 : decode cX9_sort 42 = .ok (.iload_n 2, 1) := by decide +kernel
theorem dX9_sort_43 : decode cX9_sort 43 = .ok (.invokevirtual 176, 3) := by decide +kernel
theorem dX9_sort_46 : decode cX9_sort 46 = .ok (.ireturn, 1) := by decide +kernel
set_option maxRecDepth 20000 in
theorem ggX9_nearest_X9_isTold : GoodIn wsX9_nearest wsX9_isTold := goodIn_r _ [5, 6, 7, 4, 8] (by decide +kernel) (by decide +kernel)
set_option maxRecDepth 20000 in
theorem gX9_nearest_X9_isTold : GoodIn wsX9_nearest (va_wsS RX9 69 yX9_isTold wsX9_isTold) := goodIn_app (goodIn_of _ (by decide +kernel)) ggX9_nearest_X9_isTold
set_option maxRecDepth 20000 in
theorem ggX9_nearest_X7_size : GoodIn wsX9_nearest wsX7_size := goodIn_r _ [13, 14, 69, 70, 71, 72, 73] (by decide +kernel) (by decide +kernel)
set_option maxRecDepth 20000 in
theorem gX9_nearest_X7_size : GoodIn wsX9_nearest (wsV RX9 175 RX7 yX7_size wsX7_size) := goodIn_app (goodIn_of _ (by decide +kernel)) ggX9_nearest_X7_size
set_option maxRecDepth 20000 in
theorem ggX9_nearest_X7_nearestTo : GoodIn wsX9_nearest wsX7_nearestTo := goodIn_r _ [18, 19, 20, 21, 22, 23, 24, 25, 12, 26, 14, 27, 28, 29, 30, 31, 32, 33, 34, 35, 36, 37, 38, 39, 40, 41, 42, 43, 44, 45, 46, 47, 48, 49, 50, 51, 52, 53, 54, 55, 56, 57, 58, 59, 60, 61, 62, 63, 69, 70, 71, 72, 73, 74, 75] (by decide +kernel) (by decide +kernel)
set_option maxRecDepth 20000 in
theorem gX9_nearest_X7_nearestTo : GoodIn wsX9_nearest (wsV RX9 178 RX7 yX7_nearestTo wsX7_nearestTo) := goodIn_app (goodIn_of _ (by decide +kernel)) ggX9_nearest_X7_nearestTo
theorem dX9_nearest_0 : decode cX9_nearest 0 = .ok (.iload_n 1, 1) := by decide +kernel
theorem dX9_nearest_1 : decode cX9_nearest 1 = .ok (.iload_n 2, 1) := by decide +kernel
theorem dX9_nearest_2 : decode cX9_nearest 2 = .ok (.sipush 1000, 3) := by decide +kernel
theorem dX9_nearest_5 : decode cX9_nearest 5 = .ok (.invokestatic 69, 3) := by decide +kernel
theorem dX9_nearest_8 : decode cX9_nearest 8 = .ok (.ifCond .ne 5, 3) := by decide +kernel
theorem dX9_nearest_11 : decode cX9_nearest 11 = .ok (.iconst (-1), 1) := by decide +kernel
theorem dX9_nearest_12 : decode cX9_nearest 12 = .ok (.ireturn, 1) := by decide +kernel
theorem dX9_nearest_13 : decode cX9_nearest 13 = .ok (.aload_n 0, 1) := by decide +kernel
theorem dX9_nearest_14 : decode cX9_nearest 14 = .ok (.getfield 26, 3) := by decide +kernel
theorem dX9_nearest_17 : decode cX9_nearest 17 = .ok (.invokevirtual 175, 3) := by decide +kernel
theorem dX9_nearest_20 : decode cX9_nearest 20 = .ok (.ifCond .ne 6, 3) := by decide +kernel
theorem dX9_nearest_23 : decode cX9_nearest 23 = .ok (.bipush (-2), 2) := by decide +kernel
theorem dX9_nearest_25 : decode cX9_nearest 25 = .ok (.ireturn, 1) := by decide +kernel
theorem dX9_nearest_26 : decode cX9_nearest 26 = .ok (.aload_n 0, 1) := by decide +kernel
theorem dX9_nearest_27 : decode cX9_nearest 27 = .ok (.getfield 26, 3) := by decide +kernel
theorem dX9_nearest_30 : decode cX9_nearest 30 = .ok (.iload_n 1, 1) := by decide +kernel
theorem dX9_nearest_31 : decode cX9_nearest 31 = .ok (.iload_n 2, 1) := by decide +kernel
theorem dX9_nearest_32 : decode cX9_nearest 32 = .ok (.invokevirtual 178, 3) := by decide +kernel
theorem dX9_nearest_35 : decode cX9_nearest 35 = .ok (.ireturn, 1) := by decide +kernel
set_option maxRecDepth 20000 in
theorem ggX9_choice_X7_has : GoodIn wsX9_choice wsX7_has := goodIn_r _ [7, 8, 9, 10, 6, 11, 12, 13, 14, 15, 16, 17, 59, 60, 61, 62, 63] (by decide +kernel) (by decide +kernel)
set_option maxRecDepth 20000 in
theorem gX9_choice_X7_has : GoodIn wsX9_choice (wsV RX9 181 RX7 yX7_has wsX7_has) := goodIn_app (goodIn_of _ (by decide +kernel)) ggX9_choice_X7_has
set_option maxRecDepth 20000 in
theorem ggX9_choice_X9_isWithin : GoodIn wsX9_choice wsX9_isWithin := goodIn_r _ [21] (by decide +kernel) (by decide +kernel)
set_option maxRecDepth 20000 in
theorem gX9_choice_X9_isWithin : GoodIn wsX9_choice (va_wsS RX9 41 yX9_isWithin wsX9_isWithin) := goodIn_app (goodIn_of _ (by decide +kernel)) ggX9_choice_X9_isWithin
set_option maxRecDepth 20000 in
theorem ggX9_choice_X7_priceOf : GoodIn wsX9_choice wsX7_priceOf := goodIn_r _ [25, 26, 12, 13, 6, 14, 9, 10, 11, 15, 16, 17, 59, 60, 61, 62, 63] (by decide +kernel) (by decide +kernel)
set_option maxRecDepth 20000 in
theorem gX9_choice_X7_priceOf : GoodIn wsX9_choice (wsV RX9 184 RX7 yX7_priceOf wsX7_priceOf) := goodIn_app (goodIn_of _ (by decide +kernel)) ggX9_choice_X7_priceOf
set_option maxRecDepth 20000 in
theorem ggX9_choice_X7_measure : GoodIn wsX9_choice wsX7_measure := goodIn_r _ [30, 31, 12, 13, 6, 14, 9, 10, 11, 32, 33, 34, 35, 36, 37, 38, 15, 16, 17, 59, 60, 61, 62, 63, 64, 65] (by decide +kernel) (by decide +kernel)
set_option maxRecDepth 20000 in
theorem gX9_choice_X7_measure : GoodIn wsX9_choice (wsV RX9 188 RX7 yX7_measure wsX7_measure) := goodIn_app (goodIn_of _ (by decide +kernel)) ggX9_choice_X7_measure
set_option maxRecDepth 20000 in
theorem ggX9_choice_X0_reduce : GoodIn wsX9_choice wsX0_reduce := goodIn_r _ [42, 37, 43, 44, 45, 46, 38, 47, 48, 35, 49, 64, 65] (by decide +kernel) (by decide +kernel)
set_option maxRecDepth 20000 in
theorem gX9_choice_X0_reduce : GoodIn wsX9_choice (wsV RX9 130 RX0 yX0_reduce wsX0_reduce) := goodIn_app (goodIn_of _ (by decide +kernel)) ggX9_choice_X0_reduce
set_option maxRecDepth 20000 in
theorem ggX9_choice_X0_part : GoodIn wsX9_choice wsX0_part := goodIn_r _ [53, 37, 38, 64, 65] (by decide +kernel) (by decide +kernel)
set_option maxRecDepth 20000 in
theorem gX9_choice_X0_part : GoodIn wsX9_choice (wsV RX9 133 RX0 yX0_part wsX0_part) := goodIn_app (goodIn_of _ (by decide +kernel)) ggX9_choice_X0_part
theorem dX9_choice_0 : decode cX9_choice 0 = .ok (.aload_n 0, 1) := by decide +kernel
theorem dX9_choice_1 : decode cX9_choice 1 = .ok (.getfield 26, 3) := by decide +kernel
theorem dX9_choice_4 : decode cX9_choice 4 = .ok (.iload_n 1, 1) := by decide +kernel
theorem dX9_choice_5 : decode cX9_choice 5 = .ok (.invokevirtual 181, 3) := by decide +kernel
theorem dX9_choice_8 : decode cX9_choice 8 = .ok (.ifCond .eq 12, 3) := by decide +kernel
theorem dX9_choice_11 : decode cX9_choice 11 = .ok (.iload_n 2, 1) := by decide +kernel
theorem dX9_choice_12 : decode cX9_choice 12 = .ok (.iconst 0, 1) := by decide +kernel
theorem dX9_choice_13 : decode cX9_choice 13 = .ok (.iconst 2, 1) := by decide +kernel
theorem dX9_choice_14 : decode cX9_choice 14 = .ok (.invokestatic 41, 3) := by decide +kernel
theorem dX9_choice_17 : decode cX9_choice 17 = .ok (.ifCond .ne 5, 3) := by decide +kernel
theorem dX9_choice_20 : decode cX9_choice 20 = .ok (.iconst (-1), 1) := by decide +kernel
theorem dX9_choice_21 : decode cX9_choice 21 = .ok (.ireturn, 1) := by decide +kernel
theorem dX9_choice_22 : decode cX9_choice 22 = .ok (.iload_n 2, 1) := by decide +kernel
theorem dX9_choice_23 : decode cX9_choice 23 = .ok (.iconst 2, 1) := by decide +kernel
theorem dX9_choice_24 : decode cX9_choice 24 = .ok (.if_icmp .ne 12, 3) := by decide +kernel
theorem dX9_choice_27 : decode cX9_choice 27 = .ok (.aload_n 0, 1) := by decide +kernel
theorem dX9_choice_28 : decode cX9_choice 28 = .ok (.getfield 26, 3) := by decide +kernel
theorem dX9_choice_31 : decode cX9_choice 31 = .ok (.iload_n 1, 1) := by decide +kernel
theorem dX9_choice_32 : decode cX9_choice 32 = .ok (.invokevirtual 184, 3) := by decide +kernel
theorem dX9_choice_35 : decode cX9_choice 35 = .ok (.ireturn, 1) := by decide +kernel
theorem dX9_choice_36 : decode cX9_choice 36 = .ok (.aload_n 0, 1) := by decide +kernel
theorem dX9_choice_37 : decode cX9_choice 37 = .ok (.getfield 26, 3) := by decide +kernel
theorem dX9_choice_40 : decode cX9_choice 40 = .ok (.iload_n 1, 1) := by decide +kernel
theorem dX9_choice_41 : decode cX9_choice 41 = .ok (.aload_n 0, 1) := by decide +kernel
theorem dX9_choice_42 : decode cX9_choice 42 = .ok (.getfield 33, 3) := by decide +kernel
theorem dX9_choice_45 : decode cX9_choice 45 = .ok (.invokevirtual 188, 3) := by decide +kernel
theorem dX9_choice_48 : decode cX9_choice 48 = .ok (.aload_n 0, 1) := by decide +kernel
theorem dX9_choice_49 : decode cX9_choice 49 = .ok (.getfield 33, 3) := by decide +kernel
theorem dX9_choice_52 : decode cX9_choice 52 = .ok (.invokevirtual 130, 3) := by decide +kernel
theorem dX9_choice_55 : decode cX9_choice 55 = .ok (.aload_n 0, 1) := by decide +kernel
theorem dX9_choice_56 : decode cX9_choice 56 = .ok (.getfield 33, 3) := by decide +kernel
theorem dX9_choice_59 : decode cX9_choice 59 = .ok (.iload_n 2, 1) := by decide +kernel
theorem dX9_choice_60 : decode cX9_choice 60 = .ok (.invokevirtual 133, 3) := by decide +kernel
theorem dX9_choice_63 : decode cX9_choice 63 = .ok (.l2i, 1) := by decide +kernel
theorem dX9_choice_64 : decode cX9_choice 64 = .ok (.ireturn, 1) := by decide +kernel
set_option maxRecDepth 20000 in
theorem ggX9_count_X3_size : GoodIn wsX9_count wsX3_size := goodIn_r _ [7, 8, 34, 35, 36, 37, 38, 39, 40, 41] (by decide +kernel) (by decide +kernel)
set_option maxRecDepth 20000 in
theorem gX9_count_X3_size : GoodIn wsX9_count (wsV RX9 96 RX3 yX3_size wsX3_size) := goodIn_app (goodIn_of _ (by decide +kernel)) ggX9_count_X3_size
set_option maxRecDepth 20000 in
theorem ggX9_count_X7_size : GoodIn wsX9_count wsX7_size := goodIn_r _ [13, 14, 42, 43, 44, 45, 46] (by decide +kernel) (by decide +kernel)
set_option maxRecDepth 20000 in
theorem gX9_count_X7_size : GoodIn wsX9_count (wsV RX9 175 RX7 yX7_size wsX7_size) := goodIn_app (goodIn_of _ (by decide +kernel)) ggX9_count_X7_size
set_option maxRecDepth 20000 in
theorem ggX9_count_X3_knotsWithWires : GoodIn wsX9_count wsX3_knotsWithWires := goodIn_r _ [18, 8, 19, 20, 21, 34, 35, 36, 37, 38, 39, 40, 41, 47, 48, 49, 50, 51, 52, 53, 54, 55, 56, 57, 58] (by decide +kernel) (by decide +kernel)
set_option maxRecDepth 20000 in
theorem gX9_count_X3_knotsWithWires : GoodIn wsX9_count (wsV RX9 191 RX3 yX3_knotsWithWires wsX3_knotsWithWires) := goodIn_app (goodIn_of _ (by decide +kernel)) ggX9_count_X3_knotsWithWires
set_option maxRecDepth 20000 in
theorem ggX9_count_J6_bitCount_0f7a4 : GoodIn wsX9_count wsJ6_bitCount_0f7a4 := goodIn_r _ [25, 26, 27, 28] (by decide +kernel) (by decide +kernel)
set_option maxRecDepth 20000 in
theorem gX9_count_J6_bitCount_0f7a4 : GoodIn wsX9_count (va_wsS RX9 194 yJ6_bitCount_0f7a4 wsJ6_bitCount_0f7a4) := goodIn_app (goodIn_of _ (by decide +kernel)) ggX9_count_J6_bitCount_0f7a4
theorem dX9_count_0 : decode cX9_count 0 = .ok (.iload_n 1, 1) := by decide +kernel
theorem dX9_count_1 : decode cX9_count 1 = .ok (.tableswitch 54 0 2 #[27, 35, 43], 27) := by decide +kernel
theorem dX9_count_28 : decode cX9_count 28 = .ok (.aload_n 0, 1) := by decide +kernel
theorem dX9_count_29 : decode cX9_count 29 = .ok (.getfield 19, 3) := by decide +kernel
theorem dX9_count_32 : decode cX9_count 32 = .ok (.invokevirtual 96, 3) := by decide +kernel
theorem dX9_count_35 : decode cX9_count 35 = .ok (.ireturn, 1) := by decide +kernel
theorem dX9_count_36 : decode cX9_count 36 = .ok (.aload_n 0, 1) := by decide +kernel
theorem dX9_count_37 : decode cX9_count 37 = .ok (.getfield 26, 3) := by decide +kernel
theorem dX9_count_40 : decode cX9_count 40 = .ok (.invokevirtual 175, 3) := by decide +kernel
theorem dX9_count_43 : decode cX9_count 43 = .ok (.ireturn, 1) := by decide +kernel
theorem dX9_count_44 : decode cX9_count 44 = .ok (.aload_n 0, 1) := by decide +kernel
theorem dX9_count_45 : decode cX9_count 45 = .ok (.getfield 19, 3) := by decide +kernel
theorem dX9_count_48 : decode cX9_count 48 = .ok (.invokevirtual 191, 3) := by decide +kernel
theorem dX9_count_51 : decode cX9_count 51 = .ok (.invokestatic 194, 3) := by decide +kernel
theorem dX9_count_54 : decode cX9_count 54 = .ok (.ireturn, 1) := by decide +kernel
theorem dX9_count_55 : decode cX9_count 55 = .ok (.iconst (-1), 1) := by decide +kernel
theorem dX9_count_56 : decode cX9_count 56 = .ok (.ireturn, 1) := by decide +kernel
theorem dX9_trace_0 : decode cX9_trace 0 = .ok (.aload_n 0, 1) := by decide +kernel
theorem dX9_trace_1 : decode cX9_trace 1 = .ok (.getfield 37, 3) := by decide +kernel
theorem dX9_trace_4 : decode cX9_trace 4 = .ok (.lreturn, 1) := by decide +kernel
theorem dX9_isWithin_0 : decode cX9_isWithin 0 = .ok (.iload_n 0, 1) := by decide +kernel
theorem dX9_isWithin_1 : decode cX9_isWithin 1 = .ok (.iload_n 1, 1) := by decide +kernel
theorem dX9_isWithin_2 : decode cX9_isWithin 2 = .ok (.if_icmp .lt 12, 3) := by decide +kernel
theorem dX9_isWithin_5 : decode cX9_isWithin 5 = .ok (.iload_n 0, 1) := by decide +kernel
theorem dX9_isWithin_6 : decode cX9_isWithin 6 = .ok (.iload_n 2, 1) := by decide +kernel
theorem dX9_isWithin_7 : decode cX9_isWithin 7 = .ok (.if_icmp .gt 7, 3) := by decide +kernel
theorem dX9_isWithin_10 : decode cX9_isWithin 10 = .ok (.iconst 1, 1) := by decide +kernel
theorem dX9_isWithin_11 : decode cX9_isWithin 11 = .ok (.goto 4, 3) := by decide +kernel
theorem dX9_isWithin_14 : decode cX9_isWithin 14 = .ok (.iconst 0, 1) := by decide +kernel
theorem dX9_isWithin_15 : decode cX9_isWithin 15 = .ok (.ireturn, 1) := by decide +kernel
set_option maxRecDepth 20000 in
theorem ggX9_isTold_X9_isWithin : GoodIn wsX9_isTold wsX9_isWithin := goodIn_r _ [4] (by decide +kernel) (by decide +kernel)
set_option maxRecDepth 20000 in
theorem gX9_isTold_X9_isWithin : GoodIn wsX9_isTold (va_wsS RX9 41 yX9_isWithin wsX9_isWithin) := goodIn_app (goodIn_of _ (by decide +kernel)) ggX9_isTold_X9_isWithin
theorem dX9_isTold_0 : decode cX9_isTold 0 = .ok (.iload_n 0, 1) := by decide +kernel
theorem dX9_isTold_1 : decode cX9_isTold 1 = .ok (.iconst 1, 1) := by decide +kernel
theorem dX9_isTold_2 : decode cX9_isTold 2 = .ok (.iload_n 2, 1) := by decide +kernel
theorem dX9_isTold_3 : decode cX9_isTold 3 = .ok (.invokestatic 41, 3) := by decide +kernel
theorem dX9_isTold_6 : decode cX9_isTold 6 = .ok (.ifCond .eq 16, 3) := by decide +kernel
theorem dX9_isTold_9 : decode cX9_isTold 9 = .ok (.iload_n 1, 1) := by decide +kernel
theorem dX9_isTold_10 : decode cX9_isTold 10 = .ok (.iconst 1, 1) := by decide +kernel
theorem dX9_isTold_11 : decode cX9_isTold 11 = .ok (.iload_n 2, 1) := by decide +kernel
theorem dX9_isTold_12 : decode cX9_isTold 12 = .ok (.invokestatic 41, 3) := by decide +kernel
theorem dX9_isTold_15 : decode cX9_isTold 15 = .ok (.ifCond .eq 7, 3) := by decide +kernel
theorem dX9_isTold_18 : decode cX9_isTold 18 = .ok (.iconst 1, 1) := by decide +kernel
theorem dX9_isTold_19 : decode cX9_isTold 19 = .ok (.goto 4, 3) := by decide +kernel
theorem dX9_isTold_22 : decode cX9_isTold 22 = .ok (.iconst 0, 1) := by decide +kernel
theorem dX9_isTold_23 : decode cX9_isTold 23 = .ok (.ireturn, 1) := by decide +kernel
set_option maxRecDepth 20000 in
theorem ggX9_isKnot_X9_isWithin : GoodIn wsX9_isKnot wsX9_isWithin := goodIn_r _ [4] (by decide +kernel) (by decide +kernel)
set_option maxRecDepth 20000 in
theorem gX9_isKnot_X9_isWithin : GoodIn wsX9_isKnot (va_wsS RX9 41 yX9_isWithin wsX9_isWithin) := goodIn_app (goodIn_of _ (by decide +kernel)) ggX9_isKnot_X9_isWithin
theorem dX9_isKnot_0 : decode cX9_isKnot 0 = .ok (.iload_n 0, 1) := by decide +kernel
theorem dX9_isKnot_1 : decode cX9_isKnot 1 = .ok (.iconst 0, 1) := by decide +kernel
theorem dX9_isKnot_2 : decode cX9_isKnot 2 = .ok (.iconst 5, 1) := by decide +kernel
theorem dX9_isKnot_3 : decode cX9_isKnot 3 = .ok (.invokestatic 41, 3) := by decide +kernel
theorem dX9_isKnot_6 : decode cX9_isKnot 6 = .ok (.ireturn, 1) := by decide +kernel
set_option maxRecDepth 20000 in
theorem ggX9_areTwoKnots_X9_isKnot : GoodIn wsX9_areTwoKnots wsX9_isKnot := goodIn_r _ [4, 5, 6, 3, 7] (by decide +kernel) (by decide +kernel)
set_option maxRecDepth 20000 in
theorem gX9_areTwoKnots_X9_isKnot : GoodIn wsX9_areTwoKnots (va_wsS RX9 146 yX9_isKnot wsX9_isKnot) := goodIn_app (goodIn_of _ (by decide +kernel)) ggX9_areTwoKnots_X9_isKnot
theorem dX9_areTwoKnots_0 : decode cX9_areTwoKnots 0 = .ok (.iload_n 0, 1) := by decide +kernel
theorem dX9_areTwoKnots_1 : decode cX9_areTwoKnots 1 = .ok (.invokestatic 146, 3) := by decide +kernel
theorem dX9_areTwoKnots_4 : decode cX9_areTwoKnots 4 = .ok (.ifCond .eq 19, 3) := by decide +kernel
theorem dX9_areTwoKnots_7 : decode cX9_areTwoKnots 7 = .ok (.iload_n 1, 1) := by decide +kernel
theorem dX9_areTwoKnots_8 : decode cX9_areTwoKnots 8 = .ok (.invokestatic 146, 3) := by decide +kernel
theorem dX9_areTwoKnots_11 : decode cX9_areTwoKnots 11 = .ok (.ifCond .eq 12, 3) := by decide +kernel
theorem dX9_areTwoKnots_14 : decode cX9_areTwoKnots 14 = .ok (.iload_n 0, 1) := by decide +kernel
theorem dX9_areTwoKnots_15 : decode cX9_areTwoKnots 15 = .ok (.iload_n 1, 1) := by decide +kernel
theorem dX9_areTwoKnots_16 : decode cX9_areTwoKnots 16 = .ok (.if_icmp .eq 7, 3) := by decide +kernel
theorem dX9_areTwoKnots_19 : decode cX9_areTwoKnots 19 = .ok (.iconst 1, 1) := by decide +kernel
theorem dX9_areTwoKnots_20 : decode cX9_areTwoKnots 20 = .ok (.goto 4, 3) := by decide +kernel
theorem dX9_areTwoKnots_23 : decode cX9_areTwoKnots 23 = .ok (.iconst 0, 1) := by decide +kernel
theorem dX9_areTwoKnots_24 : decode cX9_areTwoKnots 24 = .ok (.ireturn, 1) := by decide +kernel
theorem dX10_init_0 : decode cX10_init 0 = .ok (.aload_n 0, 1) := by decide +kernel
theorem dX10_init_1 : decode cX10_init 1 = .ok (.invokespecial 1, 3) := by decide +kernel
theorem dX10_init_4 : decode cX10_init 4 = .ok (.aload_n 0, 1) := by decide +kernel
theorem dX10_init_5 : decode cX10_init 5 = .ok (.sipush 1600, 3) := by decide +kernel
theorem dX10_init_8 : decode cX10_init 8 = .ok (.newarray .int, 2) := by decide +kernel
theorem dX10_init_10 : decode cX10_init 10 = .ok (.putfield 7, 3) := by decide +kernel
theorem dX10_init_13 : decode cX10_init 13 = .ok (.aload_n 0, 1) := by decide +kernel
theorem dX10_init_14 : decode cX10_init 14 = .ok (.sipush 1600, 3) := by decide +kernel
theorem dX10_init_17 : decode cX10_init 17 = .ok (.newarray .int, 2) := by decide +kernel
theorem dX10_init_19 : decode cX10_init 19 = .ok (.putfield 13, 3) := by decide +kernel
theorem dX10_init_22 : decode cX10_init 22 = .ok (.aload_n 0, 1) := by decide +kernel
theorem dX10_init_23 : decode cX10_init 23 = .ok (.bipush 11, 2) := by decide +kernel
theorem dX10_init_25 : decode cX10_init 25 = .ok (.newarray .int, 2) := by decide +kernel
theorem dX10_init_27 : decode cX10_init 27 = .ok (.putfield 16, 3) := by decide +kernel
theorem dX10_init_30 : decode cX10_init 30 = .ok (.aload_n 0, 1) := by decide +kernel
theorem dX10_init_31 : decode cX10_init 31 = .ok (.bipush 12, 2) := by decide +kernel
theorem dX10_init_33 : decode cX10_init 33 = .ok (.newarray .int, 2) := by decide +kernel
theorem dX10_init_35 : decode cX10_init 35 = .ok (.putfield 19, 3) := by decide +kernel
theorem dX10_init_38 : decode cX10_init 38 = .ok (.aload_n 0, 1) := by decide +kernel
theorem dX10_init_39 : decode cX10_init 39 = .ok (.bipush 12, 2) := by decide +kernel
theorem dX10_init_41 : decode cX10_init 41 = .ok (.newarray .int, 2) := by decide +kernel
theorem dX10_init_43 : decode cX10_init 43 = .ok (.putfield 22, 3) := by decide +kernel
theorem dX10_init_46 : decode cX10_init 46 = .ok (.aload_n 0, 1) := by decide +kernel
theorem dX10_init_47 : decode cX10_init 47 = .ok (.bipush 12, 2) := by decide +kernel
theorem dX10_init_49 : decode cX10_init 49 = .ok (.newarray .int, 2) := by decide +kernel
theorem dX10_init_51 : decode cX10_init 51 = .ok (.putfield 25, 3) := by decide +kernel
theorem dX10_init_54 : decode cX10_init 54 = .ok (.aload_n 0, 1) := by decide +kernel
theorem dX10_init_55 : decode cX10_init 55 = .ok (.bipush 12, 2) := by decide +kernel
theorem dX10_init_57 : decode cX10_init 57 = .ok (.newarray .int, 2) := by decide +kernel
theorem dX10_init_59 : decode cX10_init 59 = .ok (.putfield 28, 3) := by decide +kernel
theorem dX10_init_62 : decode cX10_init 62 = .ok (.aload_n 0, 1) := by decide +kernel
theorem dX10_init_63 : decode cX10_init 63 = .ok (.bipush 12, 2) := by decide +kernel
theorem dX10_init_65 : decode cX10_init 65 = .ok (.newarray .int, 2) := by decide +kernel
theorem dX10_init_67 : decode cX10_init 67 = .ok (.putfield 31, 3) := by decide +kernel
theorem dX10_init_70 : decode cX10_init 70 = .ok (.aload_n 0, 1) := by decide +kernel
theorem dX10_init_71 : decode cX10_init 71 = .ok (.bipush 6, 2) := by decide +kernel
theorem dX10_init_73 : decode cX10_init 73 = .ok (.newarray .int, 2) := by decide +kernel
theorem dX10_init_75 : decode cX10_init 75 = .ok (.putfield 34, 3) := by decide +kernel
theorem dX10_init_78 : decode cX10_init 78 = .ok (.aload_n 0, 1) := by decide +kernel
theorem dX10_init_79 : decode cX10_init 79 = .ok (.bipush 6, 2) := by decide +kernel
theorem dX10_init_81 : decode cX10_init 81 = .ok (.newarray .int, 2) := by decide +kernel
theorem dX10_init_83 : decode cX10_init 83 = .ok (.putfield 37, 3) := by decide +kernel
theorem dX10_init_86 : decode cX10_init 86 = .ok (.aload_n 0, 1) := by decide +kernel
theorem dX10_init_87 : decode cX10_init 87 = .ok (.bipush 12, 2) := by decide +kernel
theorem dX10_init_89 : decode cX10_init 89 = .ok (.newarray .int, 2) := by decide +kernel
theorem dX10_init_91 : decode cX10_init 91 = .ok (.putfield 40, 3) := by decide +kernel
theorem dX10_init_94 : decode cX10_init 94 = .ok (.aload_n 0, 1) := by decide +kernel
theorem dX10_init_95 : decode cX10_init 95 = .ok (.bipush 12, 2) := by decide +kernel
theorem dX10_init_97 : decode cX10_init 97 = .ok (.newarray .int, 2) := by decide +kernel
theorem dX10_init_99 : decode cX10_init 99 = .ok (.putfield 43, 3) := by decide +kernel
theorem dX10_init_102 : decode cX10_init 102 = .ok (.aload_n 0, 1) := by decide +kernel
theorem dX10_init_103 : decode cX10_init 103 = .ok (.bipush 12, 2) := by decide +kernel
theorem dX10_init_105 : decode cX10_init 105 = .ok (.newarray .boolean, 2) := by decide +kernel
theorem dX10_init_107 : decode cX10_init 107 = .ok (.putfield 46, 3) := by decide +kernel
theorem dX10_init_110 : decode cX10_init 110 = .ok (.aload_n 0, 1) := by decide +kernel
theorem dX10_init_111 : decode cX10_init 111 = .ok (.bipush 6, 2) := by decide +kernel
theorem dX10_init_113 : decode cX10_init 113 = .ok (.newarray .int, 2) := by decide +kernel
theorem dX10_init_115 : decode cX10_init 115 = .ok (.putfield 50, 3) := by decide +kernel
theorem dX10_init_118 : decode cX10_init 118 = .ok (.aload_n 0, 1) := by decide +kernel
theorem dX10_init_119 : decode cX10_init 119 = .ok (.bipush 6, 2) := by decide +kernel
theorem dX10_init_121 : decode cX10_init 121 = .ok (.newarray .int, 2) := by decide +kernel
theorem dX10_init_123 : decode cX10_init 123 = .ok (.putfield 53, 3) := by decide +kernel
theorem dX10_init_126 : decode cX10_init 126 = .ok (.aload_n 0, 1) := by decide +kernel
theorem dX10_init_127 : decode cX10_init 127 = .ok (.bipush 6, 2) := by decide +kernel
theorem dX10_init_129 : decode cX10_init 129 = .ok (.newarray .int, 2) := by decide +kernel
theorem dX10_init_131 : decode cX10_init 131 = .ok (.putfield 56, 3) := by decide +kernel
theorem dX10_init_134 : decode cX10_init 134 = .ok (.aload_n 0, 1) := by decide +kernel
theorem dX10_init_135 : decode cX10_init 135 = .ok (.iconst 0, 1) := by decide +kernel
theorem dX10_init_136 : decode cX10_init 136 = .ok (.putfield 59, 3) := by decide +kernel
theorem dX10_init_139 : decode cX10_init 139 = .ok (.return_, 1) := by decide +kernel
theorem dX10_in_0 : decode cX10_in 0 = .ok (.iload_n 0, 1) := by decide +kernel
theorem dX10_in_1 : decode cX10_in 1 = .ok (.iload_n 1, 1) := by decide +kernel
theorem dX10_in_2 : decode cX10_in 2 = .ok (.if_icmp .lt 12, 3) := by decide +kernel
theorem dX10_in_5 : decode cX10_in 5 = .ok (.iload_n 0, 1) := by decide +kernel
theorem dX10_in_6 : decode cX10_in 6 = .ok (.iload_n 2, 1) := by decide +kernel
theorem dX10_in_7 : decode cX10_in 7 = .ok (.if_icmp .gt 7, 3) := by decide +kernel
theorem dX10_in_10 : decode cX10_in 10 = .ok (.iconst 1, 1) := by decide +kernel
theorem dX10_in_11 : decode cX10_in 11 = .ok (.goto 4, 3) := by decide +kernel
theorem dX10_in_14 : decode cX10_in 14 = .ok (.iconst 0, 1) := by decide +kernel
theorem dX10_in_15 : decode cX10_in 15 = .ok (.ireturn, 1) := by decide +kernel
theorem dX10_common_0 : decode cX10_common 0 = .ok (.lload_n 0, 1) := by decide +kernel
theorem dX10_common_1 : decode cX10_common 1 = .ok (.lconst 0, 1) := by decide +kernel
theorem dX10_common_2 : decode cX10_common 2 = .ok (.lcmp, 1) := by decide +kernel
theorem dX10_common_3 : decode cX10_common 3 = .ok (.ifCond .ge 8, 3) := by decide +kernel
theorem dX10_common_6 : decode cX10_common 6 = .ok (.lload_n 0, 1) := by decide +kernel
theorem dX10_common_7 : decode cX10_common 7 = .ok (.lneg, 1) := by decide +kernel
theorem dX10_common_8 : decode cX10_common 8 = .ok (.goto 4, 3) := by decide +kernel
theorem dX10_common_11 : decode cX10_common 11 = .ok (.lload_n 0, 1) := by decide +kernel
theorem dX10_common_12 : decode cX10_common 12 = .ok (.lstore 4, 2) := by decide +kernel
theorem dX10_common_14 : decode cX10_common 14 = .ok (.lload_n 2, 1) := by decide +kernel
theorem dX10_common_15 : decode cX10_common 15 = .ok (.lstore 6, 2) := by decide +kernel
theorem dX10_common_17 : decode cX10_common 17 = .ok (.lload 6, 2) := by decide +kernel
theorem dX10_common_19 : decode cX10_common 19 = .ok (.lconst 0, 1) := by decide +kernel
theorem dX10_common_20 : decode cX10_common 20 = .ok (.lcmp, 1) := by decide +kernel
theorem dX10_common_21 : decode cX10_common 21 = .ok (.ifCond .eq 21, 3) := by decide +kernel
theorem dX10_common_24 : decode cX10_common 24 = .ok (.lload 4, 2) := by decide +kernel
theorem dX10_common_26 : decode cX10_common 26 = .ok (.lload 6, 2) := by decide +kernel
theorem dX10_common_28 : decode cX10_common 28 = .ok (.lrem, 1) := by decide +kernel
theorem dX10_common_29 : decode cX10_common 29 = .ok (.lstore 8, 2) := by decide +kernel
theorem dX10_common_31 : decode cX10_common 31 = .ok (.lload 6, 2) := by decide +kernel
theorem dX10_common_33 : decode cX10_common 33 = .ok (.lstore 4, 2) := by decide +kernel
theorem dX10_common_35 : decode cX10_common 35 = .ok (.lload 8, 2) := by decide +kernel
theorem dX10_common_37 : decode cX10_common 37 = .ok (.lstore 6, 2) := by decide +kernel
theorem dX10_common_39 : decode cX10_common 39 = .ok (.goto (-22), 3) := by decide +kernel
theorem dX10_common_42 : decode cX10_common 42 = .ok (.lload 4, 2) := by decide +kernel
theorem dX10_common_44 : decode cX10_common 44 = .ok (.lreturn, 1) := by decide +kernel
set_option maxRecDepth 20000 in
theorem ggX10_least_X10_common : GoodIn wsX10_least wsX10_common := goodIn_r _ [6] (by decide +kernel) (by decide +kernel)
set_option maxRecDepth 20000 in
theorem gX10_least_X10_common : GoodIn wsX10_least (va_wsS RX10 63 yX10_common wsX10_common) := goodIn_app (goodIn_of _ (by decide +kernel)) ggX10_least_X10_common
theorem dX10_least_0 : decode cX10_least 0 = .ok (.lload_n 1, 1) := by decide +kernel
theorem dX10_least_1 : decode cX10_least 1 = .ok (.lload_n 3, 1) := by decide +kernel
theorem dX10_least_2 : decode cX10_least 2 = .ok (.invokestatic 63, 3) := by decide +kernel
theorem dX10_least_5 : decode cX10_least 5 = .ok (.lstore 5, 2) := by decide +kernel
theorem dX10_least_7 : decode cX10_least 7 = .ok (.aload_n 0, 1) := by decide +kernel
theorem dX10_least_8 : decode cX10_least 8 = .ok (.lload_n 1, 1) := by decide +kernel
theorem dX10_least_9 : decode cX10_least 9 = .ok (.lload 5, 2) := by decide +kernel
theorem dX10_least_11 : decode cX10_least 11 = .ok (.ldiv, 1) := by decide +kernel
theorem dX10_least_12 : decode cX10_least 12 = .ok (.putfield 67, 3) := by decide +kernel
theorem dX10_least_15 : decode cX10_least 15 = .ok (.aload_n 0, 1) := by decide +kernel
theorem dX10_least_16 : decode cX10_least 16 = .ok (.lload_n 3, 1) := by decide +kernel
theorem dX10_least_17 : decode cX10_least 17 = .ok (.lload 5, 2) := by decide +kernel
theorem dX10_least_19 : decode cX10_least 19 = .ok (.ldiv, 1) := by decide +kernel
theorem dX10_least_20 : decode cX10_least 20 = .ok (.putfield 71, 3) := by decide +kernel
theorem dX10_least_23 : decode cX10_least 23 = .ok (.return_, 1) := by decide +kernel
set_option maxRecDepth 20000 in
theorem ggX10_puts_X10_least : GoodIn wsX10_puts wsX10_least := goodIn_r _ [10, 2, 4, 11, 12, 9, 13, 14, 15, 16, 17, 18, 19, 20, 21, 22, 23, 24, 25, 26, 27, 28, 29, 30, 31, 32, 33, 34, 35, 36, 37] (by decide +kernel) (by decide +kernel)
set_option maxRecDepth 20000 in
theorem gX10_puts_X10_least : GoodIn wsX10_puts (wsV RX10 74 RX10 yX10_least wsX10_least) := goodIn_app (goodIn_of _ (by decide +kernel)) ggX10_puts_X10_least
theorem dX10_puts_0 : decode cX10_puts 0 = .ok (.aload_n 0, 1) := by decide +kernel
theorem dX10_puts_1 : decode cX10_puts 1 = .ok (.lload_n 2, 1) := by decide +kernel
theorem dX10_puts_2 : decode cX10_puts 2 = .ok (.lload 4, 2) := by decide +kernel
theorem dX10_puts_4 : decode cX10_puts 4 = .ok (.invokevirtual 74, 3) := by decide +kernel
theorem dX10_puts_7 : decode cX10_puts 7 = .ok (.aload_n 0, 1) := by decide +kernel
theorem dX10_puts_8 : decode cX10_puts 8 = .ok (.getfield 78, 3) := by decide +kernel
theorem dX10_puts_11 : decode cX10_puts 11 = .ok (.istore 6, 2) := by decide +kernel
theorem dX10_puts_13 : decode cX10_puts 13 = .ok (.iload 6, 2) := by decide +kernel
theorem dX10_puts_15 : decode cX10_puts 15 = .ok (.iload_n 1, 1) := by decide +kernel
theorem dX10_puts_16 : decode cX10_puts 16 = .ok (.if_icmp .le 43, 3) := by decide +kernel
theorem dX10_puts_19 : decode cX10_puts 19 = .ok (.aload_n 0, 1) := by decide +kernel
theorem dX10_puts_20 : decode cX10_puts 20 = .ok (.getfield 67, 3) := by decide +kernel
theorem dX10_puts_23 : decode cX10_puts 23 = .ok (.aload_n 0, 1) := by decide +kernel
theorem dX10_puts_24 : decode cX10_puts 24 = .ok (.getfield 13, 3) := by decide +kernel
theorem dX10_puts_27 : decode cX10_puts 27 = .ok (.iload 6, 2) := by decide +kernel
theorem dX10_puts_29 : decode cX10_puts 29 = .ok (.iconst 1, 1) := by decide +kernel
theorem dX10_puts_30 : decode cX10_puts 30 = .ok (.isub, 1) := by decide +kernel
theorem dX10_puts_31 : decode cX10_puts 31 = .ok (.iaload, 1) := by decide +kernel
theorem dX10_puts_32 : decode cX10_puts 32 = .ok (.i2l, 1) := by decide +kernel
theorem dX10_puts_33 : decode cX10_puts 33 = .ok (.lmul, 1) := by decide +kernel
theorem dX10_puts_34 : decode cX10_puts 34 = .ok (.aload_n 0, 1) := by decide +kernel
theorem dX10_puts_35 : decode cX10_puts 35 = .ok (.getfield 71, 3) := by decide +kernel
theorem dX10_puts_38 : decode cX10_puts 38 = .ok (.aload_n 0, 1) := by decide +kernel
theorem dX10_puts_39 : decode cX10_puts 39 = .ok (.getfield 7, 3) := by decide +kernel
theorem dX10_puts_42 : decode cX10_puts 42 = .ok (.iload 6, 2) := by decide +kernel
theorem dX10_puts_44 : decode cX10_puts 44 = .ok (.iconst 1, 1) := by decide +kernel
theorem dX10_puts_45 : decode cX10_puts 45 = .ok (.isub, 1) := by decide +kernel
theorem dX10_puts_46 : decode cX10_puts 46 = .ok (.iaload, 1) := by decide +kernel
theorem dX10_puts_47 : decode cX10_puts 47 = .ok (.i2l, 1) := by decide +kernel
theorem dX10_puts_48 : decode cX10_puts 48 = .ok (.lmul, 1) := by decide +kernel
theorem dX10_puts_49 : decode cX10_puts 49 = .ok (.lcmp, 1) := by decide +kernel
theorem dX10_puts_50 : decode cX10_puts 50 = .ok (.ifCond .ge 9, 3) := by decide +kernel
theorem dX10_puts_53 : decode cX10_puts 53 = .ok (.iinc 6 (-1), 3) := by decide +kernel
theorem dX10_puts_56 : decode cX10_puts 56 = .ok (.goto (-43), 3) := by decide +kernel
theorem dX10_puts_59 : decode cX10_puts 59 = .ok (.iload 6, 2) := by decide +kernel
theorem dX10_puts_61 : decode cX10_puts 61 = .ok (.iload_n 1, 1) := by decide +kernel
theorem dX10_puts_62 : decode cX10_puts 62 = .ok (.if_icmp .le 40, 3) := by decide +kernel
theorem dX10_puts_65 : decode cX10_puts 65 = .ok (.aload_n 0, 1) := by decide +kernel
theorem dX10_puts_66 : decode cX10_puts 66 = .ok (.getfield 67, 3) := by decide +kernel
theorem dX10_puts_69 : decode cX10_puts 69 = .ok (.aload_n 0, 1) := by decide +kernel
theorem dX10_puts_70 : decode cX10_puts 70 = .ok (.getfield 7, 3) := by decide +kernel
theorem dX10_puts_73 : decode cX10_puts 73 = .ok (.iload 6, 2) := by decide +kernel
theorem dX10_puts_75 : decode cX10_puts 75 = .ok (.iconst 1, 1) := by decide +kernel
theorem dX10_puts_76 : decode cX10_puts 76 = .ok (.isub, 1) := by decide +kernel
theorem dX10_puts_77 : decode cX10_puts 77 = .ok (.iaload, 1) := by decide +kernel
theorem dX10_puts_78 : decode cX10_puts 78 = .ok (.i2l, 1) := by decide +kernel
theorem dX10_puts_79 : decode cX10_puts 79 = .ok (.lcmp, 1) := by decide +kernel
theorem dX10_puts_80 : decode cX10_puts 80 = .ok (.ifCond .ne 22, 3) := by decide +kernel
theorem dX10_puts_83 : decode cX10_puts 83 = .ok (.aload_n 0, 1) := by decide +kernel
theorem dX10_puts_84 : decode cX10_puts 84 = .ok (.getfield 71, 3) := by decide +kernel
theorem dX10_puts_87 : decode cX10_puts 87 = .ok (.aload_n 0, 1) := by decide +kernel
theorem dX10_puts_88 : decode cX10_puts 88 = .ok (.getfield 13, 3) := by decide +kernel
theorem dX10_puts_91 : decode cX10_puts 91 = .ok (.iload 6, 2) := by decide +kernel
theorem dX10_puts_93 : decode cX10_puts 93 = .ok (.iconst 1, 1) := by decide +kernel
theorem dX10_puts_94 : decode cX10_puts 94 = .ok (.isub, 1) := by decide +kernel
theorem dX10_puts_95 : decode cX10_puts 95 = .ok (.iaload, 1) := by decide +kernel
theorem dX10_puts_96 : decode cX10_puts 96 = .ok (.i2l, 1) := by decide +kernel
theorem dX10_puts_97 : decode cX10_puts 97 = .ok (.lcmp, 1) := by decide +kernel
theorem dX10_puts_98 : decode cX10_puts 98 = .ok (.ifCond .ne 4, 3) := by decide +kernel
theorem dX10_puts_101 : decode cX10_puts 101 = .ok (.return_, 1) := by decide +kernel
theorem dX10_puts_102 : decode cX10_puts 102 = .ok (.aload_n 0, 1) := by decide +kernel
theorem dX10_puts_103 : decode cX10_puts 103 = .ok (.getfield 78, 3) := by decide +kernel
theorem dX10_puts_106 : decode cX10_puts 106 = .ok (.istore 7, 2) := by decide +kernel
theorem dX10_puts_108 : decode cX10_puts 108 = .ok (.iload 7, 2) := by decide +kernel
theorem dX10_puts_110 : decode cX10_puts 110 = .ok (.iload 6, 2) := by decide +kernel
theorem dX10_puts_112 : decode cX10_puts 112 = .ok (.if_icmp .le 41, 3) := by decide +kernel
theorem dX10_puts_115 : decode cX10_puts 115 = .ok (.aload_n 0, 1) := by decide +kernel
theorem dX10_puts_116 : decode cX10_puts 116 = .ok (.getfield 7, 3) := by decide +kernel
theorem dX10_puts_119 : decode cX10_puts 119 = .ok (.iload 7, 2) := by decide +kernel
theorem dX10_puts_121 : decode cX10_puts 121 = .ok (.aload_n 0, 1) := by decide +kernel
theorem dX10_puts_122 : decode cX10_puts 122 = .ok (.getfield 7, 3) := by decide +kernel
theorem dX10_puts_125 : decode cX10_puts 125 = .ok (.iload 7, 2) := by decide +kernel
theorem dX10_puts_127 : decode cX10_puts 127 = .ok (.iconst 1, 1) := by decide +kernel
theorem dX10_puts_128 : decode cX10_puts 128 = .ok (.isub, 1) := by decide +kernel
theorem dX10_puts_129 : decode cX10_puts 129 = .ok (.iaload, 1) := by decide +kernel
theorem dX10_puts_130 : decode cX10_puts 130 = .ok (.iastore, 1) := by decide +kernel
theorem dX10_puts_131 : decode cX10_puts 131 = .ok (.aload_n 0, 1) := by decide +kernel
theorem dX10_puts_132 : decode cX10_puts 132 = .ok (.getfield 13, 3) := by decide +kernel
theorem dX10_puts_135 : decode cX10_puts 135 = .ok (.iload 7, 2) := by decide +kernel
theorem dX10_puts_137 : decode cX10_puts 137 = .ok (.aload_n 0, 1) := by decide +kernel
theorem dX10_puts_138 : decode cX10_puts 138 = .ok (.getfield 13, 3) := by decide +kernel
theorem dX10_puts_141 : decode cX10_puts 141 = .ok (.iload 7, 2) := by decide +kernel
theorem dX10_puts_143 : decode cX10_puts 143 = .ok (.iconst 1, 1) := by decide +kernel
theorem dX10_puts_144 : decode cX10_puts 144 = .ok (.isub, 1) := by decide +kernel
theorem dX10_puts_145 : decode cX10_puts 145 = .ok (.iaload, 1) := by decide +kernel
theorem dX10_puts_146 : decode cX10_puts 146 = .ok (.iastore, 1) := by decide +kernel
theorem dX10_puts_147 : decode cX10_puts 147 = .ok (.iinc 7 (-1), 3) := by decide +kernel
theorem dX10_puts_150 : decode cX10_puts 150 = .ok (.goto (-42), 3) := by decide +kernel
theorem dX10_puts_153 : decode cX10_puts 153 = .ok (.aload_n 0, 1) := by decide +kernel
theorem dX10_puts_154 : decode cX10_puts 154 = .ok (.getfield 7, 3) := by decide +kernel
theorem dX10_puts_157 : decode cX10_puts 157 = .ok (.iload 6, 2) := by decide +kernel
theorem dX10_puts_159 : decode cX10_puts 159 = .ok (.aload_n 0, 1) := by decide +kernel
theorem dX10_puts_160 : decode cX10_puts 160 = .ok (.getfield 67, 3) := by decide +kernel
theorem dX10_puts_163 : decode cX10_puts 163 = .ok (.l2i, 1) := by decide +kernel
theorem dX10_puts_164 : decode cX10_puts 164 = .ok (.iastore, 1) := by decide +kernel
theorem dX10_puts_165 : decode cX10_puts 165 = .ok (.aload_n 0, 1) := by decide +kernel
theorem dX10_puts_166 : decode cX10_puts 166 = .ok (.getfield 13, 3) := by decide +kernel
theorem dX10_puts_169 : decode cX10_puts 169 = .ok (.iload 6, 2) := by decide +kernel
theorem dX10_puts_171 : decode cX10_puts 171 = .ok (.aload_n 0, 1) := by decide +kernel
theorem dX10_puts_172 : decode cX10_puts 172 = .ok (.getfield 71, 3) := by decide +kernel
theorem dX10_puts_175 : decode cX10_puts 175 = .ok (.l2i, 1) := by decide +kernel
theorem dX10_puts_176 : decode cX10_puts 176 = .ok (.iastore, 1) := by decide +kernel
theorem dX10_puts_177 : decode cX10_puts 177 = .ok (.aload_n 0, 1) := by decide +kernel
theorem dX10_puts_178 : decode cX10_puts 178 = .ok (.dup, 1) := by decide +kernel
theorem dX10_puts_179 : decode cX10_puts 179 = .ok (.getfield 78, 3) := by decide +kernel
theorem dX10_puts_182 : decode cX10_puts 182 = .ok (.iconst 1, 1) := by decide +kernel
theorem dX10_puts_183 : decode cX10_puts 183 = .ok (.iadd, 1) := by decide +kernel
theorem dX10_puts_184 : decode cX10_puts 184 = .ok (.putfield 78, 3) := by decide +kernel
theorem dX10_puts_187 : decode cX10_puts 187 = .ok (.return_, 1) := by decide +kernel
set_option maxRecDepth 20000 in
theorem ggX10_needShares_X10_puts : GoodIn wsX10_needShares wsX10_puts := goodIn_r _ [10, 2, 11, 5, 12, 4, 13, 14, 15, 9, 16, 17, 18, 19, 20, 21, 22, 23, 24, 25, 26, 27, 28, 29, 30, 31, 32, 33, 34, 35, 36, 37, 38, 39, 40, 41, 42, 43] (by decide +kernel) (by decide +kernel)
set_option maxRecDepth 20000 in
theorem gX10_needShares_X10_puts : GoodIn wsX10_needShares (wsV RX10 85 RX10 yX10_puts wsX10_puts) := goodIn_app (goodIn_of _ (by decide +kernel)) ggX10_needShares_X10_puts
theorem dX10_needShares_0 : decode cX10_needShares 0 = .ok (.aload_n 0, 1) := by decide +kernel
theorem dX10_needShares_1 : decode cX10_needShares 1 = .ok (.getfield 81, 3) := by decide +kernel
theorem dX10_needShares_4 : decode cX10_needShares 4 = .ok (.ifCond .eq 4, 3) := by decide +kernel
theorem dX10_needShares_7 : decode cX10_needShares 7 = .ok (.return_, 1) := by decide +kernel
theorem dX10_needShares_8 : decode cX10_needShares 8 = .ok (.aload_n 0, 1) := by decide +kernel
theorem dX10_needShares_9 : decode cX10_needShares 9 = .ok (.iconst 1, 1) := by decide +kernel
theorem dX10_needShares_10 : decode cX10_needShares 10 = .ok (.putfield 81, 3) := by decide +kernel
theorem dX10_needShares_13 : decode cX10_needShares 13 = .ok (.aload_n 0, 1) := by decide +kernel
theorem dX10_needShares_14 : decode cX10_needShares 14 = .ok (.iconst 0, 1) := by decide +kernel
theorem dX10_needShares_15 : decode cX10_needShares 15 = .ok (.putfield 78, 3) := by decide +kernel
theorem dX10_needShares_18 : decode cX10_needShares 18 = .ok (.iconst 1, 1) := by decide +kernel
theorem dX10_needShares_19 : decode cX10_needShares 19 = .ok (.istore_n 1, 1) := by decide +kernel
theorem dX10_needShares_20 : decode cX10_needShares 20 = .ok (.iload_n 1, 1) := by decide +kernel
theorem dX10_needShares_21 : decode cX10_needShares 21 = .ok (.bipush 9, 2) := by decide +kernel
theorem dX10_needShares_23 : decode cX10_needShares 23 = .ok (.if_icmp .gt 205, 3) := by decide +kernel
theorem dX10_needShares_26 : decode cX10_needShares 26 = .ok (.aload_n 0, 1) := by decide +kernel
theorem dX10_needShares_27 : decode cX10_needShares 27 = .ok (.getfield 16, 3) := by decide +kernel
theorem dX10_needShares_30 : decode cX10_needShares 30 = .ok (.iload_n 1, 1) := by decide +kernel
theorem dX10_needShares_31 : decode cX10_needShares 31 = .ok (.aload_n 0, 1) := by decide +kernel
theorem dX10_needShares_32 : decode cX10_needShares 32 = .ok (.getfield 78, 3) := by decide +kernel
theorem dX10_needShares_35 : decode cX10_needShares 35 = .ok (.iastore, 1) := by decide +kernel
theorem dX10_needShares_36 : decode cX10_needShares 36 = .ok (.iload_n 1, 1) := by decide +kernel
theorem dX10_needShares_37 : decode cX10_needShares 37 = .ok (.iconst 1, 1) := by decide +kernel
theorem dX10_needShares_38 : decode cX10_needShares 38 = .ok (.if_icmp .ne 10, 3) := by decide +kernel
theorem dX10_needShares_41 : decode cX10_needShares 41 = .ok (.aload_n 0, 1) := by decide +kernel
theorem dX10_needShares_42 : decode cX10_needShares 42 = .ok (.iconst 0, 1) := by decide +kernel
theorem dX10_needShares_43 : decode cX10_needShares 43 = .ok (.lconst 1, 1) := by decide +kernel
theorem dX10_needShares_44 : decode cX10_needShares 44 = .ok (.lconst 1, 1) := by decide +kernel
theorem dX10_needShares_45 : decode cX10_needShares 45 = .ok (.invokevirtual 85, 3) := by decide +kernel
theorem dX10_needShares_48 : decode cX10_needShares 48 = .ok (.iconst 1, 1) := by decide +kernel
theorem dX10_needShares_49 : decode cX10_needShares 49 = .ok (.istore_n 2, 1) := by decide +kernel
theorem dX10_needShares_50 : decode cX10_needShares 50 = .ok (.iconst 2, 1) := by decide +kernel
theorem dX10_needShares_51 : decode cX10_needShares 51 = .ok (.iload_n 2, 1) := by decide +kernel
theorem dX10_needShares_52 : decode cX10_needShares 52 = .ok (.imul, 1) := by decide +kernel
theorem dX10_needShares_53 : decode cX10_needShares 53 = .ok (.iload_n 1, 1) := by decide +kernel
theorem dX10_needShares_54 : decode cX10_needShares 54 = .ok (.if_icmp .gt 156, 3) := by decide +kernel
theorem dX10_needShares_57 : decode cX10_needShares 57 = .ok (.aload_n 0, 1) := by decide +kernel
theorem dX10_needShares_58 : decode cX10_needShares 58 = .ok (.getfield 16, 3) := by decide +kernel
theorem dX10_needShares_61 : decode cX10_needShares 61 = .ok (.iload_n 2, 1) := by decide +kernel
theorem dX10_needShares_62 : decode cX10_needShares 62 = .ok (.iaload, 1) := by decide +kernel
theorem dX10_needShares_63 : decode cX10_needShares 63 = .ok (.istore_n 3, 1) := by decide +kernel
theorem dX10_needShares_64 : decode cX10_needShares 64 = .ok (.iload_n 3, 1) := by decide +kernel
theorem dX10_needShares_65 : decode cX10_needShares 65 = .ok (.aload_n 0, 1) := by decide +kernel
theorem dX10_needShares_66 : decode cX10_needShares 66 = .ok (.getfield 16, 3) := by decide +kernel
theorem dX10_needShares_69 : decode cX10_needShares 69 = .ok (.iload_n 2, 1) := by decide +kernel
theorem dX10_needShares_70 : decode cX10_needShares 70 = .ok (.iconst 1, 1) := by decide +kernel
theorem dX10_needShares_71 : decode cX10_needShares 71 = .ok (.iadd, 1) := by decide +kernel
theorem dX10_needShares_72 : decode cX10_needShares 72 = .ok (.iaload, 1) := by decide +kernel
theorem dX10_needShares_73 : decode cX10_needShares 73 = .ok (.if_icmp .ge 131, 3) := by decide +kernel
theorem dX10_needShares_76 : decode cX10_needShares 76 = .ok (.aload_n 0, 1) := by decide +kernel
theorem dX10_needShares_77 : decode cX10_needShares 77 = .ok (.getfield 16, 3) := by decide +kernel
theorem dX10_needShares_80 : decode cX10_needShares 80 = .ok (.iload_n 1, 1) := by decide +kernel
theorem dX10_needShares_81 : decode cX10_needShares 81 = .ok (.iload_n 2, 1) := by decide +kernel
theorem dX10_needShares_82 : decode cX10_needShares 82 = .ok (.isub, 1) := by decide +kernel
theorem dX10_needShares_83 : decode cX10_needShares 83 = .ok (.iaload, 1) := by decide +kernel
theorem dX10_needShares_84 : decode cX10_needShares 84 = .ok (.istore 4, 2) := by decide +kernel
theorem dX10_needShares_86 : decode cX10_needShares 86 = .ok (.iload 4, 2) := by decide +kernel
theorem dX10_needShares_88 : decode cX10_needShares 88 = .ok (.aload_n 0, 1) := by decide +kernel
theorem dX10_needShares_89 : decode cX10_needShares 89 = .ok (.getfield 16, 3) := by decide +kernel
theorem dX10_needShares_92 : decode cX10_needShares 92 = .ok (.iload_n 1, 1) := by decide +kernel
theorem dX10_needShares_93 : decode cX10_needShares 93 = .ok (.iload_n 2, 1) := by decide +kernel
theorem dX10_needShares_94 : decode cX10_needShares 94 = .ok (.isub, 1) := by decide +kernel
theorem dX10_needShares_95 : decode cX10_needShares 95 = .ok (.iconst 1, 1) := by decide +kernel
theorem dX10_needShares_96 : decode cX10_needShares 96 = .ok (.iadd, 1) := by decide +kernel
theorem dX10_needShares_97 : decode cX10_needShares 97 = .ok (.iaload, 1) := by decide +kernel
theorem dX10_needShares_98 : decode cX10_needShares 98 = .ok (.if_icmp .ge 100, 3) := by decide +kernel
theorem dX10_needShares_101 : decode cX10_needShares 101 = .ok (.aload_n 0, 1) := by decide +kernel
theorem dX10_needShares_102 : decode cX10_needShares 102 = .ok (.getfield 7, 3) := by decide +kernel
theorem dX10_needShares_105 : decode cX10_needShares 105 = .ok (.iload_n 3, 1) := by decide +kernel
theorem dX10_needShares_106 : decode cX10_needShares 106 = .ok (.iaload, 1) := by decide +kernel
theorem dX10_needShares_107 : decode cX10_needShares 107 = .ok (.i2l, 1) := by decide +kernel
theorem dX10_needShares_108 : decode cX10_needShares 108 = .ok (.aload_n 0, 1) := by decide +kernel
theorem dX10_needShares_109 : decode cX10_needShares 109 = .ok (.getfield 13, 3) := by decide +kernel
theorem dX10_needShares_112 : decode cX10_needShares 112 = .ok (.iload 4, 2) := by decide +kernel
theorem dX10_needShares_114 : decode cX10_needShares 114 = .ok (.iaload, 1) := by decide +kernel
theorem dX10_needShares_115 : decode cX10_needShares 115 = .ok (.i2l, 1) := by decide +kernel
theorem dX10_needShares_116 : decode cX10_needShares 116 = .ok (.lmul, 1) := by decide +kernel
theorem dX10_needShares_117 : decode cX10_needShares 117 = .ok (.aload_n 0, 1) := by decide +kernel
theorem dX10_needShares_118 : decode cX10_needShares 118 = .ok (.getfield 7, 3) := by decide +kernel
theorem dX10_needShares_121 : decode cX10_needShares 121 = .ok (.iload 4, 2) := by decide +kernel
theorem dX10_needShares_123 : decode cX10_needShares 123 = .ok (.iaload, 1) := by decide +kernel
theorem dX10_needShares_124 : decode cX10_needShares 124 = .ok (.i2l, 1) := by decide +kernel
theorem dX10_needShares_125 : decode cX10_needShares 125 = .ok (.aload_n 0, 1) := by decide +kernel
theorem dX10_needShares_126 : decode cX10_needShares 126 = .ok (.getfield 13, 3) := by decide +kernel
theorem dX10_needShares_129 : decode cX10_needShares 129 = .ok (.iload_n 3, 1) := by decide +kernel
theorem dX10_needShares_130 : decode cX10_needShares 130 = .ok (.iaload, 1) := by decide +kernel
theorem dX10_needShares_131 : decode cX10_needShares 131 = .ok (.i2l, 1) := by decide +kernel
theorem dX10_needShares_132 : decode cX10_needShares 132 = .ok (.lmul, 1) := by decide +kernel
theorem dX10_needShares_133 : decode cX10_needShares 133 = .ok (.ladd, 1) := by decide +kernel
theorem dX10_needShares_134 : decode cX10_needShares 134 = .ok (.lstore 5, 2) := by decide +kernel
theorem dX10_needShares_136 : decode cX10_needShares 136 = .ok (.aload_n 0, 1) := by decide +kernel
theorem dX10_needShares_137 : decode cX10_needShares 137 = .ok (.aload_n 0, 1) := by decide +kernel
theorem dX10_needShares_138 : decode cX10_needShares 138 = .ok (.getfield 16, 3) := by decide +kernel
theorem dX10_needShares_141 : decode cX10_needShares 141 = .ok (.iload_n 1, 1) := by decide +kernel
theorem dX10_needShares_142 : decode cX10_needShares 142 = .ok (.iaload, 1) := by decide +kernel
theorem dX10_needShares_143 : decode cX10_needShares 143 = .ok (.lload 5, 2) := by decide +kernel
theorem dX10_needShares_145 : decode cX10_needShares 145 = .ok (.aload_n 0, 1) := by decide +kernel
theorem dX10_needShares_146 : decode cX10_needShares 146 = .ok (.getfield 13, 3) := by decide +kernel
theorem dX10_needShares_149 : decode cX10_needShares 149 = .ok (.iload_n 3, 1) := by decide +kernel
theorem dX10_needShares_150 : decode cX10_needShares 150 = .ok (.iaload, 1) := by decide +kernel
theorem dX10_needShares_151 : decode cX10_needShares 151 = .ok (.i2l, 1) := by decide +kernel
theorem dX10_needShares_152 : decode cX10_needShares 152 = .ok (.aload_n 0, 1) := by decide +kernel
theorem dX10_needShares_153 : decode cX10_needShares 153 = .ok (.getfield 13, 3) := by decide +kernel
theorem dX10_needShares_156 : decode cX10_needShares 156 = .ok (.iload 4, 2) := by decide +kernel
theorem dX10_needShares_158 : decode cX10_needShares 158 = .ok (.iaload, 1) := by decide +kernel
theorem dX10_needShares_159 : decode cX10_needShares 159 = .ok (.i2l, 1) := by decide +kernel
theorem dX10_needShares_160 : decode cX10_needShares 160 = .ok (.lmul, 1) := by decide +kernel
theorem dX10_needShares_161 : decode cX10_needShares 161 = .ok (.invokevirtual 85, 3) := by decide +kernel
theorem dX10_needShares_164 : decode cX10_needShares 164 = .ok (.aload_n 0, 1) := by decide +kernel
theorem dX10_needShares_165 : decode cX10_needShares 165 = .ok (.aload_n 0, 1) := by decide +kernel
theorem dX10_needShares_166 : decode cX10_needShares 166 = .ok (.getfield 16, 3) := by decide +kernel
theorem dX10_needShares_169 : decode cX10_needShares 169 = .ok (.iload_n 1, 1) := by decide +kernel
theorem dX10_needShares_170 : decode cX10_needShares 170 = .ok (.iaload, 1) := by decide +kernel
theorem dX10_needShares_171 : decode cX10_needShares 171 = .ok (.aload_n 0, 1) := by decide +kernel
theorem dX10_needShares_172 : decode cX10_needShares 172 = .ok (.getfield 7, 3) := by decide +kernel
theorem dX10_needShares_175 : decode cX10_needShares 175 = .ok (.iload_n 3, 1) := by decide +kernel
theorem dX10_needShares_176 : decode cX10_needShares 176 = .ok (.iaload, 1) := by decide +kernel
theorem dX10_needShares_177 : decode cX10_needShares 177 = .ok (.i2l, 1) := by decide +kernel
theorem dX10_needShares_178 : decode cX10_needShares 178 = .ok (.aload_n 0, 1) := by decide +kernel
theorem dX10_needShares_179 : decode cX10_needShares 179 = .ok (.getfield 7, 3) := by decide +kernel
theorem dX10_needShares_182 : decode cX10_needShares 182 = .ok (.iload 4, 2) := by decide +kernel
theorem dX10_needShares_184 : decode cX10_needShares 184 = .ok (.iaload, 1) := by decide +kernel
theorem dX10_needShares_185 : decode cX10_needShares 185 = .ok (.i2l, 1) := by decide +kernel
theorem dX10_needShares_186 : decode cX10_needShares 186 = .ok (.lmul, 1) := by decide +kernel
theorem dX10_needShares_187 : decode cX10_needShares 187 = .ok (.lload 5, 2) := by decide +kernel
theorem dX10_needShares_189 : decode cX10_needShares 189 = .ok (.invokevirtual 85, 3) := by decide +kernel
theorem dX10_needShares_192 : decode cX10_needShares 192 = .ok (.iinc 4 1, 3) := by decide +kernel
theorem dX10_needShares_195 : decode cX10_needShares 195 = .ok (.goto (-109), 3) := by decide +kernel
theorem dX10_needShares_198 : decode cX10_needShares 198 = .ok (.iinc 3 1, 3) := by decide +kernel
theorem dX10_needShares_201 : decode cX10_needShares 201 = .ok (.goto (-137), 3) := by decide +kernel
theorem dX10_needShares_204 : decode cX10_needShares 204 = .ok (.iinc 2 1, 3) := by decide +kernel
theorem dX10_needShares_207 : decode cX10_needShares 207 = .ok (.goto (-157), 3) := by decide +kernel
theorem dX10_needShares_210 : decode cX10_needShares 210 = .ok (.aload_n 0, 1) := by decide +kernel
theorem dX10_needShares_211 : decode cX10_needShares 211 = .ok (.getfield 16, 3) := by decide +kernel
theorem dX10_needShares_214 : decode cX10_needShares 214 = .ok (.iload_n 1, 1) := by decide +kernel
theorem dX10_needShares_215 : decode cX10_needShares 215 = .ok (.iconst 1, 1) := by decide +kernel
theorem dX10_needShares_216 : decode cX10_needShares 216 = .ok (.iadd, 1) := by decide +kernel
theorem dX10_needShares_217 : decode cX10_needShares 217 = .ok (.aload_n 0, 1) := by decide +kernel
theorem dX10_needShares_218 : decode cX10_needShares 218 = .ok (.getfield 78, 3) := by decide +kernel
theorem dX10_needShares_221 : decode cX10_needShares 221 = .ok (.iastore, 1) := by decide +kernel
theorem dX10_needShares_222 : decode cX10_needShares 222 = .ok (.iinc 1 1, 3) := by decide +kernel
theorem dX10_needShares_225 : decode cX10_needShares 225 = .ok (.goto (-205), 3) := by decide +kernel
theorem dX10_needShares_228 : decode cX10_needShares 228 = .ok (.return_, 1) := by decide +kernel
set_option maxRecDepth 20000 in
theorem ggX10_isParts_X10_in : GoodIn wsX10_isParts wsX10_in := goodIn_r _ [4] (by decide +kernel) (by decide +kernel)
set_option maxRecDepth 20000 in
theorem gX10_isParts_X10_in : GoodIn wsX10_isParts (va_wsS RX10 89 yX10_in wsX10_in) := goodIn_app (goodIn_of _ (by decide +kernel)) ggX10_isParts_X10_in
theorem dX10_isParts_0 : decode cX10_isParts 0 = .ok (.iload_n 0, 1) := by decide +kernel
theorem dX10_isParts_1 : decode cX10_isParts 1 = .ok (.iconst 1, 1) := by decide +kernel
theorem dX10_isParts_2 : decode cX10_isParts 2 = .ok (.bipush 9, 2) := by decide +kernel
theorem dX10_isParts_4 : decode cX10_isParts 4 = .ok (.invokestatic 89, 3) := by decide +kernel
theorem dX10_isParts_7 : decode cX10_isParts 7 = .ok (.ireturn, 1) := by decide +kernel
set_option maxRecDepth 20000 in
theorem ggX10_countOf_X10_needShares : GoodIn wsX10_countOf wsX10_needShares := goodIn_r _ [6, 7, 8, 1, 9, 10, 11, 12, 13, 5, 14, 15, 16, 17, 18, 19, 20, 21, 22, 23, 24, 25, 26, 27, 28, 29, 30, 31, 32, 33, 34, 35, 36, 37, 38, 39, 40, 41, 42, 43, 44, 45, 46, 47] (by decide +kernel) (by decide +kernel)
set_option maxRecDepth 20000 in
theorem gX10_countOf_X10_needShares : GoodIn wsX10_countOf (wsV RX10 93 RX10 yX10_needShares wsX10_needShares) := goodIn_app (goodIn_of _ (by decide +kernel)) ggX10_countOf_X10_needShares
theorem dX10_countOf_0 : decode cX10_countOf 0 = .ok (.aload_n 0, 1) := by decide +kernel
theorem dX10_countOf_1 : decode cX10_countOf 1 = .ok (.invokevirtual 93, 3) := by decide +kernel
theorem dX10_countOf_4 : decode cX10_countOf 4 = .ok (.aload_n 0, 1) := by decide +kernel
theorem dX10_countOf_5 : decode cX10_countOf 5 = .ok (.getfield 16, 3) := by decide +kernel
theorem dX10_countOf_8 : decode cX10_countOf 8 = .ok (.iload_n 1, 1) := by decide +kernel
theorem dX10_countOf_9 : decode cX10_countOf 9 = .ok (.iconst 1, 1) := by decide +kernel
theorem dX10_countOf_10 : decode cX10_countOf 10 = .ok (.iadd, 1) := by decide +kernel
theorem dX10_countOf_11 : decode cX10_countOf 11 = .ok (.iaload, 1) := by decide +kernel
theorem dX10_countOf_12 : decode cX10_countOf 12 = .ok (.aload_n 0, 1) := by decide +kernel
theorem dX10_countOf_13 : decode cX10_countOf 13 = .ok (.getfield 16, 3) := by decide +kernel
theorem dX10_countOf_16 : decode cX10_countOf 16 = .ok (.iload_n 1, 1) := by decide +kernel
theorem dX10_countOf_17 : decode cX10_countOf 17 = .ok (.iaload, 1) := by decide +kernel
theorem dX10_countOf_18 : decode cX10_countOf 18 = .ok (.isub, 1) := by decide +kernel
theorem dX10_countOf_19 : decode cX10_countOf 19 = .ok (.ireturn, 1) := by decide +kernel
set_option maxRecDepth 20000 in
theorem ggX10_isShare_X10_isParts : GoodIn wsX10_isShare wsX10_isParts := goodIn_r _ [4, 5, 6, 3, 7] (by decide +kernel) (by decide +kernel)
set_option maxRecDepth 20000 in
theorem gX10_isShare_X10_isParts : GoodIn wsX10_isShare (va_wsS RX10 96 yX10_isParts wsX10_isParts) := goodIn_app (goodIn_of _ (by decide +kernel)) ggX10_isShare_X10_isParts
set_option maxRecDepth 20000 in
theorem ggX10_isShare_X10_countOf : GoodIn wsX10_isShare wsX10_countOf := goodIn_r _ [11, 12, 13, 14, 15, 3, 16, 17, 18, 19, 20, 21, 22, 23, 24, 25, 26, 27, 28, 29, 30, 31, 32, 33, 34, 35, 36, 37, 38, 39, 40, 41, 42, 43, 44, 45, 46, 47, 48, 49, 50, 51, 52, 53, 54, 55, 56, 57] (by decide +kernel) (by decide +kernel)
set_option maxRecDepth 20000 in
theorem gX10_isShare_X10_countOf : GoodIn wsX10_isShare (wsV RX10 100 RX10 yX10_countOf wsX10_countOf) := goodIn_app (goodIn_of _ (by decide +kernel)) ggX10_isShare_X10_countOf
set_option maxRecDepth 20000 in
theorem ggX10_isShare_X10_in : GoodIn wsX10_isShare wsX10_in := goodIn_r _ [7] (by decide +kernel) (by decide +kernel)
set_option maxRecDepth 20000 in
theorem gX10_isShare_X10_in : GoodIn wsX10_isShare (va_wsS RX10 89 yX10_in wsX10_in) := goodIn_app (goodIn_of _ (by decide +kernel)) ggX10_isShare_X10_in
theorem dX10_isShare_0 : decode cX10_isShare 0 = .ok (.iload_n 1, 1) := by decide +kernel
theorem dX10_isShare_1 : decode cX10_isShare 1 = .ok (.invokestatic 96, 3) := by decide +kernel
theorem dX10_isShare_4 : decode cX10_isShare 4 = .ok (.ifCond .eq 22, 3) := by decide +kernel
theorem dX10_isShare_7 : decode cX10_isShare 7 = .ok (.iload_n 2, 1) := by decide +kernel
theorem dX10_isShare_8 : decode cX10_isShare 8 = .ok (.iconst 0, 1) := by decide +kernel
theorem dX10_isShare_9 : decode cX10_isShare 9 = .ok (.aload_n 0, 1) := by decide +kernel
theorem dX10_isShare_10 : decode cX10_isShare 10 = .ok (.iload_n 1, 1) := by decide +kernel
theorem dX10_isShare_11 : decode cX10_isShare 11 = .ok (.invokevirtual 100, 3) := by decide +kernel
theorem dX10_isShare_14 : decode cX10_isShare 14 = .ok (.iconst 1, 1) := by decide +kernel
theorem dX10_isShare_15 : decode cX10_isShare 15 = .ok (.isub, 1) := by decide +kernel
theorem dX10_isShare_16 : decode cX10_isShare 16 = .ok (.invokestatic 89, 3) := by decide +kernel
theorem dX10_isShare_19 : decode cX10_isShare 19 = .ok (.ifCond .eq 7, 3) := by decide +kernel
theorem dX10_isShare_22 : decode cX10_isShare 22 = .ok (.iconst 1, 1) := by decide +kernel
theorem dX10_isShare_23 : decode cX10_isShare 23 = .ok (.goto 4, 3) := by decide +kernel
theorem dX10_isShare_26 : decode cX10_isShare 26 = .ok (.iconst 0, 1) := by decide +kernel
theorem dX10_isShare_27 : decode cX10_isShare 27 = .ok (.ireturn, 1) := by decide +kernel
set_option maxRecDepth 20000 in
theorem ggX10_rankOf_X10_needShares : GoodIn wsX10_rankOf wsX10_needShares := goodIn_r _ [8, 9, 10, 1, 3, 2, 11, 12, 13, 7, 14, 15, 16, 17, 18, 19, 20, 21, 22, 23, 24, 25, 26, 27, 28, 29, 30, 31, 32, 33, 34, 35, 36, 37, 38, 39, 40, 41, 42, 43, 44, 45, 46, 47] (by decide +kernel) (by decide +kernel)
set_option maxRecDepth 20000 in
theorem gX10_rankOf_X10_needShares : GoodIn wsX10_rankOf (wsV RX10 93 RX10 yX10_needShares wsX10_needShares) := goodIn_app (goodIn_of _ (by decide +kernel)) ggX10_rankOf_X10_needShares
theorem dX10_rankOf_0 : decode cX10_rankOf 0 = .ok (.aload_n 0, 1) := by decide +kernel
theorem dX10_rankOf_1 : decode cX10_rankOf 1 = .ok (.invokevirtual 93, 3) := by decide +kernel
theorem dX10_rankOf_4 : decode cX10_rankOf 4 = .ok (.aload_n 0, 1) := by decide +kernel
theorem dX10_rankOf_5 : decode cX10_rankOf 5 = .ok (.getfield 16, 3) := by decide +kernel
theorem dX10_rankOf_8 : decode cX10_rankOf 8 = .ok (.iload_n 1, 1) := by decide +kernel
theorem dX10_rankOf_9 : decode cX10_rankOf 9 = .ok (.iaload, 1) := by decide +kernel
theorem dX10_rankOf_10 : decode cX10_rankOf 10 = .ok (.istore 6, 2) := by decide +kernel
theorem dX10_rankOf_12 : decode cX10_rankOf 12 = .ok (.iload 6, 2) := by decide +kernel
theorem dX10_rankOf_14 : decode cX10_rankOf 14 = .ok (.aload_n 0, 1) := by decide +kernel
theorem dX10_rankOf_15 : decode cX10_rankOf 15 = .ok (.getfield 16, 3) := by decide +kernel
theorem dX10_rankOf_18 : decode cX10_rankOf 18 = .ok (.iload_n 1, 1) := by decide +kernel
theorem dX10_rankOf_19 : decode cX10_rankOf 19 = .ok (.iconst 1, 1) := by decide +kernel
theorem dX10_rankOf_20 : decode cX10_rankOf 20 = .ok (.iadd, 1) := by decide +kernel
theorem dX10_rankOf_21 : decode cX10_rankOf 21 = .ok (.iaload, 1) := by decide +kernel
theorem dX10_rankOf_22 : decode cX10_rankOf 22 = .ok (.if_icmp .ge 44, 3) := by decide +kernel
theorem dX10_rankOf_25 : decode cX10_rankOf 25 = .ok (.lload_n 2, 1) := by decide +kernel
theorem dX10_rankOf_26 : decode cX10_rankOf 26 = .ok (.aload_n 0, 1) := by decide +kernel
theorem dX10_rankOf_27 : decode cX10_rankOf 27 = .ok (.getfield 13, 3) := by decide +kernel
theorem dX10_rankOf_30 : decode cX10_rankOf 30 = .ok (.iload 6, 2) := by decide +kernel
theorem dX10_rankOf_32 : decode cX10_rankOf 32 = .ok (.iaload, 1) := by decide +kernel
theorem dX10_rankOf_33 : decode cX10_rankOf 33 = .ok (.i2l, 1) := by decide +kernel
theorem dX10_rankOf_34 : decode cX10_rankOf 34 = .ok (.lmul, 1) := by decide +kernel
theorem dX10_rankOf_35 : decode cX10_rankOf 35 = .ok (.lload 4, 2) := by decide +kernel
theorem dX10_rankOf_37 : decode cX10_rankOf 37 = .ok (.aload_n 0, 1) := by decide +kernel
theorem dX10_rankOf_38 : decode cX10_rankOf 38 = .ok (.getfield 7, 3) := by decide +kernel
theorem dX10_rankOf_41 : decode cX10_rankOf 41 = .ok (.iload 6, 2) := by decide +kernel
theorem dX10_rankOf_43 : decode cX10_rankOf 43 = .ok (.iaload, 1) := by decide +kernel
theorem dX10_rankOf_44 : decode cX10_rankOf 44 = .ok (.i2l, 1) := by decide +kernel
theorem dX10_rankOf_45 : decode cX10_rankOf 45 = .ok (.lmul, 1) := by decide +kernel
theorem dX10_rankOf_46 : decode cX10_rankOf 46 = .ok (.lcmp, 1) := by decide +kernel
theorem dX10_rankOf_47 : decode cX10_rankOf 47 = .ok (.ifCond .ne 13, 3) := by decide +kernel
theorem dX10_rankOf_50 : decode cX10_rankOf 50 = .ok (.iload 6, 2) := by decide +kernel
theorem dX10_rankOf_52 : decode cX10_rankOf 52 = .ok (.aload_n 0, 1) := by decide +kernel
theorem dX10_rankOf_53 : decode cX10_rankOf 53 = .ok (.getfield 16, 3) := by decide +kernel
theorem dX10_rankOf_56 : decode cX10_rankOf 56 = .ok (.iload_n 1, 1) := by decide +kernel
theorem dX10_rankOf_57 : decode cX10_rankOf 57 = .ok (.iaload, 1) := by decide +kernel
theorem dX10_rankOf_58 : decode cX10_rankOf 58 = .ok (.isub, 1) := by decide +kernel
theorem dX10_rankOf_59 : decode cX10_rankOf 59 = .ok (.ireturn, 1) := by decide +kernel
theorem dX10_rankOf_60 : decode cX10_rankOf 60 = .ok (.iinc 6 1, 3) := by decide +kernel
theorem dX10_rankOf_63 : decode cX10_rankOf 63 = .ok (.goto (-51), 3) := by decide +kernel
theorem dX10_rankOf_66 : decode cX10_rankOf 66 = .ok (.bipush (-9), 2) := by decide +kernel
theorem dX10_rankOf_68 : decode cX10_rankOf 68 = .ok (.ireturn, 1) := by decide +kernel
set_option maxRecDepth 20000 in
theorem ggX10_many_X10_isParts : GoodIn wsX10_many wsX10_isParts := goodIn_r _ [5, 6, 7, 4, 8] (by decide +kernel) (by decide +kernel)
set_option maxRecDepth 20000 in
theorem gX10_many_X10_isParts : GoodIn wsX10_many (va_wsS RX10 96 yX10_isParts wsX10_isParts) := goodIn_app (goodIn_of _ (by decide +kernel)) ggX10_many_X10_isParts
set_option maxRecDepth 20000 in
theorem ggX10_many_X10_countOf : GoodIn wsX10_many wsX10_countOf := goodIn_r _ [12, 13, 14, 15, 16, 4, 17, 18, 19, 20, 21, 22, 23, 24, 25, 26, 27, 28, 29, 30, 31, 32, 33, 34, 35, 36, 37, 38, 39, 40, 41, 42, 43, 44, 45, 46, 47, 48, 49, 50, 51, 52, 53, 54, 55, 56, 57, 58] (by decide +kernel) (by decide +kernel)
set_option maxRecDepth 20000 in
theorem gX10_many_X10_countOf : GoodIn wsX10_many (wsV RX10 100 RX10 yX10_countOf wsX10_countOf) := goodIn_app (goodIn_of _ (by decide +kernel)) ggX10_many_X10_countOf
theorem dX10_many_0 : decode cX10_many 0 = .ok (.aload_n 0, 1) := by decide +kernel
theorem dX10_many_1 : decode cX10_many 1 = .ok (.iconst 0, 1) := by decide +kernel
theorem dX10_many_2 : decode cX10_many 2 = .ok (.putfield 59, 3) := by decide +kernel
theorem dX10_many_5 : decode cX10_many 5 = .ok (.iload_n 1, 1) := by decide +kernel
theorem dX10_many_6 : decode cX10_many 6 = .ok (.invokestatic 96, 3) := by decide +kernel
theorem dX10_many_9 : decode cX10_many 9 = .ok (.ifCond .eq 11, 3) := by decide +kernel
theorem dX10_many_12 : decode cX10_many 12 = .ok (.aload_n 0, 1) := by decide +kernel
theorem dX10_many_13 : decode cX10_many 13 = .ok (.iload_n 1, 1) := by decide +kernel
theorem dX10_many_14 : decode cX10_many 14 = .ok (.invokevirtual 100, 3) := by decide +kernel
theorem dX10_many_17 : decode cX10_many 17 = .ok (.goto 4, 3) := by decide +kernel
theorem dX10_many_20 : decode cX10_many 20 = .ok (.iconst (-1), 1) := by decide +kernel
theorem dX10_many_21 : decode cX10_many 21 = .ok (.ireturn, 1) := by decide +kernel
set_option maxRecDepth 20000 in
theorem ggX10_share_X10_isShare : GoodIn wsX10_share wsX10_isShare := goodIn_r _ [9, 10, 11, 8, 12, 13, 14, 15, 16, 17, 18, 19, 3, 20, 21, 22, 23, 24, 25, 2, 4, 26, 27, 28, 29, 30, 31, 32, 33, 34, 35, 36, 37, 38, 39, 40, 41, 42, 43, 44, 45, 46, 47, 48, 49, 50, 51, 52, 53, 54, 55, 56, 57, 58, 59, 60, 61, 62] (by decide +kernel) (by decide +kernel)
set_option maxRecDepth 20000 in
theorem gX10_share_X10_isShare : GoodIn wsX10_share (wsV RX10 104 RX10 yX10_isShare wsX10_isShare) := goodIn_app (goodIn_of _ (by decide +kernel)) ggX10_share_X10_isShare
set_option maxRecDepth 20000 in
theorem ggX10_share_X10_in : GoodIn wsX10_share wsX10_in := goodIn_r _ [15] (by decide +kernel) (by decide +kernel)
set_option maxRecDepth 20000 in
theorem gX10_share_X10_in : GoodIn wsX10_share (va_wsS RX10 89 yX10_in wsX10_in) := goodIn_app (goodIn_of _ (by decide +kernel)) ggX10_share_X10_in
theorem dX10_share_0 : decode cX10_share 0 = .ok (.aload_n 0, 1) := by decide +kernel
theorem dX10_share_1 : decode cX10_share 1 = .ok (.iconst 0, 1) := by decide +kernel
theorem dX10_share_2 : decode cX10_share 2 = .ok (.putfield 59, 3) := by decide +kernel
theorem dX10_share_5 : decode cX10_share 5 = .ok (.aload_n 0, 1) := by decide +kernel
theorem dX10_share_6 : decode cX10_share 6 = .ok (.iload_n 1, 1) := by decide +kernel
theorem dX10_share_7 : decode cX10_share 7 = .ok (.iload_n 2, 1) := by decide +kernel
theorem dX10_share_8 : decode cX10_share 8 = .ok (.invokevirtual 104, 3) := by decide +kernel
theorem dX10_share_11 : decode cX10_share 11 = .ok (.ifCond .eq 12, 3) := by decide +kernel
theorem dX10_share_14 : decode cX10_share 14 = .ok (.iload_n 3, 1) := by decide +kernel
theorem dX10_share_15 : decode cX10_share 15 = .ok (.iconst 0, 1) := by decide +kernel
theorem dX10_share_16 : decode cX10_share 16 = .ok (.iconst 1, 1) := by decide +kernel
theorem dX10_share_17 : decode cX10_share 17 = .ok (.invokestatic 89, 3) := by decide +kernel
theorem dX10_share_20 : decode cX10_share 20 = .ok (.ifCond .ne 5, 3) := by decide +kernel
theorem dX10_share_23 : decode cX10_share 23 = .ok (.iconst (-1), 1) := by decide +kernel
theorem dX10_share_24 : decode cX10_share 24 = .ok (.ireturn, 1) := by decide +kernel
theorem dX10_share_25 : decode cX10_share 25 = .ok (.iload_n 3, 1) := by decide +kernel
theorem dX10_share_26 : decode cX10_share 26 = .ok (.ifCond .ne 19, 3) := by decide +kernel
theorem dX10_share_29 : decode cX10_share 29 = .ok (.aload_n 0, 1) := by decide +kernel
end
section
theorem dX10_share_30 : decode cX10_share 30 = .ok (.getfield 7, 3) := by decide +kernel
theorem dX10_share_33 : decode cX10_share 33 = .ok (.aload_n 0, 1) := by decide +kernel
theorem dX10_share_34 : decode cX10_share 34 = .ok (.getfield 16, 3) := by decide +kernel
theorem dX10_share_37 : decode cX10_share 37 = .ok (.iload_n 1, 1) := by decide +kernel
theorem dX10_share_38 : decode cX10_share 38 = .ok (.iaload, 1) := by decide +kernel
theorem dX10_share_39 : decode cX10_share 39 = .ok (.iload_n 2, 1) := by decide +kernel
theorem dX10_share_40 : decode cX10_share 40 = .ok (.iadd, 1) := by decide +kernel
theorem dX10_share_41 : decode cX10_share 41 = .ok (.iaload, 1) := by decide +kernel
theorem dX10_share_42 : decode cX10_share 42 = .ok (.goto 16, 3) := by decide +kernel
theorem dX10_share_45 : decode cX10_share 45 = .ok (.aload_n 0, 1) := by decide +kernel
theorem dX10_share_46 : decode cX10_share 46 = .ok (.getfield 13, 3) := by decide +kernel
theorem dX10_share_49 : decode cX10_share 49 = .ok (.aload_n 0, 1) := by decide +kernel
theorem dX10_share_50 : decode cX10_share 50 = .ok (.getfield 16, 3) := by decide +kernel
theorem dX10_share_53 : decode cX10_share 53 = .ok (.iload_n 1, 1) := by decide +kernel
theorem dX10_share_54 : decode cX10_share 54 = .ok (.iaload, 1) := by decide +kernel
theorem dX10_share_55 : decode cX10_share 55 = .ok (.iload_n 2, 1) := by decide +kernel
theorem dX10_share_56 : decode cX10_share 56 = .ok (.iadd, 1) := by decide +kernel
theorem dX10_share_57 : decode cX10_share 57 = .ok (.iaload, 1) := by decide +kernel
theorem dX10_share_58 : decode cX10_share 58 = .ok (.ireturn, 1) := by decide +kernel
set_option maxRecDepth 20000 in
theorem ggX10_isFraction_X10_in : GoodIn wsX10_isFraction wsX10_in := goodIn_r _ [5] (by decide +kernel) (by decide +kernel)
set_option maxRecDepth 20000 in
theorem gX10_isFraction_X10_in : GoodIn wsX10_isFraction (va_wsS RX10 89 yX10_in wsX10_in) := goodIn_app (goodIn_of _ (by decide +kernel)) ggX10_isFraction_X10_in
theorem dX10_isFraction_0 : decode cX10_isFraction 0 = .ok (.iload_n 0, 1) := by decide +kernel
theorem dX10_isFraction_1 : decode cX10_isFraction 1 = .ok (.iconst 1, 1) := by decide +kernel
theorem dX10_isFraction_2 : decode cX10_isFraction 2 = .ok (.ldc 108, 2) := by decide +kernel
theorem dX10_isFraction_4 : decode cX10_isFraction 4 = .ok (.invokestatic 89, 3) := by decide +kernel
theorem dX10_isFraction_7 : decode cX10_isFraction 7 = .ok (.ifCond .eq 17, 3) := by decide +kernel
theorem dX10_isFraction_10 : decode cX10_isFraction 10 = .ok (.iload_n 1, 1) := by decide +kernel
theorem dX10_isFraction_11 : decode cX10_isFraction 11 = .ok (.iconst 1, 1) := by decide +kernel
theorem dX10_isFraction_12 : decode cX10_isFraction 12 = .ok (.ldc 108, 2) := by decide +kernel
theorem dX10_isFraction_14 : decode cX10_isFraction 14 = .ok (.invokestatic 89, 3) := by decide +kernel
theorem dX10_isFraction_17 : decode cX10_isFraction 17 = .ok (.ifCond .eq 7, 3) := by decide +kernel
theorem dX10_isFraction_20 : decode cX10_isFraction 20 = .ok (.iconst 1, 1) := by decide +kernel
theorem dX10_isFraction_21 : decode cX10_isFraction 21 = .ok (.goto 4, 3) := by decide +kernel
theorem dX10_isFraction_24 : decode cX10_isFraction 24 = .ok (.iconst 0, 1) := by decide +kernel
theorem dX10_isFraction_25 : decode cX10_isFraction 25 = .ok (.ireturn, 1) := by decide +kernel
set_option maxRecDepth 20000 in
theorem ggX10_rank_X10_isParts : GoodIn wsX10_rank wsX10_isParts := goodIn_r _ [5, 6, 7, 4, 8] (by decide +kernel) (by decide +kernel)
set_option maxRecDepth 20000 in
theorem gX10_rank_X10_isParts : GoodIn wsX10_rank (va_wsS RX10 96 yX10_isParts wsX10_isParts) := goodIn_app (goodIn_of _ (by decide +kernel)) ggX10_rank_X10_isParts
set_option maxRecDepth 20000 in
theorem ggX10_rank_X10_isFraction : GoodIn wsX10_rank wsX10_isFraction := goodIn_r _ [11, 12, 6, 7, 4, 8] (by decide +kernel) (by decide +kernel)
set_option maxRecDepth 20000 in
theorem gX10_rank_X10_isFraction : GoodIn wsX10_rank (va_wsS RX10 109 yX10_isFraction wsX10_isFraction) := goodIn_app (goodIn_of _ (by decide +kernel)) ggX10_rank_X10_isFraction
set_option maxRecDepth 20000 in
theorem ggX10_rank_X10_rankOf : GoodIn wsX10_rank wsX10_rankOf := goodIn_r _ [16, 17, 18, 19, 20, 21, 22, 4, 23, 24, 25, 26, 27, 28, 29, 30, 31, 32, 33, 34, 35, 36, 37, 38, 39, 40, 41, 42, 43, 44, 45, 46, 47, 48, 49, 50, 51, 52, 53, 54, 55, 56, 57, 58, 59, 60, 61, 62] (by decide +kernel) (by decide +kernel)
set_option maxRecDepth 20000 in
theorem gX10_rank_X10_rankOf : GoodIn wsX10_rank (wsV RX10 112 RX10 yX10_rankOf wsX10_rankOf) := goodIn_app (goodIn_of _ (by decide +kernel)) ggX10_rank_X10_rankOf
theorem dX10_rank_0 : decode cX10_rank 0 = .ok (.aload_n 0, 1) := by decide +kernel
theorem dX10_rank_1 : decode cX10_rank 1 = .ok (.iconst 0, 1) := by decide +kernel
theorem dX10_rank_2 : decode cX10_rank 2 = .ok (.putfield 59, 3) := by decide +kernel
theorem dX10_rank_5 : decode cX10_rank 5 = .ok (.iload_n 1, 1) := by decide +kernel
theorem dX10_rank_6 : decode cX10_rank 6 = .ok (.invokestatic 96, 3) := by decide +kernel
theorem dX10_rank_9 : decode cX10_rank 9 = .ok (.ifCond .eq 23, 3) := by decide +kernel
theorem dX10_rank_12 : decode cX10_rank 12 = .ok (.iload_n 2, 1) := by decide +kernel
theorem dX10_rank_13 : decode cX10_rank 13 = .ok (.iload_n 3, 1) := by decide +kernel
theorem dX10_rank_14 : decode cX10_rank 14 = .ok (.invokestatic 109, 3) := by decide +kernel
theorem dX10_rank_17 : decode cX10_rank 17 = .ok (.ifCond .eq 15, 3) := by decide +kernel
theorem dX10_rank_20 : decode cX10_rank 20 = .ok (.aload_n 0, 1) := by decide +kernel
theorem dX10_rank_21 : decode cX10_rank 21 = .ok (.iload_n 1, 1) := by decide +kernel
theorem dX10_rank_22 : decode cX10_rank 22 = .ok (.iload_n 2, 1) := by decide +kernel
theorem dX10_rank_23 : decode cX10_rank 23 = .ok (.i2l, 1) := by decide +kernel
theorem dX10_rank_24 : decode cX10_rank 24 = .ok (.iload_n 3, 1) := by decide +kernel
theorem dX10_rank_25 : decode cX10_rank 25 = .ok (.i2l, 1) := by decide +kernel
theorem dX10_rank_26 : decode cX10_rank 26 = .ok (.invokevirtual 112, 3) := by decide +kernel
theorem dX10_rank_29 : decode cX10_rank 29 = .ok (.goto 4, 3) := by decide +kernel
theorem dX10_rank_32 : decode cX10_rank 32 = .ok (.iconst (-1), 1) := by decide +kernel
theorem dX10_rank_33 : decode cX10_rank 33 = .ok (.ireturn, 1) := by decide +kernel
set_option maxRecDepth 20000 in
theorem ggX10_fewest_X10_isFraction : GoodIn wsX10_fewest wsX10_isFraction := goodIn_r _ [5, 6, 7, 8, 4, 9] (by decide +kernel) (by decide +kernel)
set_option maxRecDepth 20000 in
theorem gX10_fewest_X10_isFraction : GoodIn wsX10_fewest (va_wsS RX10 109 yX10_isFraction wsX10_isFraction) := goodIn_app (goodIn_of _ (by decide +kernel)) ggX10_fewest_X10_isFraction
set_option maxRecDepth 20000 in
theorem ggX10_fewest_X10_rankOf : GoodIn wsX10_fewest wsX10_rankOf := goodIn_r _ [13, 14, 15, 16, 17, 18, 19, 4, 20, 21, 22, 23, 24, 25, 26, 27, 28, 29, 30, 31, 32, 33, 34, 35, 36, 37, 38, 39, 40, 41, 42, 43, 44, 45, 46, 47, 48, 49, 50, 51, 52, 53, 54, 55, 56, 57, 58, 59] (by decide +kernel) (by decide +kernel)
set_option maxRecDepth 20000 in
theorem gX10_fewest_X10_rankOf : GoodIn wsX10_fewest (wsV RX10 112 RX10 yX10_rankOf wsX10_rankOf) := goodIn_app (goodIn_of _ (by decide +kernel)) ggX10_fewest_X10_rankOf
theorem dX10_fewest_0 : decode cX10_fewest 0 = .ok (.aload_n 0, 1) := by decide +kernel
theorem dX10_fewest_1 : decode cX10_fewest 1 = .ok (.iconst 0, 1) := by decide +kernel
theorem dX10_fewest_2 : decode cX10_fewest 2 = .ok (.putfield 59, 3) := by decide +kernel
theorem dX10_fewest_5 : decode cX10_fewest 5 = .ok (.iload_n 1, 1) := by decide +kernel
theorem dX10_fewest_6 : decode cX10_fewest 6 = .ok (.iload_n 2, 1) := by decide +kernel
theorem dX10_fewest_7 : decode cX10_fewest 7 = .ok (.invokestatic 109, 3) := by decide +kernel
theorem dX10_fewest_10 : decode cX10_fewest 10 = .ok (.ifCond .ne 5, 3) := by decide +kernel
theorem dX10_fewest_13 : decode cX10_fewest 13 = .ok (.iconst (-1), 1) := by decide +kernel
theorem dX10_fewest_14 : decode cX10_fewest 14 = .ok (.ireturn, 1) := by decide +kernel
theorem dX10_fewest_15 : decode cX10_fewest 15 = .ok (.iconst 1, 1) := by decide +kernel
theorem dX10_fewest_16 : decode cX10_fewest 16 = .ok (.istore_n 3, 1) := by decide +kernel
theorem dX10_fewest_17 : decode cX10_fewest 17 = .ok (.iload_n 3, 1) := by decide +kernel
theorem dX10_fewest_18 : decode cX10_fewest 18 = .ok (.bipush 10, 2) := by decide +kernel
theorem dX10_fewest_20 : decode cX10_fewest 20 = .ok (.if_icmp .ge 23, 3) := by decide +kernel
theorem dX10_fewest_23 : decode cX10_fewest 23 = .ok (.aload_n 0, 1) := by decide +kernel
theorem dX10_fewest_24 : decode cX10_fewest 24 = .ok (.iload_n 3, 1) := by decide +kernel
theorem dX10_fewest_25 : decode cX10_fewest 25 = .ok (.iload_n 1, 1) := by decide +kernel
theorem dX10_fewest_26 : decode cX10_fewest 26 = .ok (.i2l, 1) := by decide +kernel
theorem dX10_fewest_27 : decode cX10_fewest 27 = .ok (.iload_n 2, 1) := by decide +kernel
theorem dX10_fewest_28 : decode cX10_fewest 28 = .ok (.i2l, 1) := by decide +kernel
theorem dX10_fewest_29 : decode cX10_fewest 29 = .ok (.invokevirtual 112, 3) := by decide +kernel
theorem dX10_fewest_32 : decode cX10_fewest 32 = .ok (.ifCond .lt 5, 3) := by decide +kernel
theorem dX10_fewest_35 : decode cX10_fewest 35 = .ok (.iload_n 3, 1) := by decide +kernel
theorem dX10_fewest_36 : decode cX10_fewest 36 = .ok (.ireturn, 1) := by decide +kernel
theorem dX10_fewest_37 : decode cX10_fewest 37 = .ok (.iinc 3 1, 3) := by decide +kernel
theorem dX10_fewest_40 : decode cX10_fewest 40 = .ok (.goto (-23), 3) := by decide +kernel
theorem dX10_fewest_43 : decode cX10_fewest 43 = .ok (.bipush (-9), 2) := by decide +kernel
theorem dX10_fewest_45 : decode cX10_fewest 45 = .ok (.ireturn, 1) := by decide +kernel
set_option maxRecDepth 20000 in
theorem ggX10_made_X10_isShare : GoodIn wsX10_made wsX10_isShare := goodIn_r _ [9, 10, 11, 8, 12, 13, 14, 15, 16, 17, 18, 19, 2, 20, 21, 22, 23, 24, 25, 3, 4, 26, 27, 28, 29, 30, 31, 32, 33, 34, 35, 36, 37, 38, 43, 44, 45, 46, 47, 48, 49, 50, 51, 52, 53, 54, 55, 56, 57, 58, 59, 60, 61, 62, 63, 64, 65, 66] (by decide +kernel) (by decide +kernel)
set_option maxRecDepth 20000 in
theorem gX10_made_X10_isShare : GoodIn wsX10_made (wsV RX10 104 RX10 yX10_isShare wsX10_isShare) := goodIn_app (goodIn_of _ (by decide +kernel)) ggX10_made_X10_isShare
set_option maxRecDepth 20000 in
theorem ggX10_made_X10_in : GoodIn wsX10_made wsX10_in := goodIn_r _ [15] (by decide +kernel) (by decide +kernel)
set_option maxRecDepth 20000 in
theorem gX10_made_X10_in : GoodIn wsX10_made (va_wsS RX10 89 yX10_in wsX10_in) := goodIn_app (goodIn_of _ (by decide +kernel)) ggX10_made_X10_in
set_option maxRecDepth 20000 in
theorem ggX10_made_X10_rankOf : GoodIn wsX10_made wsX10_rankOf := goodIn_r _ [42, 2, 4, 3, 20, 21, 22, 8, 23, 24, 25, 26, 27, 28, 29, 30, 31, 32, 33, 34, 35, 36, 37, 38, 43, 44, 45, 46, 47, 48, 49, 50, 51, 52, 53, 54, 55, 56, 57, 58, 59, 60, 61, 62, 63, 64, 65, 66] (by decide +kernel) (by decide +kernel)
set_option maxRecDepth 20000 in
theorem gX10_made_X10_rankOf : GoodIn wsX10_made (wsV RX10 112 RX10 yX10_rankOf wsX10_rankOf) := goodIn_app (goodIn_of _ (by decide +kernel)) ggX10_made_X10_rankOf
theorem dX10_made_0 : decode cX10_made 0 = .ok (.aload_n 0, 1) := by decide +kernel
theorem dX10_made_1 : decode cX10_made 1 = .ok (.iconst 0, 1) := by decide +kernel
theorem dX10_made_2 : decode cX10_made 2 = .ok (.putfield 59, 3) := by decide +kernel
theorem dX10_made_5 : decode cX10_made 5 = .ok (.aload_n 0, 1) := by decide +kernel
theorem dX10_made_6 : decode cX10_made 6 = .ok (.iload_n 1, 1) := by decide +kernel
theorem dX10_made_7 : decode cX10_made 7 = .ok (.iload_n 2, 1) := by decide +kernel
theorem dX10_made_8 : decode cX10_made 8 = .ok (.invokevirtual 104, 3) := by decide +kernel
theorem dX10_made_11 : decode cX10_made 11 = .ok (.ifCond .eq 12, 3) := by decide +kernel
theorem dX10_made_14 : decode cX10_made 14 = .ok (.iload_n 3, 1) := by decide +kernel
theorem dX10_made_15 : decode cX10_made 15 = .ok (.iconst 0, 1) := by decide +kernel
theorem dX10_made_16 : decode cX10_made 16 = .ok (.iconst 3, 1) := by decide +kernel
theorem dX10_made_17 : decode cX10_made 17 = .ok (.invokestatic 89, 3) := by decide +kernel
theorem dX10_made_20 : decode cX10_made 20 = .ok (.ifCond .ne 5, 3) := by decide +kernel
theorem dX10_made_23 : decode cX10_made 23 = .ok (.iconst (-1), 1) := by decide +kernel
theorem dX10_made_24 : decode cX10_made 24 = .ok (.ireturn, 1) := by decide +kernel
theorem dX10_made_25 : decode cX10_made 25 = .ok (.iload_n 1, 1) := by decide +kernel
theorem dX10_made_26 : decode cX10_made 26 = .ok (.iconst 1, 1) := by decide +kernel
theorem dX10_made_27 : decode cX10_made 27 = .ok (.if_icmp .ne 14, 3) := by decide +kernel
theorem dX10_made_30 : decode cX10_made 30 = .ok (.iload_n 3, 1) := by decide +kernel
theorem dX10_made_31 : decode cX10_made 31 = .ok (.ifCond .ne 7, 3) := by decide +kernel
theorem dX10_made_34 : decode cX10_made 34 = .ok (.iconst 0, 1) := by decide +kernel
theorem dX10_made_35 : decode cX10_made 35 = .ok (.goto 5, 3) := by decide +kernel
theorem dX10_made_38 : decode cX10_made 38 = .ok (.bipush (-9), 2) := by decide +kernel
theorem dX10_made_40 : decode cX10_made 40 = .ok (.ireturn, 1) := by decide +kernel
theorem dX10_made_41 : decode cX10_made 41 = .ok (.aload_n 0, 1) := by decide +kernel
theorem dX10_made_42 : decode cX10_made 42 = .ok (.getfield 16, 3) := by decide +kernel
theorem dX10_made_45 : decode cX10_made 45 = .ok (.iload_n 1, 1) := by decide +kernel
theorem dX10_made_46 : decode cX10_made 46 = .ok (.iaload, 1) := by decide +kernel
theorem dX10_made_47 : decode cX10_made 47 = .ok (.iload_n 2, 1) := by decide +kernel
theorem dX10_made_48 : decode cX10_made 48 = .ok (.iadd, 1) := by decide +kernel
theorem dX10_made_49 : decode cX10_made 49 = .ok (.istore 4, 2) := by decide +kernel
theorem dX10_made_51 : decode cX10_made 51 = .ok (.iconst 0, 1) := by decide +kernel
theorem dX10_made_52 : decode cX10_made 52 = .ok (.istore 5, 2) := by decide +kernel
theorem dX10_made_54 : decode cX10_made 54 = .ok (.iload 5, 2) := by decide +kernel
theorem dX10_made_56 : decode cX10_made 56 = .ok (.iconst 2, 1) := by decide +kernel
theorem dX10_made_57 : decode cX10_made 57 = .ok (.if_icmp .ge 271, 3) := by decide +kernel
theorem dX10_made_60 : decode cX10_made 60 = .ok (.iload 5, 2) := by decide +kernel
theorem dX10_made_62 : decode cX10_made 62 = .ok (.ifCond .ne 14, 3) := by decide +kernel
theorem dX10_made_65 : decode cX10_made 65 = .ok (.aload_n 0, 1) := by decide +kernel
theorem dX10_made_66 : decode cX10_made 66 = .ok (.getfield 7, 3) := by decide +kernel
theorem dX10_made_69 : decode cX10_made 69 = .ok (.iload 4, 2) := by decide +kernel
theorem dX10_made_71 : decode cX10_made 71 = .ok (.iaload, 1) := by decide +kernel
theorem dX10_made_72 : decode cX10_made 72 = .ok (.i2l, 1) := by decide +kernel
theorem dX10_made_73 : decode cX10_made 73 = .ok (.goto 11, 3) := by decide +kernel
theorem dX10_made_76 : decode cX10_made 76 = .ok (.aload_n 0, 1) := by decide +kernel
theorem dX10_made_77 : decode cX10_made 77 = .ok (.getfield 13, 3) := by decide +kernel
theorem dX10_made_80 : decode cX10_made 80 = .ok (.iload 4, 2) := by decide +kernel
theorem dX10_made_82 : decode cX10_made 82 = .ok (.iaload, 1) := by decide +kernel
theorem dX10_made_83 : decode cX10_made 83 = .ok (.i2l, 1) := by decide +kernel
theorem dX10_made_84 : decode cX10_made 84 = .ok (.lstore 6, 2) := by decide +kernel
theorem dX10_made_86 : decode cX10_made 86 = .ok (.iload 5, 2) := by decide +kernel
theorem dX10_made_88 : decode cX10_made 88 = .ok (.ifCond .ne 14, 3) := by decide +kernel
theorem dX10_made_91 : decode cX10_made 91 = .ok (.aload_n 0, 1) := by decide +kernel
theorem dX10_made_92 : decode cX10_made 92 = .ok (.getfield 13, 3) := by decide +kernel
theorem dX10_made_95 : decode cX10_made 95 = .ok (.iload 4, 2) := by decide +kernel
theorem dX10_made_97 : decode cX10_made 97 = .ok (.iaload, 1) := by decide +kernel
theorem dX10_made_98 : decode cX10_made 98 = .ok (.i2l, 1) := by decide +kernel
theorem dX10_made_99 : decode cX10_made 99 = .ok (.goto 11, 3) := by decide +kernel
theorem dX10_made_102 : decode cX10_made 102 = .ok (.aload_n 0, 1) := by decide +kernel
theorem dX10_made_103 : decode cX10_made 103 = .ok (.getfield 7, 3) := by decide +kernel
theorem dX10_made_106 : decode cX10_made 106 = .ok (.iload 4, 2) := by decide +kernel
theorem dX10_made_108 : decode cX10_made 108 = .ok (.iaload, 1) := by decide +kernel
theorem dX10_made_109 : decode cX10_made 109 = .ok (.i2l, 1) := by decide +kernel
theorem dX10_made_110 : decode cX10_made 110 = .ok (.lstore 8, 2) := by decide +kernel
theorem dX10_made_112 : decode cX10_made 112 = .ok (.iconst 1, 1) := by decide +kernel
theorem dX10_made_113 : decode cX10_made 113 = .ok (.istore 10, 2) := by decide +kernel
theorem dX10_made_115 : decode cX10_made 115 = .ok (.iconst 2, 1) := by decide +kernel
theorem dX10_made_116 : decode cX10_made 116 = .ok (.iload 10, 2) := by decide +kernel
theorem dX10_made_118 : decode cX10_made 118 = .ok (.imul, 1) := by decide +kernel
theorem dX10_made_119 : decode cX10_made 119 = .ok (.iload_n 1, 1) := by decide +kernel
theorem dX10_made_120 : decode cX10_made 120 = .ok (.if_icmp .gt 202, 3) := by decide +kernel
theorem dX10_made_123 : decode cX10_made 123 = .ok (.aload_n 0, 1) := by decide +kernel
theorem dX10_made_124 : decode cX10_made 124 = .ok (.getfield 16, 3) := by decide +kernel
theorem dX10_made_127 : decode cX10_made 127 = .ok (.iload 10, 2) := by decide +kernel
theorem dX10_made_129 : decode cX10_made 129 = .ok (.iaload, 1) := by decide +kernel
theorem dX10_made_130 : decode cX10_made 130 = .ok (.istore 11, 2) := by decide +kernel
theorem dX10_made_132 : decode cX10_made 132 = .ok (.iload 11, 2) := by decide +kernel
theorem dX10_made_134 : decode cX10_made 134 = .ok (.aload_n 0, 1) := by decide +kernel
theorem dX10_made_135 : decode cX10_made 135 = .ok (.getfield 16, 3) := by decide +kernel
theorem dX10_made_138 : decode cX10_made 138 = .ok (.iload 10, 2) := by decide +kernel
theorem dX10_made_140 : decode cX10_made 140 = .ok (.iconst 1, 1) := by decide +kernel
theorem dX10_made_141 : decode cX10_made 141 = .ok (.iadd, 1) := by decide +kernel
theorem dX10_made_142 : decode cX10_made 142 = .ok (.iaload, 1) := by decide +kernel
theorem dX10_made_143 : decode cX10_made 143 = .ok (.if_icmp .ge 173, 3) := by decide +kernel
theorem dX10_made_146 : decode cX10_made 146 = .ok (.iload 5, 2) := by decide +kernel
theorem dX10_made_148 : decode cX10_made 148 = .ok (.ifCond .ne 14, 3) := by decide +kernel
theorem dX10_made_151 : decode cX10_made 151 = .ok (.aload_n 0, 1) := by decide +kernel
theorem dX10_made_152 : decode cX10_made 152 = .ok (.getfield 7, 3) := by decide +kernel
theorem dX10_made_155 : decode cX10_made 155 = .ok (.iload 11, 2) := by decide +kernel
theorem dX10_made_157 : decode cX10_made 157 = .ok (.iaload, 1) := by decide +kernel
theorem dX10_made_158 : decode cX10_made 158 = .ok (.i2l, 1) := by decide +kernel
theorem dX10_made_159 : decode cX10_made 159 = .ok (.goto 11, 3) := by decide +kernel
theorem dX10_made_162 : decode cX10_made 162 = .ok (.aload_n 0, 1) := by decide +kernel
theorem dX10_made_163 : decode cX10_made 163 = .ok (.getfield 13, 3) := by decide +kernel
theorem dX10_made_166 : decode cX10_made 166 = .ok (.iload 11, 2) := by decide +kernel
theorem dX10_made_168 : decode cX10_made 168 = .ok (.iaload, 1) := by decide +kernel
theorem dX10_made_169 : decode cX10_made 169 = .ok (.i2l, 1) := by decide +kernel
theorem dX10_made_170 : decode cX10_made 170 = .ok (.lstore 12, 2) := by decide +kernel
theorem dX10_made_172 : decode cX10_made 172 = .ok (.iload 5, 2) := by decide +kernel
theorem dX10_made_174 : decode cX10_made 174 = .ok (.ifCond .ne 14, 3) := by decide +kernel
theorem dX10_made_177 : decode cX10_made 177 = .ok (.aload_n 0, 1) := by decide +kernel
theorem dX10_made_178 : decode cX10_made 178 = .ok (.getfield 13, 3) := by decide +kernel
theorem dX10_made_181 : decode cX10_made 181 = .ok (.iload 11, 2) := by decide +kernel
theorem dX10_made_183 : decode cX10_made 183 = .ok (.iaload, 1) := by decide +kernel
theorem dX10_made_184 : decode cX10_made 184 = .ok (.i2l, 1) := by decide +kernel
theorem dX10_made_185 : decode cX10_made 185 = .ok (.goto 11, 3) := by decide +kernel
theorem dX10_made_188 : decode cX10_made 188 = .ok (.aload_n 0, 1) := by decide +kernel
theorem dX10_made_189 : decode cX10_made 189 = .ok (.getfield 7, 3) := by decide +kernel
theorem dX10_made_192 : decode cX10_made 192 = .ok (.iload 11, 2) := by decide +kernel
theorem dX10_made_194 : decode cX10_made 194 = .ok (.iaload, 1) := by decide +kernel
theorem dX10_made_195 : decode cX10_made 195 = .ok (.i2l, 1) := by decide +kernel
theorem dX10_made_196 : decode cX10_made 196 = .ok (.lstore 14, 2) := by decide +kernel
theorem dX10_made_198 : decode cX10_made 198 = .ok (.lload 6, 2) := by decide +kernel
theorem dX10_made_200 : decode cX10_made 200 = .ok (.lload 14, 2) := by decide +kernel
theorem dX10_made_202 : decode cX10_made 202 = .ok (.lmul, 1) := by decide +kernel
theorem dX10_made_203 : decode cX10_made 203 = .ok (.lload 12, 2) := by decide +kernel
theorem dX10_made_205 : decode cX10_made 205 = .ok (.lload 8, 2) := by decide +kernel
theorem dX10_made_207 : decode cX10_made 207 = .ok (.lmul, 1) := by decide +kernel
theorem dX10_made_208 : decode cX10_made 208 = .ok (.lsub, 1) := by decide +kernel
theorem dX10_made_209 : decode cX10_made 209 = .ok (.lstore 16, 2) := by decide +kernel
theorem dX10_made_211 : decode cX10_made 211 = .ok (.lload 16, 2) := by decide +kernel
theorem dX10_made_213 : decode cX10_made 213 = .ok (.lconst 0, 1) := by decide +kernel
theorem dX10_made_214 : decode cX10_made 214 = .ok (.lcmp, 1) := by decide +kernel
theorem dX10_made_215 : decode cX10_made 215 = .ok (.ifCond .gt 8, 3) := by decide +kernel
theorem dX10_made_218 : decode cX10_made 218 = .ok (.bipush (-9), 2) := by decide +kernel
theorem dX10_made_220 : decode cX10_made 220 = .ok (.goto 41, 3) := by decide +kernel
theorem dX10_made_223 : decode cX10_made 223 = .ok (.iload 5, 2) := by decide +kernel
theorem dX10_made_225 : decode cX10_made 225 = .ok (.ifCond .ne 21, 3) := by decide +kernel
theorem dX10_made_228 : decode cX10_made 228 = .ok (.aload_n 0, 1) := by decide +kernel
theorem dX10_made_229 : decode cX10_made 229 = .ok (.iload_n 1, 1) := by decide +kernel
theorem dX10_made_230 : decode cX10_made 230 = .ok (.iload 10, 2) := by decide +kernel
theorem dX10_made_232 : decode cX10_made 232 = .ok (.isub, 1) := by decide +kernel
theorem dX10_made_233 : decode cX10_made 233 = .ok (.lload 16, 2) := by decide +kernel
theorem dX10_made_235 : decode cX10_made 235 = .ok (.lload 8, 2) := by decide +kernel
theorem dX10_made_237 : decode cX10_made 237 = .ok (.lload 14, 2) := by decide +kernel
theorem dX10_made_239 : decode cX10_made 239 = .ok (.lmul, 1) := by decide +kernel
theorem dX10_made_240 : decode cX10_made 240 = .ok (.invokevirtual 112, 3) := by decide +kernel
theorem dX10_made_243 : decode cX10_made 243 = .ok (.goto 18, 3) := by decide +kernel
theorem dX10_made_246 : decode cX10_made 246 = .ok (.aload_n 0, 1) := by decide +kernel
theorem dX10_made_247 : decode cX10_made 247 = .ok (.iload_n 1, 1) := by decide +kernel
theorem dX10_made_248 : decode cX10_made 248 = .ok (.iload 10, 2) := by decide +kernel
theorem dX10_made_250 : decode cX10_made 250 = .ok (.isub, 1) := by decide +kernel
theorem dX10_made_251 : decode cX10_made 251 = .ok (.lload 8, 2) := by decide +kernel
theorem dX10_made_253 : decode cX10_made 253 = .ok (.lload 14, 2) := by decide +kernel
theorem dX10_made_255 : decode cX10_made 255 = .ok (.lmul, 1) := by decide +kernel
theorem dX10_made_256 : decode cX10_made 256 = .ok (.lload 16, 2) := by decide +kernel
theorem dX10_made_258 : decode cX10_made 258 = .ok (.invokevirtual 112, 3) := by decide +kernel
theorem dX10_made_261 : decode cX10_made 261 = .ok (.istore 18, 2) := by decide +kernel
theorem dX10_made_263 : decode cX10_made 263 = .ok (.iload 18, 2) := by decide +kernel
theorem dX10_made_265 : decode cX10_made 265 = .ok (.ifCond .lt 45, 3) := by decide +kernel
theorem dX10_made_268 : decode cX10_made 268 = .ok (.iload_n 3, 1) := by decide +kernel
theorem dX10_made_269 : decode cX10_made 269 = .ok (.ifCond .ne 10, 3) := by decide +kernel
theorem dX10_made_272 : decode cX10_made 272 = .ok (.iconst 1, 1) := by decide +kernel
theorem dX10_made_273 : decode cX10_made 273 = .ok (.iload 5, 2) := by decide +kernel
theorem dX10_made_275 : decode cX10_made 275 = .ok (.iadd, 1) := by decide +kernel
theorem dX10_made_276 : decode cX10_made 276 = .ok (.goto 33, 3) := by decide +kernel
theorem dX10_made_279 : decode cX10_made 279 = .ok (.iload_n 3, 1) := by decide +kernel
theorem dX10_made_280 : decode cX10_made 280 = .ok (.iconst 1, 1) := by decide +kernel
theorem dX10_made_281 : decode cX10_made 281 = .ok (.if_icmp .ne 8, 3) := by decide +kernel
theorem dX10_made_284 : decode cX10_made 284 = .ok (.iload 10, 2) := by decide +kernel
theorem dX10_made_286 : decode cX10_made 286 = .ok (.goto 23, 3) := by decide +kernel
theorem dX10_made_289 : decode cX10_made 289 = .ok (.iload_n 3, 1) := by decide +kernel
theorem dX10_made_290 : decode cX10_made 290 = .ok (.iconst 2, 1) := by decide +kernel
theorem dX10_made_291 : decode cX10_made 291 = .ok (.if_icmp .ne 16, 3) := by decide +kernel
theorem dX10_made_294 : decode cX10_made 294 = .ok (.iload 11, 2) := by decide +kernel
theorem dX10_made_296 : decode cX10_made 296 = .ok (.aload_n 0, 1) := by decide +kernel
theorem dX10_made_297 : decode cX10_made 297 = .ok (.getfield 16, 3) := by decide +kernel
theorem dX10_made_300 : decode cX10_made 300 = .ok (.iload 10, 2) := by decide +kernel
theorem dX10_made_302 : decode cX10_made 302 = .ok (.iaload, 1) := by decide +kernel
theorem dX10_made_303 : decode cX10_made 303 = .ok (.isub, 1) := by decide +kernel
theorem dX10_made_304 : decode cX10_made 304 = .ok (.goto 5, 3) := by decide +kernel
theorem dX10_made_307 : decode cX10_made 307 = .ok (.iload 18, 2) := by decide +kernel
theorem dX10_made_309 : decode cX10_made 309 = .ok (.ireturn, 1) := by decide +kernel
theorem dX10_made_310 : decode cX10_made 310 = .ok (.iinc 11 1, 3) := by decide +kernel
theorem dX10_made_313 : decode cX10_made 313 = .ok (.goto (-181), 3) := by decide +kernel
theorem dX10_made_316 : decode cX10_made 316 = .ok (.iinc 10 1, 3) := by decide +kernel
theorem dX10_made_319 : decode cX10_made 319 = .ok (.goto (-204), 3) := by decide +kernel
theorem dX10_made_322 : decode cX10_made 322 = .ok (.iinc 5 1, 3) := by decide +kernel
theorem dX10_made_325 : decode cX10_made 325 = .ok (.goto (-271), 3) := by decide +kernel
theorem dX10_made_328 : decode cX10_made 328 = .ok (.iconst (-1), 1) := by decide +kernel
theorem dX10_made_329 : decode cX10_made 329 = .ok (.ireturn, 1) := by decide +kernel
set_option maxRecDepth 20000 in
theorem ggX10_turned_X10_isShare : GoodIn wsX10_turned wsX10_isShare := goodIn_r _ [9, 10, 11, 8, 12, 13, 14, 15, 16, 17, 18, 19, 3, 20, 21, 22, 23, 24, 25, 4, 2, 26, 27, 28, 29, 30, 31, 32, 33, 34, 35, 36, 37, 38, 43, 44, 45, 46, 47, 48, 49, 50, 51, 52, 53, 54, 55, 56, 57, 58, 59, 60, 61, 62, 63, 64, 65, 66] (by decide +kernel) (by decide +kernel)
set_option maxRecDepth 20000 in
theorem gX10_turned_X10_isShare : GoodIn wsX10_turned (wsV RX10 104 RX10 yX10_isShare wsX10_isShare) := goodIn_app (goodIn_of _ (by decide +kernel)) ggX10_turned_X10_isShare
set_option maxRecDepth 20000 in
theorem ggX10_turned_X10_rankOf : GoodIn wsX10_turned wsX10_rankOf := goodIn_r _ [42, 3, 2, 4, 20, 21, 22, 8, 23, 24, 25, 26, 27, 28, 29, 30, 31, 32, 33, 34, 35, 36, 37, 38, 43, 44, 45, 46, 47, 48, 49, 50, 51, 52, 53, 54, 55, 56, 57, 58, 59, 60, 61, 62, 63, 64, 65, 66] (by decide +kernel) (by decide +kernel)
set_option maxRecDepth 20000 in
theorem gX10_turned_X10_rankOf : GoodIn wsX10_turned (wsV RX10 112 RX10 yX10_rankOf wsX10_rankOf) := goodIn_app (goodIn_of _ (by decide +kernel)) ggX10_turned_X10_rankOf
theorem dX10_turned_0 : decode cX10_turned 0 = .ok (.aload_n 0, 1) := by decide +kernel
theorem dX10_turned_1 : decode cX10_turned 1 = .ok (.iconst 0, 1) := by decide +kernel
theorem dX10_turned_2 : decode cX10_turned 2 = .ok (.putfield 59, 3) := by decide +kernel
theorem dX10_turned_5 : decode cX10_turned 5 = .ok (.aload_n 0, 1) := by decide +kernel
theorem dX10_turned_6 : decode cX10_turned 6 = .ok (.iload_n 1, 1) := by decide +kernel
theorem dX10_turned_7 : decode cX10_turned 7 = .ok (.iload_n 2, 1) := by decide +kernel
theorem dX10_turned_8 : decode cX10_turned 8 = .ok (.invokevirtual 104, 3) := by decide +kernel
theorem dX10_turned_11 : decode cX10_turned 11 = .ok (.ifCond .eq 39, 3) := by decide +kernel
theorem dX10_turned_14 : decode cX10_turned 14 = .ok (.aload_n 0, 1) := by decide +kernel
theorem dX10_turned_15 : decode cX10_turned 15 = .ok (.iload_n 1, 1) := by decide +kernel
theorem dX10_turned_16 : decode cX10_turned 16 = .ok (.aload_n 0, 1) := by decide +kernel
theorem dX10_turned_17 : decode cX10_turned 17 = .ok (.getfield 13, 3) := by decide +kernel
theorem dX10_turned_20 : decode cX10_turned 20 = .ok (.aload_n 0, 1) := by decide +kernel
theorem dX10_turned_21 : decode cX10_turned 21 = .ok (.getfield 16, 3) := by decide +kernel
theorem dX10_turned_24 : decode cX10_turned 24 = .ok (.iload_n 1, 1) := by decide +kernel
theorem dX10_turned_25 : decode cX10_turned 25 = .ok (.iaload, 1) := by decide +kernel
theorem dX10_turned_26 : decode cX10_turned 26 = .ok (.iload_n 2, 1) := by decide +kernel
theorem dX10_turned_27 : decode cX10_turned 27 = .ok (.iadd, 1) := by decide +kernel
theorem dX10_turned_28 : decode cX10_turned 28 = .ok (.iaload, 1) := by decide +kernel
theorem dX10_turned_29 : decode cX10_turned 29 = .ok (.i2l, 1) := by decide +kernel
theorem dX10_turned_30 : decode cX10_turned 30 = .ok (.aload_n 0, 1) := by decide +kernel
theorem dX10_turned_31 : decode cX10_turned 31 = .ok (.getfield 7, 3) := by decide +kernel
theorem dX10_turned_34 : decode cX10_turned 34 = .ok (.aload_n 0, 1) := by decide +kernel
theorem dX10_turned_35 : decode cX10_turned 35 = .ok (.getfield 16, 3) := by decide +kernel
theorem dX10_turned_38 : decode cX10_turned 38 = .ok (.iload_n 1, 1) := by decide +kernel
theorem dX10_turned_39 : decode cX10_turned 39 = .ok (.iaload, 1) := by decide +kernel
theorem dX10_turned_40 : decode cX10_turned 40 = .ok (.iload_n 2, 1) := by decide +kernel
theorem dX10_turned_41 : decode cX10_turned 41 = .ok (.iadd, 1) := by decide +kernel
theorem dX10_turned_42 : decode cX10_turned 42 = .ok (.iaload, 1) := by decide +kernel
theorem dX10_turned_43 : decode cX10_turned 43 = .ok (.i2l, 1) := by decide +kernel
theorem dX10_turned_44 : decode cX10_turned 44 = .ok (.invokevirtual 112, 3) := by decide +kernel
theorem dX10_turned_47 : decode cX10_turned 47 = .ok (.goto 4, 3) := by decide +kernel
theorem dX10_turned_50 : decode cX10_turned 50 = .ok (.iconst (-1), 1) := by decide +kernel
theorem dX10_turned_51 : decode cX10_turned 51 = .ok (.ireturn, 1) := by decide +kernel
set_option maxRecDepth 20000 in
theorem ggX10_isKnot_X10_in : GoodIn wsX10_isKnot wsX10_in := goodIn_r _ [4] (by decide +kernel) (by decide +kernel)
set_option maxRecDepth 20000 in
theorem gX10_isKnot_X10_in : GoodIn wsX10_isKnot (va_wsS RX10 89 yX10_in wsX10_in) := goodIn_app (goodIn_of _ (by decide +kernel)) ggX10_isKnot_X10_in
theorem dX10_isKnot_0 : decode cX10_isKnot 0 = .ok (.iload_n 0, 1) := by decide +kernel
theorem dX10_isKnot_1 : decode cX10_isKnot 1 = .ok (.iconst 0, 1) := by decide +kernel
theorem dX10_isKnot_2 : decode cX10_isKnot 2 = .ok (.iconst 5, 1) := by decide +kernel
theorem dX10_isKnot_3 : decode cX10_isKnot 3 = .ok (.invokestatic 89, 3) := by decide +kernel
theorem dX10_isKnot_6 : decode cX10_isKnot 6 = .ok (.ireturn, 1) := by decide +kernel
set_option maxRecDepth 20000 in
theorem ggX10_wire_X10_in : GoodIn wsX10_wire wsX10_in := goodIn_r _ [11] (by decide +kernel) (by decide +kernel)
set_option maxRecDepth 20000 in
theorem gX10_wire_X10_in : GoodIn wsX10_wire (va_wsS RX10 89 yX10_in wsX10_in) := goodIn_app (goodIn_of _ (by decide +kernel)) ggX10_wire_X10_in
set_option maxRecDepth 20000 in
theorem ggX10_wire_X10_isKnot : GoodIn wsX10_wire wsX10_isKnot := goodIn_r _ [14, 8, 9, 10, 11] (by decide +kernel) (by decide +kernel)
set_option maxRecDepth 20000 in
theorem gX10_wire_X10_isKnot : GoodIn wsX10_wire (va_wsS RX10 116 yX10_isKnot wsX10_isKnot) := goodIn_app (goodIn_of _ (by decide +kernel)) ggX10_wire_X10_isKnot
theorem dX10_wire_0 : decode cX10_wire 0 = .ok (.aload_n 0, 1) := by decide +kernel
theorem dX10_wire_1 : decode cX10_wire 1 = .ok (.iconst 0, 1) := by decide +kernel
theorem dX10_wire_2 : decode cX10_wire 2 = .ok (.putfield 59, 3) := by decide +kernel
theorem dX10_wire_5 : decode cX10_wire 5 = .ok (.iload_n 1, 1) := by decide +kernel
theorem dX10_wire_6 : decode cX10_wire 6 = .ok (.iconst 0, 1) := by decide +kernel
theorem dX10_wire_7 : decode cX10_wire 7 = .ok (.iconst 2, 1) := by decide +kernel
theorem dX10_wire_8 : decode cX10_wire 8 = .ok (.invokestatic 89, 3) := by decide +kernel
theorem dX10_wire_11 : decode cX10_wire 11 = .ok (.ifCond .eq 51, 3) := by decide +kernel
theorem dX10_wire_14 : decode cX10_wire 14 = .ok (.iload_n 2, 1) := by decide +kernel
theorem dX10_wire_15 : decode cX10_wire 15 = .ok (.invokestatic 116, 3) := by decide +kernel
theorem dX10_wire_18 : decode cX10_wire 18 = .ok (.ifCond .eq 44, 3) := by decide +kernel
theorem dX10_wire_21 : decode cX10_wire 21 = .ok (.iload_n 3, 1) := by decide +kernel
theorem dX10_wire_22 : decode cX10_wire 22 = .ok (.invokestatic 116, 3) := by decide +kernel
theorem dX10_wire_25 : decode cX10_wire 25 = .ok (.ifCond .eq 37, 3) := by decide +kernel
theorem dX10_wire_28 : decode cX10_wire 28 = .ok (.iload_n 2, 1) := by decide +kernel
theorem dX10_wire_29 : decode cX10_wire 29 = .ok (.iload_n 3, 1) := by decide +kernel
theorem dX10_wire_30 : decode cX10_wire 30 = .ok (.if_icmp .eq 32, 3) := by decide +kernel
theorem dX10_wire_33 : decode cX10_wire 33 = .ok (.iload_n 1, 1) := by decide +kernel
theorem dX10_wire_34 : decode cX10_wire 34 = .ok (.ifCond .le 13, 3) := by decide +kernel
theorem dX10_wire_37 : decode cX10_wire 37 = .ok (.iload 4, 2) := by decide +kernel
theorem dX10_wire_39 : decode cX10_wire 39 = .ok (.iconst 1, 1) := by decide +kernel
theorem dX10_wire_40 : decode cX10_wire 40 = .ok (.iconst 4, 1) := by decide +kernel
theorem dX10_wire_41 : decode cX10_wire 41 = .ok (.invokestatic 89, 3) := by decide +kernel
theorem dX10_wire_44 : decode cX10_wire 44 = .ok (.ifCond .eq 18, 3) := by decide +kernel
theorem dX10_wire_47 : decode cX10_wire 47 = .ok (.iload_n 1, 1) := by decide +kernel
theorem dX10_wire_48 : decode cX10_wire 48 = .ok (.iconst 2, 1) := by decide +kernel
theorem dX10_wire_49 : decode cX10_wire 49 = .ok (.if_icmp .ne 15, 3) := by decide +kernel
theorem dX10_wire_52 : decode cX10_wire 52 = .ok (.iload 5, 2) := by decide +kernel
theorem dX10_wire_54 : decode cX10_wire 54 = .ok (.iconst 1, 1) := by decide +kernel
theorem dX10_wire_55 : decode cX10_wire 55 = .ok (.iconst 4, 1) := by decide +kernel
theorem dX10_wire_56 : decode cX10_wire 56 = .ok (.invokestatic 89, 3) := by decide +kernel
theorem dX10_wire_59 : decode cX10_wire 59 = .ok (.ifCond .ne 5, 3) := by decide +kernel
theorem dX10_wire_62 : decode cX10_wire 62 = .ok (.iconst (-1), 1) := by decide +kernel
theorem dX10_wire_63 : decode cX10_wire 63 = .ok (.ireturn, 1) := by decide +kernel
theorem dX10_wire_64 : decode cX10_wire 64 = .ok (.aload_n 0, 1) := by decide +kernel
theorem dX10_wire_65 : decode cX10_wire 65 = .ok (.getfield 119, 3) := by decide +kernel
theorem dX10_wire_68 : decode cX10_wire 68 = .ok (.bipush 12, 2) := by decide +kernel
theorem dX10_wire_70 : decode cX10_wire 70 = .ok (.if_icmp .ne 6, 3) := by decide +kernel
theorem dX10_wire_73 : decode cX10_wire 73 = .ok (.bipush (-3), 2) := by decide +kernel
theorem dX10_wire_75 : decode cX10_wire 75 = .ok (.ireturn, 1) := by decide +kernel
theorem dX10_wire_76 : decode cX10_wire 76 = .ok (.aload_n 0, 1) := by decide +kernel
theorem dX10_wire_77 : decode cX10_wire 77 = .ok (.getfield 19, 3) := by decide +kernel
theorem dX10_wire_80 : decode cX10_wire 80 = .ok (.aload_n 0, 1) := by decide +kernel
theorem dX10_wire_81 : decode cX10_wire 81 = .ok (.getfield 119, 3) := by decide +kernel
theorem dX10_wire_84 : decode cX10_wire 84 = .ok (.iload_n 1, 1) := by decide +kernel
theorem dX10_wire_85 : decode cX10_wire 85 = .ok (.iastore, 1) := by decide +kernel
theorem dX10_wire_86 : decode cX10_wire 86 = .ok (.aload_n 0, 1) := by decide +kernel
theorem dX10_wire_87 : decode cX10_wire 87 = .ok (.getfield 22, 3) := by decide +kernel
theorem dX10_wire_90 : decode cX10_wire 90 = .ok (.aload_n 0, 1) := by decide +kernel
theorem dX10_wire_91 : decode cX10_wire 91 = .ok (.getfield 119, 3) := by decide +kernel
theorem dX10_wire_94 : decode cX10_wire 94 = .ok (.iload_n 2, 1) := by decide +kernel
theorem dX10_wire_95 : decode cX10_wire 95 = .ok (.iastore, 1) := by decide +kernel
theorem dX10_wire_96 : decode cX10_wire 96 = .ok (.aload_n 0, 1) := by decide +kernel
theorem dX10_wire_97 : decode cX10_wire 97 = .ok (.getfield 25, 3) := by decide +kernel
theorem dX10_wire_100 : decode cX10_wire 100 = .ok (.aload_n 0, 1) := by decide +kernel
theorem dX10_wire_101 : decode cX10_wire 101 = .ok (.getfield 119, 3) := by decide +kernel
theorem dX10_wire_104 : decode cX10_wire 104 = .ok (.iload_n 3, 1) := by decide +kernel
theorem dX10_wire_105 : decode cX10_wire 105 = .ok (.iastore, 1) := by decide +kernel
theorem dX10_wire_106 : decode cX10_wire 106 = .ok (.aload_n 0, 1) := by decide +kernel
theorem dX10_wire_107 : decode cX10_wire 107 = .ok (.getfield 28, 3) := by decide +kernel
theorem dX10_wire_110 : decode cX10_wire 110 = .ok (.aload_n 0, 1) := by decide +kernel
theorem dX10_wire_111 : decode cX10_wire 111 = .ok (.getfield 119, 3) := by decide +kernel
theorem dX10_wire_114 : decode cX10_wire 114 = .ok (.iload_n 1, 1) := by decide +kernel
theorem dX10_wire_115 : decode cX10_wire 115 = .ok (.ifCond .le 8, 3) := by decide +kernel
theorem dX10_wire_118 : decode cX10_wire 118 = .ok (.iload 4, 2) := by decide +kernel
theorem dX10_wire_120 : decode cX10_wire 120 = .ok (.goto 4, 3) := by decide +kernel
theorem dX10_wire_123 : decode cX10_wire 123 = .ok (.iconst 1, 1) := by decide +kernel
theorem dX10_wire_124 : decode cX10_wire 124 = .ok (.iastore, 1) := by decide +kernel
theorem dX10_wire_125 : decode cX10_wire 125 = .ok (.aload_n 0, 1) := by decide +kernel
theorem dX10_wire_126 : decode cX10_wire 126 = .ok (.getfield 31, 3) := by decide +kernel
theorem dX10_wire_129 : decode cX10_wire 129 = .ok (.aload_n 0, 1) := by decide +kernel
theorem dX10_wire_130 : decode cX10_wire 130 = .ok (.getfield 119, 3) := by decide +kernel
theorem dX10_wire_133 : decode cX10_wire 133 = .ok (.iload_n 1, 1) := by decide +kernel
theorem dX10_wire_134 : decode cX10_wire 134 = .ok (.iconst 2, 1) := by decide +kernel
theorem dX10_wire_135 : decode cX10_wire 135 = .ok (.if_icmp .ne 8, 3) := by decide +kernel
theorem dX10_wire_138 : decode cX10_wire 138 = .ok (.iload 5, 2) := by decide +kernel
theorem dX10_wire_140 : decode cX10_wire 140 = .ok (.goto 4, 3) := by decide +kernel
theorem dX10_wire_143 : decode cX10_wire 143 = .ok (.iconst 1, 1) := by decide +kernel
theorem dX10_wire_144 : decode cX10_wire 144 = .ok (.iastore, 1) := by decide +kernel
theorem dX10_wire_145 : decode cX10_wire 145 = .ok (.aload_n 0, 1) := by decide +kernel
theorem dX10_wire_146 : decode cX10_wire 146 = .ok (.dup, 1) := by decide +kernel
theorem dX10_wire_147 : decode cX10_wire 147 = .ok (.getfield 119, 3) := by decide +kernel
theorem dX10_wire_150 : decode cX10_wire 150 = .ok (.iconst 1, 1) := by decide +kernel
theorem dX10_wire_151 : decode cX10_wire 151 = .ok (.iadd, 1) := by decide +kernel
theorem dX10_wire_152 : decode cX10_wire 152 = .ok (.putfield 119, 3) := by decide +kernel
theorem dX10_wire_155 : decode cX10_wire 155 = .ok (.aload_n 0, 1) := by decide +kernel
theorem dX10_wire_156 : decode cX10_wire 156 = .ok (.getfield 119, 3) := by decide +kernel
theorem dX10_wire_159 : decode cX10_wire 159 = .ok (.iconst 1, 1) := by decide +kernel
theorem dX10_wire_160 : decode cX10_wire 160 = .ok (.isub, 1) := by decide +kernel
theorem dX10_wire_161 : decode cX10_wire 161 = .ok (.ireturn, 1) := by decide +kernel
theorem dX10_cut_0 : decode cX10_cut 0 = .ok (.aload_n 0, 1) := by decide +kernel
theorem dX10_cut_1 : decode cX10_cut 1 = .ok (.iconst 0, 1) := by decide +kernel
theorem dX10_cut_2 : decode cX10_cut 2 = .ok (.putfield 59, 3) := by decide +kernel
theorem dX10_cut_5 : decode cX10_cut 5 = .ok (.aload_n 0, 1) := by decide +kernel
theorem dX10_cut_6 : decode cX10_cut 6 = .ok (.getfield 119, 3) := by decide +kernel
theorem dX10_cut_9 : decode cX10_cut 9 = .ok (.ifCond .ne 6, 3) := by decide +kernel
theorem dX10_cut_12 : decode cX10_cut 12 = .ok (.bipush (-2), 2) := by decide +kernel
theorem dX10_cut_14 : decode cX10_cut 14 = .ok (.ireturn, 1) := by decide +kernel
theorem dX10_cut_15 : decode cX10_cut 15 = .ok (.aload_n 0, 1) := by decide +kernel
theorem dX10_cut_16 : decode cX10_cut 16 = .ok (.dup, 1) := by decide +kernel
theorem dX10_cut_17 : decode cX10_cut 17 = .ok (.getfield 119, 3) := by decide +kernel
theorem dX10_cut_20 : decode cX10_cut 20 = .ok (.iconst 1, 1) := by decide +kernel
theorem dX10_cut_21 : decode cX10_cut 21 = .ok (.isub, 1) := by decide +kernel
theorem dX10_cut_22 : decode cX10_cut 22 = .ok (.putfield 119, 3) := by decide +kernel
theorem dX10_cut_25 : decode cX10_cut 25 = .ok (.aload_n 0, 1) := by decide +kernel
theorem dX10_cut_26 : decode cX10_cut 26 = .ok (.getfield 119, 3) := by decide +kernel
theorem dX10_cut_29 : decode cX10_cut 29 = .ok (.ireturn, 1) := by decide +kernel
set_option maxRecDepth 20000 in
theorem ggX10_isWire_X10_in : GoodIn wsX10_isWire wsX10_in := goodIn_r _ [5] (by decide +kernel) (by decide +kernel)
set_option maxRecDepth 20000 in
theorem gX10_isWire_X10_in : GoodIn wsX10_isWire (va_wsS RX10 89 yX10_in wsX10_in) := goodIn_app (goodIn_of _ (by decide +kernel)) ggX10_isWire_X10_in
theorem dX10_isWire_0 : decode cX10_isWire 0 = .ok (.iload_n 1, 1) := by decide +kernel
theorem dX10_isWire_1 : decode cX10_isWire 1 = .ok (.iconst 0, 1) := by decide +kernel
theorem dX10_isWire_2 : decode cX10_isWire 2 = .ok (.aload_n 0, 1) := by decide +kernel
theorem dX10_isWire_3 : decode cX10_isWire 3 = .ok (.getfield 119, 3) := by decide +kernel
theorem dX10_isWire_6 : decode cX10_isWire 6 = .ok (.iconst 1, 1) := by decide +kernel
theorem dX10_isWire_7 : decode cX10_isWire 7 = .ok (.isub, 1) := by decide +kernel
theorem dX10_isWire_8 : decode cX10_isWire 8 = .ok (.invokestatic 89, 3) := by decide +kernel
theorem dX10_isWire_11 : decode cX10_isWire 11 = .ok (.ireturn, 1) := by decide +kernel
set_option maxRecDepth 20000 in
theorem ggX10_ohms_X10_isWire : GoodIn wsX10_ohms wsX10_isWire := goodIn_r _ [14, 15, 16, 17, 13, 18, 26, 27, 28, 29, 30, 31, 32, 33, 34, 35, 36, 37, 38, 39, 40, 41, 42, 43, 44, 45, 46, 47, 48, 49] (by decide +kernel) (by decide +kernel)
set_option maxRecDepth 20000 in
theorem gX10_ohms_X10_isWire : GoodIn wsX10_ohms (wsV RX10 122 RX10 yX10_isWire wsX10_isWire) := goodIn_app (goodIn_of _ (by decide +kernel)) ggX10_ohms_X10_isWire
set_option maxRecDepth 20000 in
theorem ggX10_ohms_X10_in : GoodIn wsX10_ohms wsX10_in := goodIn_r _ [18] (by decide +kernel) (by decide +kernel)
set_option maxRecDepth 20000 in
theorem gX10_ohms_X10_in : GoodIn wsX10_ohms (va_wsS RX10 89 yX10_in wsX10_in) := goodIn_app (goodIn_of _ (by decide +kernel)) ggX10_ohms_X10_in
set_option maxRecDepth 20000 in
theorem ggX10_ohms_X10_least : GoodIn wsX10_ohms wsX10_least := goodIn_r _ [22, 8, 9, 23, 24, 13, 25, 26, 27, 28, 29, 30, 31, 32, 33, 34, 35, 36, 37, 38, 39, 40, 41, 42, 43, 44, 45, 46, 47, 48, 49] (by decide +kernel) (by decide +kernel)
set_option maxRecDepth 20000 in
theorem gX10_ohms_X10_least : GoodIn wsX10_ohms (wsV RX10 74 RX10 yX10_least wsX10_least) := goodIn_app (goodIn_of _ (by decide +kernel)) ggX10_ohms_X10_least
theorem dX10_ohms_0 : decode cX10_ohms 0 = .ok (.aload_n 0, 1) := by decide +kernel
theorem dX10_ohms_1 : decode cX10_ohms 1 = .ok (.iconst 0, 1) := by decide +kernel
theorem dX10_ohms_2 : decode cX10_ohms 2 = .ok (.putfield 59, 3) := by decide +kernel
theorem dX10_ohms_5 : decode cX10_ohms 5 = .ok (.aload_n 0, 1) := by decide +kernel
theorem dX10_ohms_6 : decode cX10_ohms 6 = .ok (.iload_n 1, 1) := by decide +kernel
theorem dX10_ohms_7 : decode cX10_ohms 7 = .ok (.invokevirtual 122, 3) := by decide +kernel
theorem dX10_ohms_10 : decode cX10_ohms 10 = .ok (.ifCond .eq 12, 3) := by decide +kernel
theorem dX10_ohms_13 : decode cX10_ohms 13 = .ok (.iload_n 2, 1) := by decide +kernel
theorem dX10_ohms_14 : decode cX10_ohms 14 = .ok (.iconst 0, 1) := by decide +kernel
theorem dX10_ohms_15 : decode cX10_ohms 15 = .ok (.iconst 1, 1) := by decide +kernel
theorem dX10_ohms_16 : decode cX10_ohms 16 = .ok (.invokestatic 89, 3) := by decide +kernel
theorem dX10_ohms_19 : decode cX10_ohms 19 = .ok (.ifCond .ne 5, 3) := by decide +kernel
theorem dX10_ohms_22 : decode cX10_ohms 22 = .ok (.iconst (-1), 1) := by decide +kernel
theorem dX10_ohms_23 : decode cX10_ohms 23 = .ok (.ireturn, 1) := by decide +kernel
theorem dX10_ohms_24 : decode cX10_ohms 24 = .ok (.aload_n 0, 1) := by decide +kernel
theorem dX10_ohms_25 : decode cX10_ohms 25 = .ok (.dup, 1) := by decide +kernel
theorem dX10_ohms_26 : decode cX10_ohms 26 = .ok (.getfield 125, 3) := by decide +kernel
theorem dX10_ohms_29 : decode cX10_ohms 29 = .ok (.aload_n 0, 1) := by decide +kernel
theorem dX10_ohms_30 : decode cX10_ohms 30 = .ok (.getfield 19, 3) := by decide +kernel
theorem dX10_ohms_33 : decode cX10_ohms 33 = .ok (.iload_n 1, 1) := by decide +kernel
theorem dX10_ohms_34 : decode cX10_ohms 34 = .ok (.iaload, 1) := by decide +kernel
theorem dX10_ohms_35 : decode cX10_ohms 35 = .ok (.ifCond .ne 7, 3) := by decide +kernel
theorem dX10_ohms_38 : decode cX10_ohms 38 = .ok (.lconst 1, 1) := by decide +kernel
theorem dX10_ohms_39 : decode cX10_ohms 39 = .ok (.goto 22, 3) := by decide +kernel
theorem dX10_ohms_42 : decode cX10_ohms 42 = .ok (.aload_n 0, 1) := by decide +kernel
theorem dX10_ohms_43 : decode cX10_ohms 43 = .ok (.getfield 19, 3) := by decide +kernel
theorem dX10_ohms_46 : decode cX10_ohms 46 = .ok (.iload_n 1, 1) := by decide +kernel
theorem dX10_ohms_47 : decode cX10_ohms 47 = .ok (.iaload, 1) := by decide +kernel
theorem dX10_ohms_48 : decode cX10_ohms 48 = .ok (.iconst 1, 1) := by decide +kernel
theorem dX10_ohms_49 : decode cX10_ohms 49 = .ok (.if_icmp .ne 9, 3) := by decide +kernel
theorem dX10_ohms_52 : decode cX10_ohms 52 = .ok (.ldc2_w 128, 3) := by decide +kernel
theorem dX10_ohms_55 : decode cX10_ohms 55 = .ok (.goto 6, 3) := by decide +kernel
theorem dX10_ohms_58 : decode cX10_ohms 58 = .ok (.ldc2_w 130, 3) := by decide +kernel
theorem dX10_ohms_61 : decode cX10_ohms 61 = .ok (.ladd, 1) := by decide +kernel
theorem dX10_ohms_62 : decode cX10_ohms 62 = .ok (.putfield 125, 3) := by decide +kernel
theorem dX10_ohms_65 : decode cX10_ohms 65 = .ok (.aload_n 0, 1) := by decide +kernel
theorem dX10_ohms_66 : decode cX10_ohms 66 = .ok (.aload_n 0, 1) := by decide +kernel
theorem dX10_ohms_67 : decode cX10_ohms 67 = .ok (.getfield 28, 3) := by decide +kernel
theorem dX10_ohms_70 : decode cX10_ohms 70 = .ok (.iload_n 1, 1) := by decide +kernel
theorem dX10_ohms_71 : decode cX10_ohms 71 = .ok (.iaload, 1) := by decide +kernel
theorem dX10_ohms_72 : decode cX10_ohms 72 = .ok (.i2l, 1) := by decide +kernel
theorem dX10_ohms_73 : decode cX10_ohms 73 = .ok (.aload_n 0, 1) := by decide +kernel
theorem dX10_ohms_74 : decode cX10_ohms 74 = .ok (.getfield 31, 3) := by decide +kernel
theorem dX10_ohms_77 : decode cX10_ohms 77 = .ok (.iload_n 1, 1) := by decide +kernel
theorem dX10_ohms_78 : decode cX10_ohms 78 = .ok (.iaload, 1) := by decide +kernel
theorem dX10_ohms_79 : decode cX10_ohms 79 = .ok (.i2l, 1) := by decide +kernel
theorem dX10_ohms_80 : decode cX10_ohms 80 = .ok (.invokevirtual 74, 3) := by decide +kernel
theorem dX10_ohms_83 : decode cX10_ohms 83 = .ok (.iload_n 2, 1) := by decide +kernel
theorem dX10_ohms_84 : decode cX10_ohms 84 = .ok (.ifCond .ne 10, 3) := by decide +kernel
theorem dX10_ohms_87 : decode cX10_ohms 87 = .ok (.aload_n 0, 1) := by decide +kernel
theorem dX10_ohms_88 : decode cX10_ohms 88 = .ok (.getfield 67, 3) := by decide +kernel
theorem dX10_ohms_91 : decode cX10_ohms 91 = .ok (.goto 7, 3) := by decide +kernel
theorem dX10_ohms_94 : decode cX10_ohms 94 = .ok (.aload_n 0, 1) := by decide +kernel
theorem dX10_ohms_95 : decode cX10_ohms 95 = .ok (.getfield 71, 3) := by decide +kernel
theorem dX10_ohms_98 : decode cX10_ohms 98 = .ok (.l2i, 1) := by decide +kernel
theorem dX10_ohms_99 : decode cX10_ohms 99 = .ok (.ireturn, 1) := by decide +kernel
set_option maxRecDepth 20000 in
theorem ggX10_about_X10_isWire : GoodIn wsX10_about wsX10_isWire := goodIn_r _ [9, 10, 11, 12, 8, 13, 14, 15, 16, 17, 18, 19, 20, 21, 22, 23, 24, 25, 26, 27, 28, 29, 30, 31, 32, 33, 34, 35, 36, 37] (by decide +kernel) (by decide +kernel)
set_option maxRecDepth 20000 in
theorem gX10_about_X10_isWire : GoodIn wsX10_about (wsV RX10 122 RX10 yX10_isWire wsX10_isWire) := goodIn_app (goodIn_of _ (by decide +kernel)) ggX10_about_X10_isWire
set_option maxRecDepth 20000 in
theorem ggX10_about_X10_in : GoodIn wsX10_about wsX10_in := goodIn_r _ [13] (by decide +kernel) (by decide +kernel)
set_option maxRecDepth 20000 in
theorem gX10_about_X10_in : GoodIn wsX10_about (va_wsS RX10 89 yX10_in wsX10_in) := goodIn_app (goodIn_of _ (by decide +kernel)) ggX10_about_X10_in
theorem dX10_about_0 : decode cX10_about 0 = .ok (.aload_n 0, 1) := by decide +kernel
theorem dX10_about_1 : decode cX10_about 1 = .ok (.iconst 0, 1) := by decide +kernel
theorem dX10_about_2 : decode cX10_about 2 = .ok (.putfield 59, 3) := by decide +kernel
theorem dX10_about_5 : decode cX10_about 5 = .ok (.aload_n 0, 1) := by decide +kernel
theorem dX10_about_6 : decode cX10_about 6 = .ok (.iload_n 1, 1) := by decide +kernel
theorem dX10_about_7 : decode cX10_about 7 = .ok (.invokevirtual 122, 3) := by decide +kernel
theorem dX10_about_10 : decode cX10_about 10 = .ok (.ifCond .eq 12, 3) := by decide +kernel
theorem dX10_about_13 : decode cX10_about 13 = .ok (.iload_n 2, 1) := by decide +kernel
theorem dX10_about_14 : decode cX10_about 14 = .ok (.iconst 0, 1) := by decide +kernel
theorem dX10_about_15 : decode cX10_about 15 = .ok (.iconst 2, 1) := by decide +kernel
theorem dX10_about_16 : decode cX10_about 16 = .ok (.invokestatic 89, 3) := by decide +kernel
theorem dX10_about_19 : decode cX10_about 19 = .ok (.ifCond .ne 5, 3) := by decide +kernel
theorem dX10_about_22 : decode cX10_about 22 = .ok (.iconst (-1), 1) := by decide +kernel
theorem dX10_about_23 : decode cX10_about 23 = .ok (.ireturn, 1) := by decide +kernel
theorem dX10_about_24 : decode cX10_about 24 = .ok (.iload_n 2, 1) := by decide +kernel
theorem dX10_about_25 : decode cX10_about 25 = .ok (.ifCond .ne 12, 3) := by decide +kernel
theorem dX10_about_28 : decode cX10_about 28 = .ok (.aload_n 0, 1) := by decide +kernel
theorem dX10_about_29 : decode cX10_about 29 = .ok (.getfield 19, 3) := by decide +kernel
theorem dX10_about_32 : decode cX10_about 32 = .ok (.iload_n 1, 1) := by decide +kernel
theorem dX10_about_33 : decode cX10_about 33 = .ok (.iaload, 1) := by decide +kernel
theorem dX10_about_34 : decode cX10_about 34 = .ok (.goto 23, 3) := by decide +kernel
theorem dX10_about_37 : decode cX10_about 37 = .ok (.iload_n 2, 1) := by decide +kernel
theorem dX10_about_38 : decode cX10_about 38 = .ok (.iconst 1, 1) := by decide +kernel
theorem dX10_about_39 : decode cX10_about 39 = .ok (.if_icmp .ne 12, 3) := by decide +kernel
theorem dX10_about_42 : decode cX10_about 42 = .ok (.aload_n 0, 1) := by decide +kernel
theorem dX10_about_43 : decode cX10_about 43 = .ok (.getfield 22, 3) := by decide +kernel
theorem dX10_about_46 : decode cX10_about 46 = .ok (.iload_n 1, 1) := by decide +kernel
theorem dX10_about_47 : decode cX10_about 47 = .ok (.iaload, 1) := by decide +kernel
theorem dX10_about_48 : decode cX10_about 48 = .ok (.goto 9, 3) := by decide +kernel
theorem dX10_about_51 : decode cX10_about 51 = .ok (.aload_n 0, 1) := by decide +kernel
theorem dX10_about_52 : decode cX10_about 52 = .ok (.getfield 25, 3) := by decide +kernel
theorem dX10_about_55 : decode cX10_about 55 = .ok (.iload_n 1, 1) := by decide +kernel
theorem dX10_about_56 : decode cX10_about 56 = .ok (.iaload, 1) := by decide +kernel
theorem dX10_about_57 : decode cX10_about 57 = .ok (.ireturn, 1) := by decide +kernel
theorem dX10_joins_0 : decode cX10_joins 0 = .ok (.iconst 1, 1) := by decide +kernel
theorem dX10_joins_1 : decode cX10_joins 1 = .ok (.istore_n 2, 1) := by decide +kernel
theorem dX10_joins_2 : decode cX10_joins 2 = .ok (.iconst 0, 1) := by decide +kernel
theorem dX10_joins_3 : decode cX10_joins 3 = .ok (.istore_n 3, 1) := by decide +kernel
theorem dX10_joins_4 : decode cX10_joins 4 = .ok (.iload_n 3, 1) := by decide +kernel
theorem dX10_joins_5 : decode cX10_joins 5 = .ok (.bipush 6, 2) := by decide +kernel
theorem dX10_joins_7 : decode cX10_joins 7 = .ok (.if_icmp .ge 16, 3) := by decide +kernel
theorem dX10_joins_10 : decode cX10_joins 10 = .ok (.aload_n 0, 1) := by decide +kernel
theorem dX10_joins_11 : decode cX10_joins 11 = .ok (.getfield 34, 3) := by decide +kernel
theorem dX10_joins_14 : decode cX10_joins 14 = .ok (.iload_n 3, 1) := by decide +kernel
theorem dX10_joins_15 : decode cX10_joins 15 = .ok (.iload_n 3, 1) := by decide +kernel
theorem dX10_joins_16 : decode cX10_joins 16 = .ok (.iastore, 1) := by decide +kernel
theorem dX10_joins_17 : decode cX10_joins 17 = .ok (.iinc 3 1, 3) := by decide +kernel
theorem dX10_joins_20 : decode cX10_joins 20 = .ok (.goto (-16), 3) := by decide +kernel
theorem dX10_joins_23 : decode cX10_joins 23 = .ok (.iconst 0, 1) := by decide +kernel
theorem dX10_joins_24 : decode cX10_joins 24 = .ok (.istore_n 3, 1) := by decide +kernel
theorem dX10_joins_25 : decode cX10_joins 25 = .ok (.iload_n 3, 1) := by decide +kernel
theorem dX10_joins_26 : decode cX10_joins 26 = .ok (.aload_n 0, 1) := by decide +kernel
theorem dX10_joins_27 : decode cX10_joins 27 = .ok (.getfield 119, 3) := by decide +kernel
theorem dX10_joins_30 : decode cX10_joins 30 = .ok (.if_icmp .ge 130, 3) := by decide +kernel
theorem dX10_joins_33 : decode cX10_joins 33 = .ok (.aload_n 0, 1) := by decide +kernel
theorem dX10_joins_34 : decode cX10_joins 34 = .ok (.getfield 34, 3) := by decide +kernel
theorem dX10_joins_37 : decode cX10_joins 37 = .ok (.aload_n 0, 1) := by decide +kernel
theorem dX10_joins_38 : decode cX10_joins 38 = .ok (.getfield 22, 3) := by decide +kernel
theorem dX10_joins_41 : decode cX10_joins 41 = .ok (.iload_n 3, 1) := by decide +kernel
theorem dX10_joins_42 : decode cX10_joins 42 = .ok (.iaload, 1) := by decide +kernel
theorem dX10_joins_43 : decode cX10_joins 43 = .ok (.iaload, 1) := by decide +kernel
theorem dX10_joins_44 : decode cX10_joins 44 = .ok (.istore 4, 2) := by decide +kernel
theorem dX10_joins_46 : decode cX10_joins 46 = .ok (.aload_n 0, 1) := by decide +kernel
theorem dX10_joins_47 : decode cX10_joins 47 = .ok (.getfield 34, 3) := by decide +kernel
theorem dX10_joins_50 : decode cX10_joins 50 = .ok (.aload_n 0, 1) := by decide +kernel
theorem dX10_joins_51 : decode cX10_joins 51 = .ok (.getfield 25, 3) := by decide +kernel
theorem dX10_joins_54 : decode cX10_joins 54 = .ok (.iload_n 3, 1) := by decide +kernel
theorem dX10_joins_55 : decode cX10_joins 55 = .ok (.iaload, 1) := by decide +kernel
theorem dX10_joins_56 : decode cX10_joins 56 = .ok (.iaload, 1) := by decide +kernel
theorem dX10_joins_57 : decode cX10_joins 57 = .ok (.istore 5, 2) := by decide +kernel
theorem dX10_joins_59 : decode cX10_joins 59 = .ok (.iload_n 1, 1) := by decide +kernel
theorem dX10_joins_60 : decode cX10_joins 60 = .ok (.iload_n 3, 1) := by decide +kernel
theorem dX10_joins_61 : decode cX10_joins 61 = .ok (.ishr, 1) := by decide +kernel
theorem dX10_joins_62 : decode cX10_joins 62 = .ok (.iconst 1, 1) := by decide +kernel
theorem dX10_joins_63 : decode cX10_joins 63 = .ok (.iand, 1) := by decide +kernel
theorem dX10_joins_64 : decode cX10_joins 64 = .ok (.iconst 1, 1) := by decide +kernel
theorem dX10_joins_65 : decode cX10_joins 65 = .ok (.if_icmp .ne 89, 3) := by decide +kernel
theorem dX10_joins_68 : decode cX10_joins 68 = .ok (.iload_n 2, 1) := by decide +kernel
theorem dX10_joins_69 : decode cX10_joins 69 = .ok (.iload 4, 2) := by decide +kernel
theorem dX10_joins_71 : decode cX10_joins 71 = .ok (.iload 5, 2) := by decide +kernel
theorem dX10_joins_73 : decode cX10_joins 73 = .ok (.if_icmp .eq 7, 3) := by decide +kernel
theorem dX10_joins_76 : decode cX10_joins 76 = .ok (.iconst 1, 1) := by decide +kernel
theorem dX10_joins_77 : decode cX10_joins 77 = .ok (.goto 4, 3) := by decide +kernel
theorem dX10_joins_80 : decode cX10_joins 80 = .ok (.iconst 0, 1) := by decide +kernel
theorem dX10_joins_81 : decode cX10_joins 81 = .ok (.iand, 1) := by decide +kernel
theorem dX10_joins_82 : decode cX10_joins 82 = .ok (.istore_n 2, 1) := by decide +kernel
theorem dX10_joins_83 : decode cX10_joins 83 = .ok (.iconst 0, 1) := by decide +kernel
theorem dX10_joins_84 : decode cX10_joins 84 = .ok (.istore 6, 2) := by decide +kernel
theorem dX10_joins_86 : decode cX10_joins 86 = .ok (.iload 6, 2) := by decide +kernel
theorem dX10_joins_88 : decode cX10_joins 88 = .ok (.bipush 6, 2) := by decide +kernel
theorem dX10_joins_90 : decode cX10_joins 90 = .ok (.if_icmp .ge 64, 3) := by decide +kernel
theorem dX10_joins_93 : decode cX10_joins 93 = .ok (.aload_n 0, 1) := by decide +kernel
theorem dX10_joins_94 : decode cX10_joins 94 = .ok (.getfield 34, 3) := by decide +kernel
theorem dX10_joins_97 : decode cX10_joins 97 = .ok (.iload 6, 2) := by decide +kernel
theorem dX10_joins_99 : decode cX10_joins 99 = .ok (.aload_n 0, 1) := by decide +kernel
theorem dX10_joins_100 : decode cX10_joins 100 = .ok (.getfield 34, 3) := by decide +kernel
theorem dX10_joins_103 : decode cX10_joins 103 = .ok (.iload 6, 2) := by decide +kernel
theorem dX10_joins_105 : decode cX10_joins 105 = .ok (.iaload, 1) := by decide +kernel
theorem dX10_joins_106 : decode cX10_joins 106 = .ok (.iload 4, 2) := by decide +kernel
theorem dX10_joins_108 : decode cX10_joins 108 = .ok (.if_icmp .eq 15, 3) := by decide +kernel
theorem dX10_joins_111 : decode cX10_joins 111 = .ok (.aload_n 0, 1) := by decide +kernel
theorem dX10_joins_112 : decode cX10_joins 112 = .ok (.getfield 34, 3) := by decide +kernel
theorem dX10_joins_115 : decode cX10_joins 115 = .ok (.iload 6, 2) := by decide +kernel
theorem dX10_joins_117 : decode cX10_joins 117 = .ok (.iaload, 1) := by decide +kernel
theorem dX10_joins_118 : decode cX10_joins 118 = .ok (.iload 5, 2) := by decide +kernel
theorem dX10_joins_120 : decode cX10_joins 120 = .ok (.if_icmp .ne 20, 3) := by decide +kernel
theorem dX10_joins_123 : decode cX10_joins 123 = .ok (.iload 4, 2) := by decide +kernel
theorem dX10_joins_125 : decode cX10_joins 125 = .ok (.iload 5, 2) := by decide +kernel
theorem dX10_joins_127 : decode cX10_joins 127 = .ok (.if_icmp .ge 8, 3) := by decide +kernel
theorem dX10_joins_130 : decode cX10_joins 130 = .ok (.iload 4, 2) := by decide +kernel
theorem dX10_joins_132 : decode cX10_joins 132 = .ok (.goto 15, 3) := by decide +kernel
theorem dX10_joins_135 : decode cX10_joins 135 = .ok (.iload 5, 2) := by decide +kernel
theorem dX10_joins_137 : decode cX10_joins 137 = .ok (.goto 10, 3) := by decide +kernel
theorem dX10_joins_140 : decode cX10_joins 140 = .ok (.aload_n 0, 1) := by decide +kernel
theorem dX10_joins_141 : decode cX10_joins 141 = .ok (.getfield 34, 3) := by decide +kernel
theorem dX10_joins_144 : decode cX10_joins 144 = .ok (.iload 6, 2) := by decide +kernel
theorem dX10_joins_146 : decode cX10_joins 146 = .ok (.iaload, 1) := by decide +kernel
theorem dX10_joins_147 : decode cX10_joins 147 = .ok (.iastore, 1) := by decide +kernel
theorem dX10_joins_148 : decode cX10_joins 148 = .ok (.iinc 6 1, 3) := by decide +kernel
theorem dX10_joins_151 : decode cX10_joins 151 = .ok (.goto (-65), 3) := by decide +kernel
theorem dX10_joins_154 : decode cX10_joins 154 = .ok (.iinc 3 1, 3) := by decide +kernel
theorem dX10_joins_157 : decode cX10_joins 157 = .ok (.goto (-132), 3) := by decide +kernel
theorem dX10_joins_160 : decode cX10_joins 160 = .ok (.iload_n 2, 1) := by decide +kernel
theorem dX10_joins_161 : decode cX10_joins 161 = .ok (.ireturn, 1) := by decide +kernel
set_option maxRecDepth 20000 in
theorem ggX10_hang_X10_joins : GoodIn wsX10_hang wsX10_joins := goodIn_r _ [8, 3, 1, 9, 10, 11, 12, 13, 14, 15, 16, 17, 18, 19, 20, 21, 22, 23, 24, 25, 26, 27, 28, 29, 30, 31, 32, 33, 34] (by decide +kernel) (by decide +kernel)
set_option maxRecDepth 20000 in
theorem gX10_hang_X10_joins : GoodIn wsX10_hang (wsV RX10 132 RX10 yX10_joins wsX10_joins) := goodIn_app (goodIn_of _ (by decide +kernel)) ggX10_hang_X10_joins
theorem dX10_hang_0 : decode cX10_hang 0 = .ok (.aload_n 0, 1) := by decide +kernel
theorem dX10_hang_1 : decode cX10_hang 1 = .ok (.iconst 1, 1) := by decide +kernel
theorem dX10_hang_2 : decode cX10_hang 2 = .ok (.aload_n 0, 1) := by decide +kernel
theorem dX10_hang_3 : decode cX10_hang 3 = .ok (.getfield 119, 3) := by decide +kernel
theorem dX10_hang_6 : decode cX10_hang 6 = .ok (.ishl, 1) := by decide +kernel
theorem dX10_hang_7 : decode cX10_hang 7 = .ok (.iconst 1, 1) := by decide +kernel
theorem dX10_hang_8 : decode cX10_hang 8 = .ok (.isub, 1) := by decide +kernel
theorem dX10_hang_9 : decode cX10_hang 9 = .ok (.invokevirtual 132, 3) := by decide +kernel
theorem dX10_hang_12 : decode cX10_hang 12 = .ok (.pop, 1) := by decide +kernel
theorem dX10_hang_13 : decode cX10_hang 13 = .ok (.iconst 0, 1) := by decide +kernel
theorem dX10_hang_14 : decode cX10_hang 14 = .ok (.istore_n 3, 1) := by decide +kernel
theorem dX10_hang_15 : decode cX10_hang 15 = .ok (.iload_n 3, 1) := by decide +kernel
theorem dX10_hang_16 : decode cX10_hang 16 = .ok (.bipush 6, 2) := by decide +kernel
theorem dX10_hang_18 : decode cX10_hang 18 = .ok (.if_icmp .ge 21, 3) := by decide +kernel
theorem dX10_hang_21 : decode cX10_hang 21 = .ok (.aload_n 0, 1) := by decide +kernel
theorem dX10_hang_22 : decode cX10_hang 22 = .ok (.getfield 37, 3) := by decide +kernel
theorem dX10_hang_25 : decode cX10_hang 25 = .ok (.iload_n 3, 1) := by decide +kernel
theorem dX10_hang_26 : decode cX10_hang 26 = .ok (.aload_n 0, 1) := by decide +kernel
theorem dX10_hang_27 : decode cX10_hang 27 = .ok (.getfield 34, 3) := by decide +kernel
theorem dX10_hang_30 : decode cX10_hang 30 = .ok (.iload_n 3, 1) := by decide +kernel
theorem dX10_hang_31 : decode cX10_hang 31 = .ok (.iaload, 1) := by decide +kernel
theorem dX10_hang_32 : decode cX10_hang 32 = .ok (.iastore, 1) := by decide +kernel
theorem dX10_hang_33 : decode cX10_hang 33 = .ok (.iinc 3 1, 3) := by decide +kernel
theorem dX10_hang_36 : decode cX10_hang 36 = .ok (.goto (-21), 3) := by decide +kernel
theorem dX10_hang_39 : decode cX10_hang 39 = .ok (.aload_n 0, 1) := by decide +kernel
theorem dX10_hang_40 : decode cX10_hang 40 = .ok (.getfield 37, 3) := by decide +kernel
theorem dX10_hang_43 : decode cX10_hang 43 = .ok (.iload_n 1, 1) := by decide +kernel
theorem dX10_hang_44 : decode cX10_hang 44 = .ok (.iaload, 1) := by decide +kernel
theorem dX10_hang_45 : decode cX10_hang 45 = .ok (.aload_n 0, 1) := by decide +kernel
theorem dX10_hang_46 : decode cX10_hang 46 = .ok (.getfield 37, 3) := by decide +kernel
theorem dX10_hang_49 : decode cX10_hang 49 = .ok (.iload_n 2, 1) := by decide +kernel
theorem dX10_hang_50 : decode cX10_hang 50 = .ok (.iaload, 1) := by decide +kernel
theorem dX10_hang_51 : decode cX10_hang 51 = .ok (.if_icmp .ne 7, 3) := by decide +kernel
theorem dX10_hang_54 : decode cX10_hang 54 = .ok (.iconst 1, 1) := by decide +kernel
theorem dX10_hang_55 : decode cX10_hang 55 = .ok (.goto 4, 3) := by decide +kernel
theorem dX10_hang_58 : decode cX10_hang 58 = .ok (.iconst 0, 1) := by decide +kernel
theorem dX10_hang_59 : decode cX10_hang 59 = .ok (.ireturn, 1) := by decide +kernel
theorem dX10_sizeOf_0 : decode cX10_sizeOf 0 = .ok (.iconst 0, 1) := by decide +kernel
theorem dX10_sizeOf_1 : decode cX10_sizeOf 1 = .ok (.istore_n 2, 1) := by decide +kernel
theorem dX10_sizeOf_2 : decode cX10_sizeOf 2 = .ok (.iconst 0, 1) := by decide +kernel
theorem dX10_sizeOf_3 : decode cX10_sizeOf 3 = .ok (.istore_n 3, 1) := by decide +kernel
theorem dX10_sizeOf_4 : decode cX10_sizeOf 4 = .ok (.iload_n 3, 1) := by decide +kernel
theorem dX10_sizeOf_5 : decode cX10_sizeOf 5 = .ok (.bipush 6, 2) := by decide +kernel
theorem dX10_sizeOf_7 : decode cX10_sizeOf 7 = .ok (.if_icmp .ge 32, 3) := by decide +kernel
theorem dX10_sizeOf_10 : decode cX10_sizeOf 10 = .ok (.iload_n 2, 1) := by decide +kernel
theorem dX10_sizeOf_11 : decode cX10_sizeOf 11 = .ok (.aload_n 0, 1) := by decide +kernel
theorem dX10_sizeOf_12 : decode cX10_sizeOf 12 = .ok (.getfield 37, 3) := by decide +kernel
theorem dX10_sizeOf_15 : decode cX10_sizeOf 15 = .ok (.iload_n 3, 1) := by decide +kernel
theorem dX10_sizeOf_16 : decode cX10_sizeOf 16 = .ok (.iaload, 1) := by decide +kernel
theorem dX10_sizeOf_17 : decode cX10_sizeOf 17 = .ok (.aload_n 0, 1) := by decide +kernel
theorem dX10_sizeOf_18 : decode cX10_sizeOf 18 = .ok (.getfield 37, 3) := by decide +kernel
theorem dX10_sizeOf_21 : decode cX10_sizeOf 21 = .ok (.iload_n 1, 1) := by decide +kernel
theorem dX10_sizeOf_22 : decode cX10_sizeOf 22 = .ok (.iaload, 1) := by decide +kernel
theorem dX10_sizeOf_23 : decode cX10_sizeOf 23 = .ok (.if_icmp .ne 7, 3) := by decide +kernel
theorem dX10_sizeOf_26 : decode cX10_sizeOf 26 = .ok (.iconst 1, 1) := by decide +kernel
theorem dX10_sizeOf_27 : decode cX10_sizeOf 27 = .ok (.goto 4, 3) := by decide +kernel
theorem dX10_sizeOf_30 : decode cX10_sizeOf 30 = .ok (.iconst 0, 1) := by decide +kernel
theorem dX10_sizeOf_31 : decode cX10_sizeOf 31 = .ok (.iadd, 1) := by decide +kernel
theorem dX10_sizeOf_32 : decode cX10_sizeOf 32 = .ok (.istore_n 2, 1) := by decide +kernel
theorem dX10_sizeOf_33 : decode cX10_sizeOf 33 = .ok (.iinc 3 1, 3) := by decide +kernel
theorem dX10_sizeOf_36 : decode cX10_sizeOf 36 = .ok (.goto (-32), 3) := by decide +kernel
theorem dX10_sizeOf_39 : decode cX10_sizeOf 39 = .ok (.iload_n 2, 1) := by decide +kernel
theorem dX10_sizeOf_40 : decode cX10_sizeOf 40 = .ok (.ireturn, 1) := by decide +kernel
theorem dX10_bits_0 : decode cX10_bits 0 = .ok (.iconst 0, 1) := by decide +kernel
theorem dX10_bits_1 : decode cX10_bits 1 = .ok (.istore_n 1, 1) := by decide +kernel
theorem dX10_bits_2 : decode cX10_bits 2 = .ok (.iconst 0, 1) := by decide +kernel
theorem dX10_bits_3 : decode cX10_bits 3 = .ok (.istore_n 2, 1) := by decide +kernel
theorem dX10_bits_4 : decode cX10_bits 4 = .ok (.iload_n 2, 1) := by decide +kernel
theorem dX10_bits_5 : decode cX10_bits 5 = .ok (.bipush 12, 2) := by decide +kernel
theorem dX10_bits_7 : decode cX10_bits 7 = .ok (.if_icmp .ge 17, 3) := by decide +kernel
theorem dX10_bits_10 : decode cX10_bits 10 = .ok (.iload_n 1, 1) := by decide +kernel
theorem dX10_bits_11 : decode cX10_bits 11 = .ok (.iload_n 0, 1) := by decide +kernel
theorem dX10_bits_12 : decode cX10_bits 12 = .ok (.iload_n 2, 1) := by decide +kernel
theorem dX10_bits_13 : decode cX10_bits 13 = .ok (.ishr, 1) := by decide +kernel
theorem dX10_bits_14 : decode cX10_bits 14 = .ok (.iconst 1, 1) := by decide +kernel
theorem dX10_bits_15 : decode cX10_bits 15 = .ok (.iand, 1) := by decide +kernel
theorem dX10_bits_16 : decode cX10_bits 16 = .ok (.iadd, 1) := by decide +kernel
theorem dX10_bits_17 : decode cX10_bits 17 = .ok (.istore_n 1, 1) := by decide +kernel
theorem dX10_bits_18 : decode cX10_bits 18 = .ok (.iinc 2 1, 3) := by decide +kernel
theorem dX10_bits_21 : decode cX10_bits 21 = .ok (.goto (-17), 3) := by decide +kernel
theorem dX10_bits_24 : decode cX10_bits 24 = .ok (.iload_n 1, 1) := by decide +kernel
theorem dX10_bits_25 : decode cX10_bits 25 = .ok (.ireturn, 1) := by decide +kernel
theorem dX10_isOf_0 : decode cX10_isOf 0 = .ok (.iconst 1, 1) := by decide +kernel
theorem dX10_isOf_1 : decode cX10_isOf 1 = .ok (.istore_n 3, 1) := by decide +kernel
theorem dX10_isOf_2 : decode cX10_isOf 2 = .ok (.iconst 0, 1) := by decide +kernel
theorem dX10_isOf_3 : decode cX10_isOf 3 = .ok (.istore 4, 2) := by decide +kernel
theorem dX10_isOf_5 : decode cX10_isOf 5 = .ok (.iload 4, 2) := by decide +kernel
theorem dX10_isOf_7 : decode cX10_isOf 7 = .ok (.aload_n 0, 1) := by decide +kernel
theorem dX10_isOf_8 : decode cX10_isOf 8 = .ok (.getfield 119, 3) := by decide +kernel
theorem dX10_isOf_11 : decode cX10_isOf 11 = .ok (.if_icmp .ge 47, 3) := by decide +kernel
theorem dX10_isOf_14 : decode cX10_isOf 14 = .ok (.iload_n 3, 1) := by decide +kernel
theorem dX10_isOf_15 : decode cX10_isOf 15 = .ok (.iload_n 1, 1) := by decide +kernel
theorem dX10_isOf_16 : decode cX10_isOf 16 = .ok (.iload 4, 2) := by decide +kernel
theorem dX10_isOf_18 : decode cX10_isOf 18 = .ok (.ishr, 1) := by decide +kernel
theorem dX10_isOf_19 : decode cX10_isOf 19 = .ok (.iconst 1, 1) := by decide +kernel
theorem dX10_isOf_20 : decode cX10_isOf 20 = .ok (.iand, 1) := by decide +kernel
theorem dX10_isOf_21 : decode cX10_isOf 21 = .ok (.ifCond .eq 24, 3) := by decide +kernel
theorem dX10_isOf_24 : decode cX10_isOf 24 = .ok (.aload_n 0, 1) := by decide +kernel
theorem dX10_isOf_25 : decode cX10_isOf 25 = .ok (.getfield 37, 3) := by decide +kernel
theorem dX10_isOf_28 : decode cX10_isOf 28 = .ok (.aload_n 0, 1) := by decide +kernel
theorem dX10_isOf_29 : decode cX10_isOf 29 = .ok (.getfield 22, 3) := by decide +kernel
theorem dX10_isOf_32 : decode cX10_isOf 32 = .ok (.iload 4, 2) := by decide +kernel
theorem dX10_isOf_34 : decode cX10_isOf 34 = .ok (.iaload, 1) := by decide +kernel
theorem dX10_isOf_35 : decode cX10_isOf 35 = .ok (.iaload, 1) := by decide +kernel
theorem dX10_isOf_36 : decode cX10_isOf 36 = .ok (.aload_n 0, 1) := by decide +kernel
theorem dX10_isOf_37 : decode cX10_isOf 37 = .ok (.getfield 37, 3) := by decide +kernel
theorem dX10_isOf_40 : decode cX10_isOf 40 = .ok (.iload_n 2, 1) := by decide +kernel
theorem dX10_isOf_41 : decode cX10_isOf 41 = .ok (.iaload, 1) := by decide +kernel
theorem dX10_isOf_42 : decode cX10_isOf 42 = .ok (.if_icmp .ne 7, 3) := by decide +kernel
theorem dX10_isOf_45 : decode cX10_isOf 45 = .ok (.iconst 1, 1) := by decide +kernel
theorem dX10_isOf_46 : decode cX10_isOf 46 = .ok (.goto 4, 3) := by decide +kernel
theorem dX10_isOf_49 : decode cX10_isOf 49 = .ok (.iconst 0, 1) := by decide +kernel
theorem dX10_isOf_50 : decode cX10_isOf 50 = .ok (.iand, 1) := by decide +kernel
theorem dX10_isOf_51 : decode cX10_isOf 51 = .ok (.istore_n 3, 1) := by decide +kernel
theorem dX10_isOf_52 : decode cX10_isOf 52 = .ok (.iinc 4 1, 3) := by decide +kernel
theorem dX10_isOf_55 : decode cX10_isOf 55 = .ok (.goto (-50), 3) := by decide +kernel
theorem dX10_isOf_58 : decode cX10_isOf 58 = .ok (.iload_n 3, 1) := by decide +kernel
theorem dX10_isOf_59 : decode cX10_isOf 59 = .ok (.ireturn, 1) := by decide +kernel
theorem dX10_weight_0 : decode cX10_weight 0 = .ok (.lconst 1, 1) := by decide +kernel
theorem dX10_weight_1 : decode cX10_weight 1 = .ok (.lstore_n 2, 1) := by decide +kernel
theorem dX10_weight_2 : decode cX10_weight 2 = .ok (.iconst 0, 1) := by decide +kernel
theorem dX10_weight_3 : decode cX10_weight 3 = .ok (.istore 4, 2) := by decide +kernel
theorem dX10_weight_5 : decode cX10_weight 5 = .ok (.iload 4, 2) := by decide +kernel
theorem dX10_weight_7 : decode cX10_weight 7 = .ok (.aload_n 0, 1) := by decide +kernel
theorem dX10_weight_8 : decode cX10_weight 8 = .ok (.getfield 119, 3) := by decide +kernel
theorem dX10_weight_11 : decode cX10_weight 11 = .ok (.if_icmp .ge 45, 3) := by decide +kernel
theorem dX10_weight_14 : decode cX10_weight 14 = .ok (.lload_n 2, 1) := by decide +kernel
theorem dX10_weight_15 : decode cX10_weight 15 = .ok (.iload_n 1, 1) := by decide +kernel
theorem dX10_weight_16 : decode cX10_weight 16 = .ok (.iload 4, 2) := by decide +kernel
theorem dX10_weight_18 : decode cX10_weight 18 = .ok (.ishr, 1) := by decide +kernel
theorem dX10_weight_19 : decode cX10_weight 19 = .ok (.iconst 1, 1) := by decide +kernel
theorem dX10_weight_20 : decode cX10_weight 20 = .ok (.iand, 1) := by decide +kernel
theorem dX10_weight_21 : decode cX10_weight 21 = .ok (.iconst 1, 1) := by decide +kernel
theorem dX10_weight_22 : decode cX10_weight 22 = .ok (.if_icmp .ne 25, 3) := by decide +kernel
theorem dX10_weight_25 : decode cX10_weight 25 = .ok (.bipush 12, 2) := by decide +kernel
theorem dX10_weight_27 : decode cX10_weight 27 = .ok (.aload_n 0, 1) := by decide +kernel
theorem dX10_weight_28 : decode cX10_weight 28 = .ok (.getfield 31, 3) := by decide +kernel
theorem dX10_weight_31 : decode cX10_weight 31 = .ok (.iload 4, 2) := by decide +kernel
theorem dX10_weight_33 : decode cX10_weight 33 = .ok (.iaload, 1) := by decide +kernel
theorem dX10_weight_34 : decode cX10_weight 34 = .ok (.imul, 1) := by decide +kernel
theorem dX10_weight_35 : decode cX10_weight 35 = .ok (.aload_n 0, 1) := by decide +kernel
theorem dX10_weight_36 : decode cX10_weight 36 = .ok (.getfield 28, 3) := by decide +kernel
theorem dX10_weight_39 : decode cX10_weight 39 = .ok (.iload 4, 2) := by decide +kernel
theorem dX10_weight_41 : decode cX10_weight 41 = .ok (.iaload, 1) := by decide +kernel
theorem dX10_weight_42 : decode cX10_weight 42 = .ok (.idiv, 1) := by decide +kernel
theorem dX10_weight_43 : decode cX10_weight 43 = .ok (.i2l, 1) := by decide +kernel
theorem dX10_weight_44 : decode cX10_weight 44 = .ok (.goto 4, 3) := by decide +kernel
theorem dX10_weight_47 : decode cX10_weight 47 = .ok (.lconst 1, 1) := by decide +kernel
theorem dX10_weight_48 : decode cX10_weight 48 = .ok (.lmul, 1) := by decide +kernel
theorem dX10_weight_49 : decode cX10_weight 49 = .ok (.lstore_n 2, 1) := by decide +kernel
theorem dX10_weight_50 : decode cX10_weight 50 = .ok (.iinc 4 1, 3) := by decide +kernel
theorem dX10_weight_53 : decode cX10_weight 53 = .ok (.goto (-48), 3) := by decide +kernel
theorem dX10_weight_56 : decode cX10_weight 56 = .ok (.lload_n 2, 1) := by decide +kernel
theorem dX10_weight_57 : decode cX10_weight 57 = .ok (.lreturn, 1) := by decide +kernel
set_option maxRecDepth 20000 in
theorem ggX10_between_X10_isKnot : GoodIn wsX10_between wsX10_isKnot := goodIn_r _ [12, 13, 14, 11, 15] (by decide +kernel) (by decide +kernel)
set_option maxRecDepth 20000 in
theorem gX10_between_X10_isKnot : GoodIn wsX10_between (va_wsS RX10 116 yX10_isKnot wsX10_isKnot) := goodIn_app (goodIn_of _ (by decide +kernel)) ggX10_between_X10_isKnot
set_option maxRecDepth 20000 in
theorem ggX10_between_X10_in : GoodIn wsX10_between wsX10_in := goodIn_r _ [15] (by decide +kernel) (by decide +kernel)
set_option maxRecDepth 20000 in
theorem gX10_between_X10_in : GoodIn wsX10_between (va_wsS RX10 89 yX10_in wsX10_in) := goodIn_app (goodIn_of _ (by decide +kernel)) ggX10_between_X10_in
set_option maxRecDepth 20000 in
theorem ggX10_between_X10_hang : GoodIn wsX10_between wsX10_hang := goodIn_r _ [19, 4, 20, 5, 21, 22, 23, 11, 24, 25, 26, 51, 52, 53, 54, 55, 56, 57, 58, 59, 60, 61, 62, 63, 64, 65, 66, 67, 68, 69, 70, 71, 72, 73, 74] (by decide +kernel) (by decide +kernel)
set_option maxRecDepth 20000 in
theorem gX10_between_X10_hang : GoodIn wsX10_between (wsV RX10 137 RX10 yX10_hang wsX10_hang) := goodIn_app (goodIn_of _ (by decide +kernel)) ggX10_between_X10_hang
set_option maxRecDepth 20000 in
theorem ggX10_between_X10_sizeOf : GoodIn wsX10_between wsX10_sizeOf := goodIn_r _ [30, 20, 51, 52, 53, 54, 55, 56, 57, 58, 59, 60, 61, 62, 63, 64, 65, 66, 67, 68, 69, 70, 71, 72, 73, 74] (by decide +kernel) (by decide +kernel)
set_option maxRecDepth 20000 in
theorem gX10_between_X10_sizeOf : GoodIn wsX10_between (wsV RX10 142 RX10 yX10_sizeOf wsX10_sizeOf) := goodIn_app (goodIn_of _ (by decide +kernel)) ggX10_between_X10_sizeOf
set_option maxRecDepth 20000 in
theorem ggX10_between_X10_bits : GoodIn wsX10_between wsX10_bits := goodIn_r _ [33] (by decide +kernel) (by decide +kernel)
set_option maxRecDepth 20000 in
theorem gX10_between_X10_bits : GoodIn wsX10_between (va_wsS RX10 145 yX10_bits wsX10_bits) := goodIn_app (goodIn_of _ (by decide +kernel)) ggX10_between_X10_bits
set_option maxRecDepth 20000 in
theorem ggX10_between_X10_isOf : GoodIn wsX10_between wsX10_isOf := goodIn_r _ [37, 4, 20, 25, 51, 52, 53, 54, 55, 56, 57, 58, 59, 60, 61, 62, 63, 64, 65, 66, 67, 68, 69, 70, 71, 72, 73, 74] (by decide +kernel) (by decide +kernel)
set_option maxRecDepth 20000 in
theorem gX10_between_X10_isOf : GoodIn wsX10_between (wsV RX10 148 RX10 yX10_isOf wsX10_isOf) := goodIn_app (goodIn_of _ (by decide +kernel)) ggX10_between_X10_isOf
set_option maxRecDepth 20000 in
theorem ggX10_between_X10_joins : GoodIn wsX10_between wsX10_joins := goodIn_r _ [24, 5, 4, 25, 26, 51, 52, 53, 54, 55, 56, 57, 58, 59, 60, 61, 62, 63, 64, 65, 66, 67, 68, 69, 70, 71, 72, 73, 74] (by decide +kernel) (by decide +kernel)
set_option maxRecDepth 20000 in
theorem gX10_between_X10_joins : GoodIn wsX10_between (wsV RX10 132 RX10 yX10_joins wsX10_joins) := goodIn_app (goodIn_of _ (by decide +kernel)) ggX10_between_X10_joins
set_option maxRecDepth 20000 in
theorem ggX10_between_X10_weight : GoodIn wsX10_between wsX10_weight := goodIn_r _ [41, 4, 42, 43, 51, 52, 53, 54, 55, 56, 57, 58, 59, 60, 61, 62, 63, 64, 65, 66, 67, 68, 69, 70, 71, 72, 73, 74] (by decide +kernel) (by decide +kernel)
set_option maxRecDepth 20000 in
theorem gX10_between_X10_weight : GoodIn wsX10_between (wsV RX10 151 RX10 yX10_weight wsX10_weight) := goodIn_app (goodIn_of _ (by decide +kernel)) ggX10_between_X10_weight
set_option maxRecDepth 20000 in
theorem ggX10_between_X10_least : GoodIn wsX10_between wsX10_least := goodIn_r _ [47, 7, 8, 48, 49, 11, 50, 51, 52, 53, 54, 55, 56, 57, 58, 59, 60, 61, 62, 63, 64, 65, 66, 67, 68, 69, 70, 71, 72, 73, 74] (by decide +kernel) (by decide +kernel)
set_option maxRecDepth 20000 in
theorem gX10_between_X10_least : GoodIn wsX10_between (wsV RX10 74 RX10 yX10_least wsX10_least) := goodIn_app (goodIn_of _ (by decide +kernel)) ggX10_between_X10_least
theorem dX10_between_0 : decode cX10_between 0 = .ok (.aload_n 0, 1) := by decide +kernel
theorem dX10_between_1 : decode cX10_between 1 = .ok (.iconst 0, 1) := by decide +kernel
theorem dX10_between_2 : decode cX10_between 2 = .ok (.putfield 59, 3) := by decide +kernel
theorem dX10_between_5 : decode cX10_between 5 = .ok (.iload_n 1, 1) := by decide +kernel
theorem dX10_between_6 : decode cX10_between 6 = .ok (.invokestatic 116, 3) := by decide +kernel
theorem dX10_between_9 : decode cX10_between 9 = .ok (.ifCond .eq 19, 3) := by decide +kernel
theorem dX10_between_12 : decode cX10_between 12 = .ok (.iload_n 2, 1) := by decide +kernel
theorem dX10_between_13 : decode cX10_between 13 = .ok (.invokestatic 116, 3) := by decide +kernel
theorem dX10_between_16 : decode cX10_between 16 = .ok (.ifCond .eq 12, 3) := by decide +kernel
theorem dX10_between_19 : decode cX10_between 19 = .ok (.iload_n 3, 1) := by decide +kernel
theorem dX10_between_20 : decode cX10_between 20 = .ok (.iconst 0, 1) := by decide +kernel
theorem dX10_between_21 : decode cX10_between 21 = .ok (.iconst 1, 1) := by decide +kernel
theorem dX10_between_22 : decode cX10_between 22 = .ok (.invokestatic 89, 3) := by decide +kernel
theorem dX10_between_25 : decode cX10_between 25 = .ok (.ifCond .ne 7, 3) := by decide +kernel
theorem dX10_between_28 : decode cX10_between 28 = .ok (.ldc2_w 135, 3) := by decide +kernel
theorem dX10_between_31 : decode cX10_between 31 = .ok (.lreturn, 1) := by decide +kernel
theorem dX10_between_32 : decode cX10_between 32 = .ok (.iload_n 1, 1) := by decide +kernel
theorem dX10_between_33 : decode cX10_between 33 = .ok (.iload_n 2, 1) := by decide +kernel
theorem dX10_between_34 : decode cX10_between 34 = .ok (.if_icmp .ne 6, 3) := by decide +kernel
theorem dX10_between_37 : decode cX10_between 37 = .ok (.iload_n 3, 1) := by decide +kernel
theorem dX10_between_38 : decode cX10_between 38 = .ok (.i2l, 1) := by decide +kernel
theorem dX10_between_39 : decode cX10_between 39 = .ok (.lreturn, 1) := by decide +kernel
theorem dX10_between_40 : decode cX10_between 40 = .ok (.aload_n 0, 1) := by decide +kernel
theorem dX10_between_41 : decode cX10_between 41 = .ok (.iload_n 1, 1) := by decide +kernel
theorem dX10_between_42 : decode cX10_between 42 = .ok (.iload_n 2, 1) := by decide +kernel
theorem dX10_between_43 : decode cX10_between 43 = .ok (.invokevirtual 137, 3) := by decide +kernel
theorem dX10_between_46 : decode cX10_between 46 = .ok (.ifCond .ne 7, 3) := by decide +kernel
theorem dX10_between_49 : decode cX10_between 49 = .ok (.ldc2_w 140, 3) := by decide +kernel
theorem dX10_between_52 : decode cX10_between 52 = .ok (.lreturn, 1) := by decide +kernel
theorem dX10_between_53 : decode cX10_between 53 = .ok (.aload_n 0, 1) := by decide +kernel
theorem dX10_between_54 : decode cX10_between 54 = .ok (.iload_n 1, 1) := by decide +kernel
theorem dX10_between_55 : decode cX10_between 55 = .ok (.invokevirtual 142, 3) := by decide +kernel
theorem dX10_between_58 : decode cX10_between 58 = .ok (.istore 4, 2) := by decide +kernel
theorem dX10_between_60 : decode cX10_between 60 = .ok (.lconst 0, 1) := by decide +kernel
theorem dX10_between_61 : decode cX10_between 61 = .ok (.lstore 5, 2) := by decide +kernel
theorem dX10_between_63 : decode cX10_between 63 = .ok (.lconst 0, 1) := by decide +kernel
theorem dX10_between_64 : decode cX10_between 64 = .ok (.lstore 7, 2) := by decide +kernel
theorem dX10_between_66 : decode cX10_between 66 = .ok (.iconst 0, 1) := by decide +kernel
theorem dX10_between_67 : decode cX10_between 67 = .ok (.istore 9, 2) := by decide +kernel
theorem dX10_between_69 : decode cX10_between 69 = .ok (.iload 9, 2) := by decide +kernel
theorem dX10_between_71 : decode cX10_between 71 = .ok (.iconst 1, 1) := by decide +kernel
theorem dX10_between_72 : decode cX10_between 72 = .ok (.aload_n 0, 1) := by decide +kernel
theorem dX10_between_73 : decode cX10_between 73 = .ok (.getfield 119, 3) := by decide +kernel
theorem dX10_between_76 : decode cX10_between 76 = .ok (.ishl, 1) := by decide +kernel
theorem dX10_between_77 : decode cX10_between 77 = .ok (.if_icmp .ge 102, 3) := by decide +kernel
theorem dX10_between_80 : decode cX10_between 80 = .ok (.iload 9, 2) := by decide +kernel
theorem dX10_between_82 : decode cX10_between 82 = .ok (.invokestatic 145, 3) := by decide +kernel
theorem dX10_between_85 : decode cX10_between 85 = .ok (.istore 10, 2) := by decide +kernel
theorem dX10_between_87 : decode cX10_between 87 = .ok (.iload 10, 2) := by decide +kernel
theorem dX10_between_89 : decode cX10_between 89 = .ok (.iload 4, 2) := by decide +kernel
theorem dX10_between_91 : decode cX10_between 91 = .ok (.iconst 1, 1) := by decide +kernel
theorem dX10_between_92 : decode cX10_between 92 = .ok (.isub, 1) := by decide +kernel
theorem dX10_between_93 : decode cX10_between 93 = .ok (.if_icmp .eq 12, 3) := by decide +kernel
theorem dX10_between_96 : decode cX10_between 96 = .ok (.iload 10, 2) := by decide +kernel
theorem dX10_between_98 : decode cX10_between 98 = .ok (.iload 4, 2) := by decide +kernel
theorem dX10_between_100 : decode cX10_between 100 = .ok (.iconst 2, 1) := by decide +kernel
theorem dX10_between_101 : decode cX10_between 101 = .ok (.isub, 1) := by decide +kernel
theorem dX10_between_102 : decode cX10_between 102 = .ok (.if_icmp .ne 71, 3) := by decide +kernel
theorem dX10_between_105 : decode cX10_between 105 = .ok (.aload_n 0, 1) := by decide +kernel
theorem dX10_between_106 : decode cX10_between 106 = .ok (.iload 9, 2) := by decide +kernel
theorem dX10_between_108 : decode cX10_between 108 = .ok (.iload_n 1, 1) := by decide +kernel
theorem dX10_between_109 : decode cX10_between 109 = .ok (.invokevirtual 148, 3) := by decide +kernel
theorem dX10_between_112 : decode cX10_between 112 = .ok (.ifCond .eq 61, 3) := by decide +kernel
theorem dX10_between_115 : decode cX10_between 115 = .ok (.aload_n 0, 1) := by decide +kernel
theorem dX10_between_116 : decode cX10_between 116 = .ok (.iload 9, 2) := by decide +kernel
theorem dX10_between_118 : decode cX10_between 118 = .ok (.invokevirtual 132, 3) := by decide +kernel
theorem dX10_between_121 : decode cX10_between 121 = .ok (.ifCond .eq 52, 3) := by decide +kernel
theorem dX10_between_124 : decode cX10_between 124 = .ok (.iload 10, 2) := by decide +kernel
theorem dX10_between_126 : decode cX10_between 126 = .ok (.iload 4, 2) := by decide +kernel
theorem dX10_between_128 : decode cX10_between 128 = .ok (.iconst 1, 1) := by decide +kernel
theorem dX10_between_129 : decode cX10_between 129 = .ok (.isub, 1) := by decide +kernel
theorem dX10_between_130 : decode cX10_between 130 = .ok (.if_icmp .ne 17, 3) := by decide +kernel
theorem dX10_between_133 : decode cX10_between 133 = .ok (.lload 5, 2) := by decide +kernel
theorem dX10_between_135 : decode cX10_between 135 = .ok (.aload_n 0, 1) := by decide +kernel
theorem dX10_between_136 : decode cX10_between 136 = .ok (.iload 9, 2) := by decide +kernel
theorem dX10_between_138 : decode cX10_between 138 = .ok (.invokevirtual 151, 3) := by decide +kernel
theorem dX10_between_141 : decode cX10_between 141 = .ok (.ladd, 1) := by decide +kernel
theorem dX10_between_142 : decode cX10_between 142 = .ok (.lstore 5, 2) := by decide +kernel
theorem dX10_between_144 : decode cX10_between 144 = .ok (.goto 29, 3) := by decide +kernel
theorem dX10_between_147 : decode cX10_between 147 = .ok (.aload_n 0, 1) := by decide +kernel
theorem dX10_between_148 : decode cX10_between 148 = .ok (.getfield 34, 3) := by decide +kernel
theorem dX10_between_151 : decode cX10_between 151 = .ok (.iload_n 1, 1) := by decide +kernel
theorem dX10_between_152 : decode cX10_between 152 = .ok (.iaload, 1) := by decide +kernel
theorem dX10_between_153 : decode cX10_between 153 = .ok (.aload_n 0, 1) := by decide +kernel
theorem dX10_between_154 : decode cX10_between 154 = .ok (.getfield 34, 3) := by decide +kernel
theorem dX10_between_157 : decode cX10_between 157 = .ok (.iload_n 2, 1) := by decide +kernel
theorem dX10_between_158 : decode cX10_between 158 = .ok (.iaload, 1) := by decide +kernel
theorem dX10_between_159 : decode cX10_between 159 = .ok (.if_icmp .eq 14, 3) := by decide +kernel
theorem dX10_between_162 : decode cX10_between 162 = .ok (.lload 7, 2) := by decide +kernel
theorem dX10_between_164 : decode cX10_between 164 = .ok (.aload_n 0, 1) := by decide +kernel
theorem dX10_between_165 : decode cX10_between 165 = .ok (.iload 9, 2) := by decide +kernel
theorem dX10_between_167 : decode cX10_between 167 = .ok (.invokevirtual 151, 3) := by decide +kernel
theorem dX10_between_170 : decode cX10_between 170 = .ok (.ladd, 1) := by decide +kernel
theorem dX10_between_171 : decode cX10_between 171 = .ok (.lstore 7, 2) := by decide +kernel
theorem dX10_between_173 : decode cX10_between 173 = .ok (.iinc 9 1, 3) := by decide +kernel
theorem dX10_between_176 : decode cX10_between 176 = .ok (.goto (-107), 3) := by decide +kernel
theorem dX10_between_179 : decode cX10_between 179 = .ok (.aload_n 0, 1) := by decide +kernel
theorem dX10_between_180 : decode cX10_between 180 = .ok (.ldc2_w 155, 3) := by decide +kernel
theorem dX10_between_183 : decode cX10_between 183 = .ok (.lload 7, 2) := by decide +kernel
theorem dX10_between_185 : decode cX10_between 185 = .ok (.lmul, 1) := by decide +kernel
theorem dX10_between_186 : decode cX10_between 186 = .ok (.lload 5, 2) := by decide +kernel
theorem dX10_between_188 : decode cX10_between 188 = .ok (.invokevirtual 74, 3) := by decide +kernel
theorem dX10_between_191 : decode cX10_between 191 = .ok (.iload_n 3, 1) := by decide +kernel
theorem dX10_between_192 : decode cX10_between 192 = .ok (.ifCond .ne 10, 3) := by decide +kernel
theorem dX10_between_195 : decode cX10_between 195 = .ok (.aload_n 0, 1) := by decide +kernel
theorem dX10_between_196 : decode cX10_between 196 = .ok (.getfield 67, 3) := by decide +kernel
theorem dX10_between_199 : decode cX10_between 199 = .ok (.goto 7, 3) := by decide +kernel
theorem dX10_between_202 : decode cX10_between 202 = .ok (.aload_n 0, 1) := by decide +kernel
theorem dX10_between_203 : decode cX10_between 203 = .ok (.getfield 71, 3) := by decide +kernel
theorem dX10_between_206 : decode cX10_between 206 = .ok (.lreturn, 1) := by decide +kernel
set_option maxRecDepth 20000 in
theorem ggX10_goes_X10_joins : GoodIn wsX10_goes wsX10_joins := goodIn_r _ [7, 1, 8, 2, 9, 10, 11, 12, 13, 14, 15, 16, 17, 18, 19, 20, 21, 22, 23, 24, 25, 26, 27, 28, 29, 30, 31, 32, 33] (by decide +kernel) (by decide +kernel)
set_option maxRecDepth 20000 in
theorem gX10_goes_X10_joins : GoodIn wsX10_goes (wsV RX10 132 RX10 yX10_joins wsX10_joins) := goodIn_app (goodIn_of _ (by decide +kernel)) ggX10_goes_X10_joins
theorem dX10_goes_0 : decode cX10_goes 0 = .ok (.iload_n 1, 1) := by decide +kernel
theorem dX10_goes_1 : decode cX10_goes 1 = .ok (.iload_n 2, 1) := by decide +kernel
theorem dX10_goes_2 : decode cX10_goes 2 = .ok (.ishr, 1) := by decide +kernel
theorem dX10_goes_3 : decode cX10_goes 3 = .ok (.iconst 1, 1) := by decide +kernel
theorem dX10_goes_4 : decode cX10_goes 4 = .ok (.iand, 1) := by decide +kernel
theorem dX10_goes_5 : decode cX10_goes 5 = .ok (.ifCond .ne 5, 3) := by decide +kernel
theorem dX10_goes_8 : decode cX10_goes 8 = .ok (.iconst 0, 1) := by decide +kernel
theorem dX10_goes_9 : decode cX10_goes 9 = .ok (.ireturn, 1) := by decide +kernel
theorem dX10_goes_10 : decode cX10_goes 10 = .ok (.aload_n 0, 1) := by decide +kernel
theorem dX10_goes_11 : decode cX10_goes 11 = .ok (.iload_n 1, 1) := by decide +kernel
theorem dX10_goes_12 : decode cX10_goes 12 = .ok (.iconst 1, 1) := by decide +kernel
theorem dX10_goes_13 : decode cX10_goes 13 = .ok (.iload_n 2, 1) := by decide +kernel
theorem dX10_goes_14 : decode cX10_goes 14 = .ok (.ishl, 1) := by decide +kernel
theorem dX10_goes_15 : decode cX10_goes 15 = .ok (.isub, 1) := by decide +kernel
theorem dX10_goes_16 : decode cX10_goes 16 = .ok (.invokevirtual 132, 3) := by decide +kernel
theorem dX10_goes_19 : decode cX10_goes 19 = .ok (.pop, 1) := by decide +kernel
theorem dX10_goes_20 : decode cX10_goes 20 = .ok (.aload_n 0, 1) := by decide +kernel
theorem dX10_goes_21 : decode cX10_goes 21 = .ok (.getfield 34, 3) := by decide +kernel
theorem dX10_goes_24 : decode cX10_goes 24 = .ok (.iload_n 3, 1) := by decide +kernel
theorem dX10_goes_25 : decode cX10_goes 25 = .ok (.iaload, 1) := by decide +kernel
theorem dX10_goes_26 : decode cX10_goes 26 = .ok (.aload_n 0, 1) := by decide +kernel
theorem dX10_goes_27 : decode cX10_goes 27 = .ok (.getfield 34, 3) := by decide +kernel
theorem dX10_goes_30 : decode cX10_goes 30 = .ok (.iload 4, 2) := by decide +kernel
theorem dX10_goes_32 : decode cX10_goes 32 = .ok (.iaload, 1) := by decide +kernel
theorem dX10_goes_33 : decode cX10_goes 33 = .ok (.if_icmp .ne 7, 3) := by decide +kernel
theorem dX10_goes_36 : decode cX10_goes 36 = .ok (.iconst 0, 1) := by decide +kernel
theorem dX10_goes_37 : decode cX10_goes 37 = .ok (.goto 28, 3) := by decide +kernel
theorem dX10_goes_40 : decode cX10_goes 40 = .ok (.aload_n 0, 1) := by decide +kernel
theorem dX10_goes_41 : decode cX10_goes 41 = .ok (.getfield 34, 3) := by decide +kernel
theorem dX10_goes_44 : decode cX10_goes 44 = .ok (.iload_n 3, 1) := by decide +kernel
theorem dX10_goes_45 : decode cX10_goes 45 = .ok (.iaload, 1) := by decide +kernel
theorem dX10_goes_46 : decode cX10_goes 46 = .ok (.aload_n 0, 1) := by decide +kernel
theorem dX10_goes_47 : decode cX10_goes 47 = .ok (.getfield 34, 3) := by decide +kernel
theorem dX10_goes_50 : decode cX10_goes 50 = .ok (.aload_n 0, 1) := by decide +kernel
theorem dX10_goes_51 : decode cX10_goes 51 = .ok (.getfield 22, 3) := by decide +kernel
theorem dX10_goes_54 : decode cX10_goes 54 = .ok (.iload_n 2, 1) := by decide +kernel
theorem dX10_goes_55 : decode cX10_goes 55 = .ok (.iaload, 1) := by decide +kernel
theorem dX10_goes_56 : decode cX10_goes 56 = .ok (.iaload, 1) := by decide +kernel
theorem dX10_goes_57 : decode cX10_goes 57 = .ok (.if_icmp .ne 7, 3) := by decide +kernel
theorem dX10_goes_60 : decode cX10_goes 60 = .ok (.iconst 1, 1) := by decide +kernel
theorem dX10_goes_61 : decode cX10_goes 61 = .ok (.goto 4, 3) := by decide +kernel
theorem dX10_goes_64 : decode cX10_goes 64 = .ok (.iconst (-1), 1) := by decide +kernel
theorem dX10_goes_65 : decode cX10_goes 65 = .ok (.ireturn, 1) := by decide +kernel
set_option maxRecDepth 20000 in
theorem ggX10_through_X10_isWire : GoodIn wsX10_through wsX10_isWire := goodIn_r _ [10, 3, 11, 12, 9, 13, 57, 58, 59, 60, 61, 62, 63, 64, 65, 66, 67, 68, 69, 70, 71, 72, 73, 74, 75, 76, 77, 78, 79, 80] (by decide +kernel) (by decide +kernel)
set_option maxRecDepth 20000 in
theorem gX10_through_X10_isWire : GoodIn wsX10_through (wsV RX10 122 RX10 yX10_isWire wsX10_isWire) := goodIn_app (goodIn_of _ (by decide +kernel)) ggX10_through_X10_isWire
set_option maxRecDepth 20000 in
theorem ggX10_through_X10_isKnot : GoodIn wsX10_through wsX10_isKnot := goodIn_r _ [16, 11, 12, 9, 13] (by decide +kernel) (by decide +kernel)
set_option maxRecDepth 20000 in
theorem gX10_through_X10_isKnot : GoodIn wsX10_through (va_wsS RX10 116 yX10_isKnot wsX10_isKnot) := goodIn_app (goodIn_of _ (by decide +kernel)) ggX10_through_X10_isKnot
set_option maxRecDepth 20000 in
theorem ggX10_through_X10_in : GoodIn wsX10_through wsX10_in := goodIn_r _ [13] (by decide +kernel) (by decide +kernel)
set_option maxRecDepth 20000 in
theorem gX10_through_X10_in : GoodIn wsX10_through (va_wsS RX10 89 yX10_in wsX10_in) := goodIn_app (goodIn_of _ (by decide +kernel)) ggX10_through_X10_in
set_option maxRecDepth 20000 in
theorem ggX10_through_X10_hang : GoodIn wsX10_through wsX10_hang := goodIn_r _ [20, 3, 21, 22, 23, 24, 25, 9, 26, 27, 28, 57, 58, 59, 60, 61, 62, 63, 64, 65, 66, 67, 68, 69, 70, 71, 72, 73, 74, 75, 76, 77, 78, 79, 80] (by decide +kernel) (by decide +kernel)
set_option maxRecDepth 20000 in
theorem gX10_through_X10_hang : GoodIn wsX10_through (wsV RX10 137 RX10 yX10_hang wsX10_hang) := goodIn_app (goodIn_of _ (by decide +kernel)) ggX10_through_X10_hang
set_option maxRecDepth 20000 in
theorem ggX10_through_X10_sizeOf : GoodIn wsX10_through wsX10_sizeOf := goodIn_r _ [32, 21, 57, 58, 59, 60, 61, 62, 63, 64, 65, 66, 67, 68, 69, 70, 71, 72, 73, 74, 75, 76, 77, 78, 79, 80] (by decide +kernel) (by decide +kernel)
set_option maxRecDepth 20000 in
theorem gX10_through_X10_sizeOf : GoodIn wsX10_through (wsV RX10 142 RX10 yX10_sizeOf wsX10_sizeOf) := goodIn_app (goodIn_of _ (by decide +kernel)) ggX10_through_X10_sizeOf
set_option maxRecDepth 20000 in
theorem ggX10_through_X10_bits : GoodIn wsX10_through wsX10_bits := goodIn_r _ [35] (by decide +kernel) (by decide +kernel)
set_option maxRecDepth 20000 in
theorem gX10_through_X10_bits : GoodIn wsX10_through (va_wsS RX10 145 yX10_bits wsX10_bits) := goodIn_app (goodIn_of _ (by decide +kernel)) ggX10_through_X10_bits
set_option maxRecDepth 20000 in
theorem ggX10_through_X10_isOf : GoodIn wsX10_through wsX10_isOf := goodIn_r _ [39, 3, 21, 27, 57, 58, 59, 60, 61, 62, 63, 64, 65, 66, 67, 68, 69, 70, 71, 72, 73, 74, 75, 76, 77, 78, 79, 80] (by decide +kernel) (by decide +kernel)
set_option maxRecDepth 20000 in
theorem gX10_through_X10_isOf : GoodIn wsX10_through (wsV RX10 148 RX10 yX10_isOf wsX10_isOf) := goodIn_app (goodIn_of _ (by decide +kernel)) ggX10_through_X10_isOf
set_option maxRecDepth 20000 in
theorem ggX10_through_X10_joins : GoodIn wsX10_through wsX10_joins := goodIn_r _ [26, 22, 3, 27, 28, 57, 58, 59, 60, 61, 62, 63, 64, 65, 66, 67, 68, 69, 70, 71, 72, 73, 74, 75, 76, 77, 78, 79, 80] (by decide +kernel) (by decide +kernel)
set_option maxRecDepth 20000 in
theorem gX10_through_X10_joins : GoodIn wsX10_through (wsV RX10 132 RX10 yX10_joins wsX10_joins) := goodIn_app (goodIn_of _ (by decide +kernel)) ggX10_through_X10_joins
set_option maxRecDepth 20000 in
theorem ggX10_through_X10_weight : GoodIn wsX10_through wsX10_weight := goodIn_r _ [43, 3, 44, 45, 57, 58, 59, 60, 61, 62, 63, 64, 65, 66, 67, 68, 69, 70, 71, 72, 73, 74, 75, 76, 77, 78, 79, 80] (by decide +kernel) (by decide +kernel)
set_option maxRecDepth 20000 in
theorem gX10_through_X10_weight : GoodIn wsX10_through (wsV RX10 151 RX10 yX10_weight wsX10_weight) := goodIn_app (goodIn_of _ (by decide +kernel)) ggX10_through_X10_weight
set_option maxRecDepth 20000 in
theorem ggX10_through_X10_goes : GoodIn wsX10_through wsX10_goes := goodIn_r _ [49, 22, 27, 23, 24, 25, 9, 26, 3, 28, 57, 58, 59, 60, 61, 62, 63, 64, 65, 66, 67, 68, 69, 70, 71, 72, 73, 74, 75, 76, 77, 78, 79, 80] (by decide +kernel) (by decide +kernel)
set_option maxRecDepth 20000 in
theorem gX10_through_X10_goes : GoodIn wsX10_through (wsV RX10 159 RX10 yX10_goes wsX10_goes) := goodIn_app (goodIn_of _ (by decide +kernel)) ggX10_through_X10_goes
set_option maxRecDepth 20000 in
theorem ggX10_through_X10_least : GoodIn wsX10_through wsX10_least := goodIn_r _ [53, 4, 5, 54, 55, 9, 56, 57, 58, 59, 60, 61, 62, 63, 64, 65, 66, 67, 68, 69, 70, 71, 72, 73, 74, 75, 76, 77, 78, 79, 80] (by decide +kernel) (by decide +kernel)
set_option maxRecDepth 20000 in
theorem gX10_through_X10_least : GoodIn wsX10_through (wsV RX10 74 RX10 yX10_least wsX10_least) := goodIn_app (goodIn_of _ (by decide +kernel)) ggX10_through_X10_least
theorem dX10_through_0 : decode cX10_through 0 = .ok (.aload_n 0, 1) := by decide +kernel
theorem dX10_through_1 : decode cX10_through 1 = .ok (.iconst 0, 1) := by decide +kernel
theorem dX10_through_2 : decode cX10_through 2 = .ok (.putfield 59, 3) := by decide +kernel
theorem dX10_through_5 : decode cX10_through 5 = .ok (.aload_n 0, 1) := by decide +kernel
theorem dX10_through_6 : decode cX10_through 6 = .ok (.iload_n 1, 1) := by decide +kernel
theorem dX10_through_7 : decode cX10_through 7 = .ok (.invokevirtual 122, 3) := by decide +kernel
theorem dX10_through_10 : decode cX10_through 10 = .ok (.ifCond .eq 41, 3) := by decide +kernel
theorem dX10_through_13 : decode cX10_through 13 = .ok (.iload_n 2, 1) := by decide +kernel
theorem dX10_through_14 : decode cX10_through 14 = .ok (.invokestatic 116, 3) := by decide +kernel
theorem dX10_through_17 : decode cX10_through 17 = .ok (.ifCond .eq 34, 3) := by decide +kernel
theorem dX10_through_20 : decode cX10_through 20 = .ok (.iload_n 3, 1) := by decide +kernel
theorem dX10_through_21 : decode cX10_through 21 = .ok (.invokestatic 116, 3) := by decide +kernel
theorem dX10_through_24 : decode cX10_through 24 = .ok (.ifCond .eq 27, 3) := by decide +kernel
theorem dX10_through_27 : decode cX10_through 27 = .ok (.iload_n 2, 1) := by decide +kernel
theorem dX10_through_28 : decode cX10_through 28 = .ok (.iload_n 3, 1) := by decide +kernel
theorem dX10_through_29 : decode cX10_through 29 = .ok (.if_icmp .eq 22, 3) := by decide +kernel
theorem dX10_through_32 : decode cX10_through 32 = .ok (.iload 4, 2) := by decide +kernel
theorem dX10_through_34 : decode cX10_through 34 = .ok (.iconst 0, 1) := by decide +kernel
theorem dX10_through_35 : decode cX10_through 35 = .ok (.iconst 1, 1) := by decide +kernel
end
section
theorem dX10_through_36 : decode cX10_through 36 = .ok (.invokestatic 89, 3) := by decide +kernel
theorem dX10_through_39 : decode cX10_through 39 = .ok (.ifCond .eq 12, 3) := by decide +kernel
theorem dX10_through_42 : decode cX10_through 42 = .ok (.aload_n 0, 1) := by decide +kernel
theorem dX10_through_43 : decode cX10_through 43 = .ok (.iload_n 2, 1) := by decide +kernel
theorem dX10_through_44 : decode cX10_through 44 = .ok (.iload_n 3, 1) := by decide +kernel
theorem dX10_through_45 : decode cX10_through 45 = .ok (.invokevirtual 137, 3) := by decide +kernel
theorem dX10_through_48 : decode cX10_through 48 = .ok (.ifCond .ne 7, 3) := by decide +kernel
theorem dX10_through_51 : decode cX10_through 51 = .ok (.ldc2_w 157, 3) := by decide +kernel
theorem dX10_through_54 : decode cX10_through 54 = .ok (.lreturn, 1) := by decide +kernel
theorem dX10_through_55 : decode cX10_through 55 = .ok (.aload_n 0, 1) := by decide +kernel
theorem dX10_through_56 : decode cX10_through 56 = .ok (.iload_n 2, 1) := by decide +kernel
theorem dX10_through_57 : decode cX10_through 57 = .ok (.invokevirtual 142, 3) := by decide +kernel
theorem dX10_through_60 : decode cX10_through 60 = .ok (.istore 5, 2) := by decide +kernel
theorem dX10_through_62 : decode cX10_through 62 = .ok (.lconst 0, 1) := by decide +kernel
theorem dX10_through_63 : decode cX10_through 63 = .ok (.lstore 6, 2) := by decide +kernel
theorem dX10_through_65 : decode cX10_through 65 = .ok (.lconst 0, 1) := by decide +kernel
theorem dX10_through_66 : decode cX10_through 66 = .ok (.lstore 8, 2) := by decide +kernel
theorem dX10_through_68 : decode cX10_through 68 = .ok (.iconst 0, 1) := by decide +kernel
theorem dX10_through_69 : decode cX10_through 69 = .ok (.istore 10, 2) := by decide +kernel
theorem dX10_through_71 : decode cX10_through 71 = .ok (.iload 10, 2) := by decide +kernel
theorem dX10_through_73 : decode cX10_through 73 = .ok (.iconst 1, 1) := by decide +kernel
theorem dX10_through_74 : decode cX10_through 74 = .ok (.aload_n 0, 1) := by decide +kernel
theorem dX10_through_75 : decode cX10_through 75 = .ok (.getfield 119, 3) := by decide +kernel
theorem dX10_through_78 : decode cX10_through 78 = .ok (.ishl, 1) := by decide +kernel
theorem dX10_through_79 : decode cX10_through 79 = .ok (.if_icmp .ge 73, 3) := by decide +kernel
theorem dX10_through_82 : decode cX10_through 82 = .ok (.iload 10, 2) := by decide +kernel
theorem dX10_through_84 : decode cX10_through 84 = .ok (.invokestatic 145, 3) := by decide +kernel
theorem dX10_through_87 : decode cX10_through 87 = .ok (.iload 5, 2) := by decide +kernel
theorem dX10_through_89 : decode cX10_through 89 = .ok (.iconst 1, 1) := by decide +kernel
theorem dX10_through_90 : decode cX10_through 90 = .ok (.isub, 1) := by decide +kernel
theorem dX10_through_91 : decode cX10_through 91 = .ok (.if_icmp .ne 55, 3) := by decide +kernel
theorem dX10_through_94 : decode cX10_through 94 = .ok (.aload_n 0, 1) := by decide +kernel
theorem dX10_through_95 : decode cX10_through 95 = .ok (.iload 10, 2) := by decide +kernel
theorem dX10_through_97 : decode cX10_through 97 = .ok (.iload_n 2, 1) := by decide +kernel
theorem dX10_through_98 : decode cX10_through 98 = .ok (.invokevirtual 148, 3) := by decide +kernel
theorem dX10_through_101 : decode cX10_through 101 = .ok (.ifCond .eq 45, 3) := by decide +kernel
theorem dX10_through_104 : decode cX10_through 104 = .ok (.aload_n 0, 1) := by decide +kernel
theorem dX10_through_105 : decode cX10_through 105 = .ok (.iload 10, 2) := by decide +kernel
theorem dX10_through_107 : decode cX10_through 107 = .ok (.invokevirtual 132, 3) := by decide +kernel
theorem dX10_through_110 : decode cX10_through 110 = .ok (.ifCond .eq 36, 3) := by decide +kernel
theorem dX10_through_113 : decode cX10_through 113 = .ok (.aload_n 0, 1) := by decide +kernel
theorem dX10_through_114 : decode cX10_through 114 = .ok (.iload 10, 2) := by decide +kernel
theorem dX10_through_116 : decode cX10_through 116 = .ok (.invokevirtual 151, 3) := by decide +kernel
theorem dX10_through_119 : decode cX10_through 119 = .ok (.lstore 11, 2) := by decide +kernel
theorem dX10_through_121 : decode cX10_through 121 = .ok (.lload 6, 2) := by decide +kernel
theorem dX10_through_123 : decode cX10_through 123 = .ok (.lload 11, 2) := by decide +kernel
theorem dX10_through_125 : decode cX10_through 125 = .ok (.ladd, 1) := by decide +kernel
theorem dX10_through_126 : decode cX10_through 126 = .ok (.lstore 6, 2) := by decide +kernel
theorem dX10_through_128 : decode cX10_through 128 = .ok (.lload 8, 2) := by decide +kernel
theorem dX10_through_130 : decode cX10_through 130 = .ok (.aload_n 0, 1) := by decide +kernel
theorem dX10_through_131 : decode cX10_through 131 = .ok (.iload 10, 2) := by decide +kernel
theorem dX10_through_133 : decode cX10_through 133 = .ok (.iload_n 1, 1) := by decide +kernel
theorem dX10_through_134 : decode cX10_through 134 = .ok (.iload_n 2, 1) := by decide +kernel
theorem dX10_through_135 : decode cX10_through 135 = .ok (.iload_n 3, 1) := by decide +kernel
theorem dX10_through_136 : decode cX10_through 136 = .ok (.invokevirtual 159, 3) := by decide +kernel
theorem dX10_through_139 : decode cX10_through 139 = .ok (.i2l, 1) := by decide +kernel
theorem dX10_through_140 : decode cX10_through 140 = .ok (.lload 11, 2) := by decide +kernel
theorem dX10_through_142 : decode cX10_through 142 = .ok (.lmul, 1) := by decide +kernel
theorem dX10_through_143 : decode cX10_through 143 = .ok (.ladd, 1) := by decide +kernel
theorem dX10_through_144 : decode cX10_through 144 = .ok (.lstore 8, 2) := by decide +kernel
theorem dX10_through_146 : decode cX10_through 146 = .ok (.iinc 10 1, 3) := by decide +kernel
theorem dX10_through_149 : decode cX10_through 149 = .ok (.goto (-78), 3) := by decide +kernel
theorem dX10_through_152 : decode cX10_through 152 = .ok (.aload_n 0, 1) := by decide +kernel
theorem dX10_through_153 : decode cX10_through 153 = .ok (.lload 8, 2) := by decide +kernel
theorem dX10_through_155 : decode cX10_through 155 = .ok (.lload 6, 2) := by decide +kernel
theorem dX10_through_157 : decode cX10_through 157 = .ok (.invokevirtual 74, 3) := by decide +kernel
theorem dX10_through_160 : decode cX10_through 160 = .ok (.iload 4, 2) := by decide +kernel
theorem dX10_through_162 : decode cX10_through 162 = .ok (.ifCond .ne 10, 3) := by decide +kernel
theorem dX10_through_165 : decode cX10_through 165 = .ok (.aload_n 0, 1) := by decide +kernel
theorem dX10_through_166 : decode cX10_through 166 = .ok (.getfield 67, 3) := by decide +kernel
theorem dX10_through_169 : decode cX10_through 169 = .ok (.goto 7, 3) := by decide +kernel
theorem dX10_through_172 : decode cX10_through 172 = .ok (.aload_n 0, 1) := by decide +kernel
theorem dX10_through_173 : decode cX10_through 173 = .ok (.getfield 71, 3) := by decide +kernel
theorem dX10_through_176 : decode cX10_through 176 = .ok (.lreturn, 1) := by decide +kernel
theorem dX10_hasWire_0 : decode cX10_hasWire 0 = .ok (.iconst 0, 1) := by decide +kernel
theorem dX10_hasWire_1 : decode cX10_hasWire 1 = .ok (.istore_n 2, 1) := by decide +kernel
theorem dX10_hasWire_2 : decode cX10_hasWire 2 = .ok (.iconst 0, 1) := by decide +kernel
theorem dX10_hasWire_3 : decode cX10_hasWire 3 = .ok (.istore_n 3, 1) := by decide +kernel
theorem dX10_hasWire_4 : decode cX10_hasWire 4 = .ok (.iload_n 3, 1) := by decide +kernel
theorem dX10_hasWire_5 : decode cX10_hasWire 5 = .ok (.aload_n 0, 1) := by decide +kernel
theorem dX10_hasWire_6 : decode cX10_hasWire 6 = .ok (.getfield 119, 3) := by decide +kernel
theorem dX10_hasWire_9 : decode cX10_hasWire 9 = .ok (.if_icmp .ge 37, 3) := by decide +kernel
theorem dX10_hasWire_12 : decode cX10_hasWire 12 = .ok (.iload_n 2, 1) := by decide +kernel
theorem dX10_hasWire_13 : decode cX10_hasWire 13 = .ok (.aload_n 0, 1) := by decide +kernel
theorem dX10_hasWire_14 : decode cX10_hasWire 14 = .ok (.getfield 22, 3) := by decide +kernel
theorem dX10_hasWire_17 : decode cX10_hasWire 17 = .ok (.iload_n 3, 1) := by decide +kernel
theorem dX10_hasWire_18 : decode cX10_hasWire 18 = .ok (.iaload, 1) := by decide +kernel
theorem dX10_hasWire_19 : decode cX10_hasWire 19 = .ok (.iload_n 1, 1) := by decide +kernel
theorem dX10_hasWire_20 : decode cX10_hasWire 20 = .ok (.if_icmp .eq 13, 3) := by decide +kernel
theorem dX10_hasWire_23 : decode cX10_hasWire 23 = .ok (.aload_n 0, 1) := by decide +kernel
theorem dX10_hasWire_24 : decode cX10_hasWire 24 = .ok (.getfield 25, 3) := by decide +kernel
theorem dX10_hasWire_27 : decode cX10_hasWire 27 = .ok (.iload_n 3, 1) := by decide +kernel
theorem dX10_hasWire_28 : decode cX10_hasWire 28 = .ok (.iaload, 1) := by decide +kernel
theorem dX10_hasWire_29 : decode cX10_hasWire 29 = .ok (.iload_n 1, 1) := by decide +kernel
theorem dX10_hasWire_30 : decode cX10_hasWire 30 = .ok (.if_icmp .ne 7, 3) := by decide +kernel
theorem dX10_hasWire_33 : decode cX10_hasWire 33 = .ok (.iconst 1, 1) := by decide +kernel
theorem dX10_hasWire_34 : decode cX10_hasWire 34 = .ok (.goto 4, 3) := by decide +kernel
theorem dX10_hasWire_37 : decode cX10_hasWire 37 = .ok (.iconst 0, 1) := by decide +kernel
theorem dX10_hasWire_38 : decode cX10_hasWire 38 = .ok (.ior, 1) := by decide +kernel
theorem dX10_hasWire_39 : decode cX10_hasWire 39 = .ok (.istore_n 2, 1) := by decide +kernel
theorem dX10_hasWire_40 : decode cX10_hasWire 40 = .ok (.iinc 3 1, 3) := by decide +kernel
theorem dX10_hasWire_43 : decode cX10_hasWire 43 = .ok (.goto (-39), 3) := by decide +kernel
theorem dX10_hasWire_46 : decode cX10_hasWire 46 = .ok (.iload_n 2, 1) := by decide +kernel
theorem dX10_hasWire_47 : decode cX10_hasWire 47 = .ok (.ireturn, 1) := by decide +kernel
set_option maxRecDepth 20000 in
theorem ggX10_knots_X10_hasWire : GoodIn wsX10_knots wsX10_hasWire := goodIn_r _ [5, 6, 7, 8, 9, 10, 11, 12, 13, 14, 15, 16, 17, 18, 19, 20, 21, 22, 23, 24, 25, 26, 27, 28, 29, 30, 31, 32] (by decide +kernel) (by decide +kernel)
set_option maxRecDepth 20000 in
theorem gX10_knots_X10_hasWire : GoodIn wsX10_knots (wsV RX10 163 RX10 yX10_hasWire wsX10_hasWire) := goodIn_app (goodIn_of _ (by decide +kernel)) ggX10_knots_X10_hasWire
theorem dX10_knots_0 : decode cX10_knots 0 = .ok (.iconst 0, 1) := by decide +kernel
theorem dX10_knots_1 : decode cX10_knots 1 = .ok (.istore_n 1, 1) := by decide +kernel
theorem dX10_knots_2 : decode cX10_knots 2 = .ok (.iconst 0, 1) := by decide +kernel
theorem dX10_knots_3 : decode cX10_knots 3 = .ok (.istore_n 2, 1) := by decide +kernel
theorem dX10_knots_4 : decode cX10_knots 4 = .ok (.iload_n 2, 1) := by decide +kernel
theorem dX10_knots_5 : decode cX10_knots 5 = .ok (.bipush 6, 2) := by decide +kernel
theorem dX10_knots_7 : decode cX10_knots 7 = .ok (.if_icmp .ge 25, 3) := by decide +kernel
theorem dX10_knots_10 : decode cX10_knots 10 = .ok (.iload_n 1, 1) := by decide +kernel
theorem dX10_knots_11 : decode cX10_knots 11 = .ok (.aload_n 0, 1) := by decide +kernel
theorem dX10_knots_12 : decode cX10_knots 12 = .ok (.iload_n 2, 1) := by decide +kernel
theorem dX10_knots_13 : decode cX10_knots 13 = .ok (.invokevirtual 163, 3) := by decide +kernel
theorem dX10_knots_16 : decode cX10_knots 16 = .ok (.ifCond .eq 7, 3) := by decide +kernel
theorem dX10_knots_19 : decode cX10_knots 19 = .ok (.iconst 1, 1) := by decide +kernel
theorem dX10_knots_20 : decode cX10_knots 20 = .ok (.goto 4, 3) := by decide +kernel
theorem dX10_knots_23 : decode cX10_knots 23 = .ok (.iconst 0, 1) := by decide +kernel
theorem dX10_knots_24 : decode cX10_knots 24 = .ok (.iadd, 1) := by decide +kernel
theorem dX10_knots_25 : decode cX10_knots 25 = .ok (.istore_n 1, 1) := by decide +kernel
theorem dX10_knots_26 : decode cX10_knots 26 = .ok (.iinc 2 1, 3) := by decide +kernel
theorem dX10_knots_29 : decode cX10_knots 29 = .ok (.goto (-25), 3) := by decide +kernel
theorem dX10_knots_32 : decode cX10_knots 32 = .ok (.iload_n 1, 1) := by decide +kernel
theorem dX10_knots_33 : decode cX10_knots 33 = .ok (.ireturn, 1) := by decide +kernel
set_option maxRecDepth 20000 in
theorem ggX10_trees_X10_knots : GoodIn wsX10_trees wsX10_knots := goodIn_r _ [7, 8, 9, 10, 6, 11, 2, 12, 13, 22, 23, 24, 25, 26, 27, 28, 29, 30, 31, 32, 33, 34, 35, 36, 37, 38, 39, 40, 41, 42, 43, 44, 45] (by decide +kernel) (by decide +kernel)
set_option maxRecDepth 20000 in
theorem gX10_trees_X10_knots : GoodIn wsX10_trees (wsV RX10 166 RX10 yX10_knots wsX10_knots) := goodIn_app (goodIn_of _ (by decide +kernel)) ggX10_trees_X10_knots
set_option maxRecDepth 20000 in
theorem ggX10_trees_X10_bits : GoodIn wsX10_trees wsX10_bits := goodIn_r _ [16] (by decide +kernel) (by decide +kernel)
set_option maxRecDepth 20000 in
theorem gX10_trees_X10_bits : GoodIn wsX10_trees (va_wsS RX10 145 yX10_bits wsX10_bits) := goodIn_app (goodIn_of _ (by decide +kernel)) ggX10_trees_X10_bits
set_option maxRecDepth 20000 in
theorem ggX10_trees_X10_joins : GoodIn wsX10_trees wsX10_joins := goodIn_r _ [20, 21, 2, 12, 13, 22, 23, 24, 25, 26, 27, 28, 29, 30, 31, 32, 33, 34, 35, 36, 37, 38, 39, 40, 41, 42, 43, 44, 45] (by decide +kernel) (by decide +kernel)
set_option maxRecDepth 20000 in
theorem gX10_trees_X10_joins : GoodIn wsX10_trees (wsV RX10 132 RX10 yX10_joins wsX10_joins) := goodIn_app (goodIn_of _ (by decide +kernel)) ggX10_trees_X10_joins
theorem dX10_trees_0 : decode cX10_trees 0 = .ok (.aload_n 0, 1) := by decide +kernel
theorem dX10_trees_1 : decode cX10_trees 1 = .ok (.iconst 0, 1) := by decide +kernel
theorem dX10_trees_2 : decode cX10_trees 2 = .ok (.putfield 59, 3) := by decide +kernel
theorem dX10_trees_5 : decode cX10_trees 5 = .ok (.aload_n 0, 1) := by decide +kernel
theorem dX10_trees_6 : decode cX10_trees 6 = .ok (.invokevirtual 166, 3) := by decide +kernel
theorem dX10_trees_9 : decode cX10_trees 9 = .ok (.istore_n 1, 1) := by decide +kernel
theorem dX10_trees_10 : decode cX10_trees 10 = .ok (.aload_n 0, 1) := by decide +kernel
theorem dX10_trees_11 : decode cX10_trees 11 = .ok (.getfield 119, 3) := by decide +kernel
theorem dX10_trees_14 : decode cX10_trees 14 = .ok (.ifCond .ne 7, 3) := by decide +kernel
theorem dX10_trees_17 : decode cX10_trees 17 = .ok (.iconst 1, 1) := by decide +kernel
theorem dX10_trees_18 : decode cX10_trees 18 = .ok (.goto 4, 3) := by decide +kernel
theorem dX10_trees_21 : decode cX10_trees 21 = .ok (.iconst 0, 1) := by decide +kernel
theorem dX10_trees_22 : decode cX10_trees 22 = .ok (.istore_n 2, 1) := by decide +kernel
theorem dX10_trees_23 : decode cX10_trees 23 = .ok (.iconst 0, 1) := by decide +kernel
theorem dX10_trees_24 : decode cX10_trees 24 = .ok (.istore_n 3, 1) := by decide +kernel
theorem dX10_trees_25 : decode cX10_trees 25 = .ok (.iload_n 3, 1) := by decide +kernel
theorem dX10_trees_26 : decode cX10_trees 26 = .ok (.iconst 1, 1) := by decide +kernel
theorem dX10_trees_27 : decode cX10_trees 27 = .ok (.aload_n 0, 1) := by decide +kernel
theorem dX10_trees_28 : decode cX10_trees 28 = .ok (.getfield 119, 3) := by decide +kernel
theorem dX10_trees_31 : decode cX10_trees 31 = .ok (.ishl, 1) := by decide +kernel
theorem dX10_trees_32 : decode cX10_trees 32 = .ok (.if_icmp .ge 39, 3) := by decide +kernel
theorem dX10_trees_35 : decode cX10_trees 35 = .ok (.iload_n 1, 1) := by decide +kernel
theorem dX10_trees_36 : decode cX10_trees 36 = .ok (.ifCond .le 35, 3) := by decide +kernel
theorem dX10_trees_39 : decode cX10_trees 39 = .ok (.iload_n 2, 1) := by decide +kernel
theorem dX10_trees_40 : decode cX10_trees 40 = .ok (.iload_n 3, 1) := by decide +kernel
theorem dX10_trees_41 : decode cX10_trees 41 = .ok (.invokestatic 145, 3) := by decide +kernel
theorem dX10_trees_44 : decode cX10_trees 44 = .ok (.iload_n 1, 1) := by decide +kernel
theorem dX10_trees_45 : decode cX10_trees 45 = .ok (.iconst 1, 1) := by decide +kernel
theorem dX10_trees_46 : decode cX10_trees 46 = .ok (.isub, 1) := by decide +kernel
theorem dX10_trees_47 : decode cX10_trees 47 = .ok (.if_icmp .ne 15, 3) := by decide +kernel
theorem dX10_trees_50 : decode cX10_trees 50 = .ok (.aload_n 0, 1) := by decide +kernel
theorem dX10_trees_51 : decode cX10_trees 51 = .ok (.iload_n 3, 1) := by decide +kernel
theorem dX10_trees_52 : decode cX10_trees 52 = .ok (.invokevirtual 132, 3) := by decide +kernel
theorem dX10_trees_55 : decode cX10_trees 55 = .ok (.ifCond .eq 7, 3) := by decide +kernel
theorem dX10_trees_58 : decode cX10_trees 58 = .ok (.iconst 1, 1) := by decide +kernel
theorem dX10_trees_59 : decode cX10_trees 59 = .ok (.goto 4, 3) := by decide +kernel
theorem dX10_trees_62 : decode cX10_trees 62 = .ok (.iconst 0, 1) := by decide +kernel
theorem dX10_trees_63 : decode cX10_trees 63 = .ok (.iadd, 1) := by decide +kernel
theorem dX10_trees_64 : decode cX10_trees 64 = .ok (.istore_n 2, 1) := by decide +kernel
theorem dX10_trees_65 : decode cX10_trees 65 = .ok (.iinc 3 1, 3) := by decide +kernel
theorem dX10_trees_68 : decode cX10_trees 68 = .ok (.goto (-43), 3) := by decide +kernel
theorem dX10_trees_71 : decode cX10_trees 71 = .ok (.iload_n 2, 1) := by decide +kernel
theorem dX10_trees_72 : decode cX10_trees 72 = .ok (.ireturn, 1) := by decide +kernel
theorem dX10_wiresAt_0 : decode cX10_wiresAt 0 = .ok (.iconst 0, 1) := by decide +kernel
theorem dX10_wiresAt_1 : decode cX10_wiresAt 1 = .ok (.istore_n 2, 1) := by decide +kernel
theorem dX10_wiresAt_2 : decode cX10_wiresAt 2 = .ok (.iconst 0, 1) := by decide +kernel
theorem dX10_wiresAt_3 : decode cX10_wiresAt 3 = .ok (.istore_n 3, 1) := by decide +kernel
theorem dX10_wiresAt_4 : decode cX10_wiresAt 4 = .ok (.iload_n 3, 1) := by decide +kernel
theorem dX10_wiresAt_5 : decode cX10_wiresAt 5 = .ok (.aload_n 0, 1) := by decide +kernel
theorem dX10_wiresAt_6 : decode cX10_wiresAt 6 = .ok (.getfield 119, 3) := by decide +kernel
theorem dX10_wiresAt_9 : decode cX10_wiresAt 9 = .ok (.if_icmp .ge 63, 3) := by decide +kernel
theorem dX10_wiresAt_12 : decode cX10_wiresAt 12 = .ok (.iload_n 2, 1) := by decide +kernel
theorem dX10_wiresAt_13 : decode cX10_wiresAt 13 = .ok (.aload_n 0, 1) := by decide +kernel
theorem dX10_wiresAt_14 : decode cX10_wiresAt 14 = .ok (.getfield 46, 3) := by decide +kernel
theorem dX10_wiresAt_17 : decode cX10_wiresAt 17 = .ok (.iload_n 3, 1) := by decide +kernel
theorem dX10_wiresAt_18 : decode cX10_wiresAt 18 = .ok (.baload, 1) := by decide +kernel
theorem dX10_wiresAt_19 : decode cX10_wiresAt 19 = .ok (.ifCond .eq 17, 3) := by decide +kernel
theorem dX10_wiresAt_22 : decode cX10_wiresAt 22 = .ok (.aload_n 0, 1) := by decide +kernel
theorem dX10_wiresAt_23 : decode cX10_wiresAt 23 = .ok (.getfield 40, 3) := by decide +kernel
theorem dX10_wiresAt_26 : decode cX10_wiresAt 26 = .ok (.iload_n 3, 1) := by decide +kernel
theorem dX10_wiresAt_27 : decode cX10_wiresAt 27 = .ok (.iaload, 1) := by decide +kernel
theorem dX10_wiresAt_28 : decode cX10_wiresAt 28 = .ok (.iload_n 1, 1) := by decide +kernel
theorem dX10_wiresAt_29 : decode cX10_wiresAt 29 = .ok (.if_icmp .ne 7, 3) := by decide +kernel
theorem dX10_wiresAt_32 : decode cX10_wiresAt 32 = .ok (.iconst 1, 1) := by decide +kernel
theorem dX10_wiresAt_33 : decode cX10_wiresAt 33 = .ok (.goto 4, 3) := by decide +kernel
theorem dX10_wiresAt_36 : decode cX10_wiresAt 36 = .ok (.iconst 0, 1) := by decide +kernel
theorem dX10_wiresAt_37 : decode cX10_wiresAt 37 = .ok (.iadd, 1) := by decide +kernel
theorem dX10_wiresAt_38 : decode cX10_wiresAt 38 = .ok (.istore_n 2, 1) := by decide +kernel
theorem dX10_wiresAt_39 : decode cX10_wiresAt 39 = .ok (.iload_n 2, 1) := by decide +kernel
theorem dX10_wiresAt_40 : decode cX10_wiresAt 40 = .ok (.aload_n 0, 1) := by decide +kernel
theorem dX10_wiresAt_41 : decode cX10_wiresAt 41 = .ok (.getfield 46, 3) := by decide +kernel
theorem dX10_wiresAt_44 : decode cX10_wiresAt 44 = .ok (.iload_n 3, 1) := by decide +kernel
theorem dX10_wiresAt_45 : decode cX10_wiresAt 45 = .ok (.baload, 1) := by decide +kernel
theorem dX10_wiresAt_46 : decode cX10_wiresAt 46 = .ok (.ifCond .eq 17, 3) := by decide +kernel
theorem dX10_wiresAt_49 : decode cX10_wiresAt 49 = .ok (.aload_n 0, 1) := by decide +kernel
theorem dX10_wiresAt_50 : decode cX10_wiresAt 50 = .ok (.getfield 43, 3) := by decide +kernel
theorem dX10_wiresAt_53 : decode cX10_wiresAt 53 = .ok (.iload_n 3, 1) := by decide +kernel
theorem dX10_wiresAt_54 : decode cX10_wiresAt 54 = .ok (.iaload, 1) := by decide +kernel
theorem dX10_wiresAt_55 : decode cX10_wiresAt 55 = .ok (.iload_n 1, 1) := by decide +kernel
theorem dX10_wiresAt_56 : decode cX10_wiresAt 56 = .ok (.if_icmp .ne 7, 3) := by decide +kernel
theorem dX10_wiresAt_59 : decode cX10_wiresAt 59 = .ok (.iconst 1, 1) := by decide +kernel
theorem dX10_wiresAt_60 : decode cX10_wiresAt 60 = .ok (.goto 4, 3) := by decide +kernel
theorem dX10_wiresAt_63 : decode cX10_wiresAt 63 = .ok (.iconst 0, 1) := by decide +kernel
theorem dX10_wiresAt_64 : decode cX10_wiresAt 64 = .ok (.iadd, 1) := by decide +kernel
theorem dX10_wiresAt_65 : decode cX10_wiresAt 65 = .ok (.istore_n 2, 1) := by decide +kernel
theorem dX10_wiresAt_66 : decode cX10_wiresAt 66 = .ok (.iinc 3 1, 3) := by decide +kernel
theorem dX10_wiresAt_69 : decode cX10_wiresAt 69 = .ok (.goto (-65), 3) := by decide +kernel
theorem dX10_wiresAt_72 : decode cX10_wiresAt 72 = .ok (.iload_n 2, 1) := by decide +kernel
theorem dX10_wiresAt_73 : decode cX10_wiresAt 73 = .ok (.ireturn, 1) := by decide +kernel
theorem dX10_links_0 : decode cX10_links 0 = .ok (.bipush (-9), 2) := by decide +kernel
theorem dX10_links_2 : decode cX10_links 2 = .ok (.istore_n 2, 1) := by decide +kernel
theorem dX10_links_3 : decode cX10_links 3 = .ok (.iconst 0, 1) := by decide +kernel
theorem dX10_links_4 : decode cX10_links 4 = .ok (.istore_n 3, 1) := by decide +kernel
theorem dX10_links_5 : decode cX10_links 5 = .ok (.iload_n 3, 1) := by decide +kernel
theorem dX10_links_6 : decode cX10_links 6 = .ok (.aload_n 0, 1) := by decide +kernel
theorem dX10_links_7 : decode cX10_links 7 = .ok (.getfield 119, 3) := by decide +kernel
theorem dX10_links_10 : decode cX10_links 10 = .ok (.if_icmp .ge 106, 3) := by decide +kernel
theorem dX10_links_13 : decode cX10_links 13 = .ok (.aload_n 0, 1) := by decide +kernel
theorem dX10_links_14 : decode cX10_links 14 = .ok (.getfield 46, 3) := by decide +kernel
theorem dX10_links_17 : decode cX10_links 17 = .ok (.iload_n 3, 1) := by decide +kernel
theorem dX10_links_18 : decode cX10_links 18 = .ok (.baload, 1) := by decide +kernel
theorem dX10_links_19 : decode cX10_links 19 = .ok (.ifCond .eq 91, 3) := by decide +kernel
theorem dX10_links_22 : decode cX10_links 22 = .ok (.aload_n 0, 1) := by decide +kernel
theorem dX10_links_23 : decode cX10_links 23 = .ok (.getfield 40, 3) := by decide +kernel
theorem dX10_links_26 : decode cX10_links 26 = .ok (.iload_n 3, 1) := by decide +kernel
theorem dX10_links_27 : decode cX10_links 27 = .ok (.iaload, 1) := by decide +kernel
theorem dX10_links_28 : decode cX10_links 28 = .ok (.iload_n 1, 1) := by decide +kernel
theorem dX10_links_29 : decode cX10_links 29 = .ok (.if_icmp .eq 13, 3) := by decide +kernel
theorem dX10_links_32 : decode cX10_links 32 = .ok (.aload_n 0, 1) := by decide +kernel
theorem dX10_links_33 : decode cX10_links 33 = .ok (.getfield 43, 3) := by decide +kernel
theorem dX10_links_36 : decode cX10_links 36 = .ok (.iload_n 3, 1) := by decide +kernel
theorem dX10_links_37 : decode cX10_links 37 = .ok (.iaload, 1) := by decide +kernel
theorem dX10_links_38 : decode cX10_links 38 = .ok (.iload_n 1, 1) := by decide +kernel
theorem dX10_links_39 : decode cX10_links 39 = .ok (.if_icmp .ne 71, 3) := by decide +kernel
theorem dX10_links_42 : decode cX10_links 42 = .ok (.aload_n 0, 1) := by decide +kernel
theorem dX10_links_43 : decode cX10_links 43 = .ok (.getfield 40, 3) := by decide +kernel
theorem dX10_links_46 : decode cX10_links 46 = .ok (.iload_n 3, 1) := by decide +kernel
theorem dX10_links_47 : decode cX10_links 47 = .ok (.iaload, 1) := by decide +kernel
theorem dX10_links_48 : decode cX10_links 48 = .ok (.iload_n 1, 1) := by decide +kernel
theorem dX10_links_49 : decode cX10_links 49 = .ok (.if_icmp .ne 12, 3) := by decide +kernel
theorem dX10_links_52 : decode cX10_links 52 = .ok (.aload_n 0, 1) := by decide +kernel
theorem dX10_links_53 : decode cX10_links 53 = .ok (.getfield 43, 3) := by decide +kernel
theorem dX10_links_56 : decode cX10_links 56 = .ok (.iload_n 3, 1) := by decide +kernel
theorem dX10_links_57 : decode cX10_links 57 = .ok (.iaload, 1) := by decide +kernel
theorem dX10_links_58 : decode cX10_links 58 = .ok (.goto 9, 3) := by decide +kernel
theorem dX10_links_61 : decode cX10_links 61 = .ok (.aload_n 0, 1) := by decide +kernel
theorem dX10_links_62 : decode cX10_links 62 = .ok (.getfield 40, 3) := by decide +kernel
theorem dX10_links_65 : decode cX10_links 65 = .ok (.iload_n 3, 1) := by decide +kernel
theorem dX10_links_66 : decode cX10_links 66 = .ok (.iaload, 1) := by decide +kernel
theorem dX10_links_67 : decode cX10_links 67 = .ok (.istore 4, 2) := by decide +kernel
theorem dX10_links_69 : decode cX10_links 69 = .ok (.iload_n 2, 1) := by decide +kernel
theorem dX10_links_70 : decode cX10_links 70 = .ok (.bipush (-9), 2) := by decide +kernel
theorem dX10_links_72 : decode cX10_links 72 = .ok (.if_icmp .ne 23, 3) := by decide +kernel
theorem dX10_links_75 : decode cX10_links 75 = .ok (.iload_n 3, 1) := by decide +kernel
theorem dX10_links_76 : decode cX10_links 76 = .ok (.istore_n 2, 1) := by decide +kernel
theorem dX10_links_77 : decode cX10_links 77 = .ok (.aload_n 0, 1) := by decide +kernel
theorem dX10_links_78 : decode cX10_links 78 = .ok (.getfield 40, 3) := by decide +kernel
theorem dX10_links_81 : decode cX10_links 81 = .ok (.iload_n 3, 1) := by decide +kernel
theorem dX10_links_82 : decode cX10_links 82 = .ok (.iload 4, 2) := by decide +kernel
theorem dX10_links_84 : decode cX10_links 84 = .ok (.iastore, 1) := by decide +kernel
theorem dX10_links_85 : decode cX10_links 85 = .ok (.aload_n 0, 1) := by decide +kernel
theorem dX10_links_86 : decode cX10_links 86 = .ok (.getfield 43, 3) := by decide +kernel
theorem dX10_links_89 : decode cX10_links 89 = .ok (.iload_n 3, 1) := by decide +kernel
theorem dX10_links_90 : decode cX10_links 90 = .ok (.iload_n 1, 1) := by decide +kernel
theorem dX10_links_91 : decode cX10_links 91 = .ok (.iastore, 1) := by decide +kernel
theorem dX10_links_92 : decode cX10_links 92 = .ok (.goto 18, 3) := by decide +kernel
theorem dX10_links_95 : decode cX10_links 95 = .ok (.aload_n 0, 1) := by decide +kernel
theorem dX10_links_96 : decode cX10_links 96 = .ok (.getfield 43, 3) := by decide +kernel
theorem dX10_links_99 : decode cX10_links 99 = .ok (.iload_n 2, 1) := by decide +kernel
theorem dX10_links_100 : decode cX10_links 100 = .ok (.iload 4, 2) := by decide +kernel
theorem dX10_links_102 : decode cX10_links 102 = .ok (.iastore, 1) := by decide +kernel
theorem dX10_links_103 : decode cX10_links 103 = .ok (.aload_n 0, 1) := by decide +kernel
theorem dX10_links_104 : decode cX10_links 104 = .ok (.getfield 46, 3) := by decide +kernel
theorem dX10_links_107 : decode cX10_links 107 = .ok (.iload_n 3, 1) := by decide +kernel
theorem dX10_links_108 : decode cX10_links 108 = .ok (.iconst 0, 1) := by decide +kernel
theorem dX10_links_109 : decode cX10_links 109 = .ok (.bastore, 1) := by decide +kernel
theorem dX10_links_110 : decode cX10_links 110 = .ok (.iinc 3 1, 3) := by decide +kernel
theorem dX10_links_113 : decode cX10_links 113 = .ok (.goto (-108), 3) := by decide +kernel
theorem dX10_links_116 : decode cX10_links 116 = .ok (.return_, 1) := by decide +kernel
set_option maxRecDepth 20000 in
theorem ggX10_lessens_X10_wiresAt : GoodIn wsX10_lessens wsX10_wiresAt := goodIn_r _ [9, 1, 2, 3, 4, 14, 15, 16, 17, 18, 19, 20, 21, 22, 23, 24, 25, 26, 27, 28, 29, 30, 31, 32, 33, 34, 35, 36, 37] (by decide +kernel) (by decide +kernel)
set_option maxRecDepth 20000 in
theorem gX10_lessens_X10_wiresAt : GoodIn wsX10_lessens (wsV RX10 170 RX10 yX10_wiresAt wsX10_wiresAt) := goodIn_app (goodIn_of _ (by decide +kernel)) ggX10_lessens_X10_wiresAt
set_option maxRecDepth 20000 in
theorem ggX10_lessens_X10_links : GoodIn wsX10_lessens wsX10_links := goodIn_r _ [13, 1, 2, 3, 4, 14, 15, 16, 17, 18, 19, 20, 21, 22, 23, 24, 25, 26, 27, 28, 29, 30, 31, 32, 33, 34, 35, 36, 37] (by decide +kernel) (by decide +kernel)
set_option maxRecDepth 20000 in
theorem gX10_lessens_X10_links : GoodIn wsX10_lessens (wsV RX10 173 RX10 yX10_links wsX10_links) := goodIn_app (goodIn_of _ (by decide +kernel)) ggX10_lessens_X10_links
theorem dX10_lessens_0 : decode cX10_lessens 0 = .ok (.iconst 0, 1) := by decide +kernel
theorem dX10_lessens_1 : decode cX10_lessens 1 = .ok (.istore_n 3, 1) := by decide +kernel
theorem dX10_lessens_2 : decode cX10_lessens 2 = .ok (.iload_n 3, 1) := by decide +kernel
theorem dX10_lessens_3 : decode cX10_lessens 3 = .ok (.aload_n 0, 1) := by decide +kernel
theorem dX10_lessens_4 : decode cX10_lessens 4 = .ok (.getfield 119, 3) := by decide +kernel
theorem dX10_lessens_7 : decode cX10_lessens 7 = .ok (.if_icmp .ge 253, 3) := by decide +kernel
theorem dX10_lessens_10 : decode cX10_lessens 10 = .ok (.aload_n 0, 1) := by decide +kernel
theorem dX10_lessens_11 : decode cX10_lessens 11 = .ok (.getfield 46, 3) := by decide +kernel
theorem dX10_lessens_14 : decode cX10_lessens 14 = .ok (.iload_n 3, 1) := by decide +kernel
theorem dX10_lessens_15 : decode cX10_lessens 15 = .ok (.baload, 1) := by decide +kernel
theorem dX10_lessens_16 : decode cX10_lessens 16 = .ok (.ifCond .eq 27, 3) := by decide +kernel
theorem dX10_lessens_19 : decode cX10_lessens 19 = .ok (.aload_n 0, 1) := by decide +kernel
theorem dX10_lessens_20 : decode cX10_lessens 20 = .ok (.getfield 40, 3) := by decide +kernel
theorem dX10_lessens_23 : decode cX10_lessens 23 = .ok (.iload_n 3, 1) := by decide +kernel
theorem dX10_lessens_24 : decode cX10_lessens 24 = .ok (.iaload, 1) := by decide +kernel
theorem dX10_lessens_25 : decode cX10_lessens 25 = .ok (.aload_n 0, 1) := by decide +kernel
theorem dX10_lessens_26 : decode cX10_lessens 26 = .ok (.getfield 43, 3) := by decide +kernel
theorem dX10_lessens_29 : decode cX10_lessens 29 = .ok (.iload_n 3, 1) := by decide +kernel
theorem dX10_lessens_30 : decode cX10_lessens 30 = .ok (.iaload, 1) := by decide +kernel
theorem dX10_lessens_31 : decode cX10_lessens 31 = .ok (.if_icmp .ne 12, 3) := by decide +kernel
theorem dX10_lessens_34 : decode cX10_lessens 34 = .ok (.aload_n 0, 1) := by decide +kernel
theorem dX10_lessens_35 : decode cX10_lessens 35 = .ok (.getfield 46, 3) := by decide +kernel
theorem dX10_lessens_38 : decode cX10_lessens 38 = .ok (.iload_n 3, 1) := by decide +kernel
theorem dX10_lessens_39 : decode cX10_lessens 39 = .ok (.iconst 0, 1) := by decide +kernel
theorem dX10_lessens_40 : decode cX10_lessens 40 = .ok (.bastore, 1) := by decide +kernel
theorem dX10_lessens_41 : decode cX10_lessens 41 = .ok (.iconst 1, 1) := by decide +kernel
theorem dX10_lessens_42 : decode cX10_lessens 42 = .ok (.ireturn, 1) := by decide +kernel
theorem dX10_lessens_43 : decode cX10_lessens 43 = .ok (.iconst 0, 1) := by decide +kernel
theorem dX10_lessens_44 : decode cX10_lessens 44 = .ok (.istore 4, 2) := by decide +kernel
theorem dX10_lessens_46 : decode cX10_lessens 46 = .ok (.iconst 0, 1) := by decide +kernel
theorem dX10_lessens_47 : decode cX10_lessens 47 = .ok (.istore 5, 2) := by decide +kernel
theorem dX10_lessens_49 : decode cX10_lessens 49 = .ok (.iload 5, 2) := by decide +kernel
theorem dX10_lessens_51 : decode cX10_lessens 51 = .ok (.iload_n 3, 1) := by decide +kernel
theorem dX10_lessens_52 : decode cX10_lessens 52 = .ok (.if_icmp .ge 93, 3) := by decide +kernel
theorem dX10_lessens_55 : decode cX10_lessens 55 = .ok (.iload 4, 2) := by decide +kernel
theorem dX10_lessens_57 : decode cX10_lessens 57 = .ok (.aload_n 0, 1) := by decide +kernel
theorem dX10_lessens_58 : decode cX10_lessens 58 = .ok (.getfield 46, 3) := by decide +kernel
theorem dX10_lessens_61 : decode cX10_lessens 61 = .ok (.iload 5, 2) := by decide +kernel
theorem dX10_lessens_63 : decode cX10_lessens 63 = .ok (.baload, 1) := by decide +kernel
theorem dX10_lessens_64 : decode cX10_lessens 64 = .ok (.ifCond .eq 71, 3) := by decide +kernel
theorem dX10_lessens_67 : decode cX10_lessens 67 = .ok (.aload_n 0, 1) := by decide +kernel
theorem dX10_lessens_68 : decode cX10_lessens 68 = .ok (.getfield 40, 3) := by decide +kernel
theorem dX10_lessens_71 : decode cX10_lessens 71 = .ok (.iload 5, 2) := by decide +kernel
theorem dX10_lessens_73 : decode cX10_lessens 73 = .ok (.iaload, 1) := by decide +kernel
theorem dX10_lessens_74 : decode cX10_lessens 74 = .ok (.aload_n 0, 1) := by decide +kernel
theorem dX10_lessens_75 : decode cX10_lessens 75 = .ok (.getfield 40, 3) := by decide +kernel
theorem dX10_lessens_78 : decode cX10_lessens 78 = .ok (.iload_n 3, 1) := by decide +kernel
theorem dX10_lessens_79 : decode cX10_lessens 79 = .ok (.iaload, 1) := by decide +kernel
theorem dX10_lessens_80 : decode cX10_lessens 80 = .ok (.if_icmp .ne 19, 3) := by decide +kernel
theorem dX10_lessens_83 : decode cX10_lessens 83 = .ok (.aload_n 0, 1) := by decide +kernel
theorem dX10_lessens_84 : decode cX10_lessens 84 = .ok (.getfield 43, 3) := by decide +kernel
theorem dX10_lessens_87 : decode cX10_lessens 87 = .ok (.iload 5, 2) := by decide +kernel
theorem dX10_lessens_89 : decode cX10_lessens 89 = .ok (.iaload, 1) := by decide +kernel
theorem dX10_lessens_90 : decode cX10_lessens 90 = .ok (.aload_n 0, 1) := by decide +kernel
theorem dX10_lessens_91 : decode cX10_lessens 91 = .ok (.getfield 43, 3) := by decide +kernel
theorem dX10_lessens_94 : decode cX10_lessens 94 = .ok (.iload_n 3, 1) := by decide +kernel
theorem dX10_lessens_95 : decode cX10_lessens 95 = .ok (.iaload, 1) := by decide +kernel
theorem dX10_lessens_96 : decode cX10_lessens 96 = .ok (.if_icmp .eq 35, 3) := by decide +kernel
theorem dX10_lessens_99 : decode cX10_lessens 99 = .ok (.aload_n 0, 1) := by decide +kernel
theorem dX10_lessens_100 : decode cX10_lessens 100 = .ok (.getfield 40, 3) := by decide +kernel
theorem dX10_lessens_103 : decode cX10_lessens 103 = .ok (.iload 5, 2) := by decide +kernel
theorem dX10_lessens_105 : decode cX10_lessens 105 = .ok (.iaload, 1) := by decide +kernel
theorem dX10_lessens_106 : decode cX10_lessens 106 = .ok (.aload_n 0, 1) := by decide +kernel
theorem dX10_lessens_107 : decode cX10_lessens 107 = .ok (.getfield 43, 3) := by decide +kernel
theorem dX10_lessens_110 : decode cX10_lessens 110 = .ok (.iload_n 3, 1) := by decide +kernel
theorem dX10_lessens_111 : decode cX10_lessens 111 = .ok (.iaload, 1) := by decide +kernel
theorem dX10_lessens_112 : decode cX10_lessens 112 = .ok (.if_icmp .ne 23, 3) := by decide +kernel
theorem dX10_lessens_115 : decode cX10_lessens 115 = .ok (.aload_n 0, 1) := by decide +kernel
theorem dX10_lessens_116 : decode cX10_lessens 116 = .ok (.getfield 43, 3) := by decide +kernel
theorem dX10_lessens_119 : decode cX10_lessens 119 = .ok (.iload 5, 2) := by decide +kernel
theorem dX10_lessens_121 : decode cX10_lessens 121 = .ok (.iaload, 1) := by decide +kernel
theorem dX10_lessens_122 : decode cX10_lessens 122 = .ok (.aload_n 0, 1) := by decide +kernel
theorem dX10_lessens_123 : decode cX10_lessens 123 = .ok (.getfield 40, 3) := by decide +kernel
theorem dX10_lessens_126 : decode cX10_lessens 126 = .ok (.iload_n 3, 1) := by decide +kernel
theorem dX10_lessens_127 : decode cX10_lessens 127 = .ok (.iaload, 1) := by decide +kernel
theorem dX10_lessens_128 : decode cX10_lessens 128 = .ok (.if_icmp .ne 7, 3) := by decide +kernel
theorem dX10_lessens_131 : decode cX10_lessens 131 = .ok (.iconst 1, 1) := by decide +kernel
theorem dX10_lessens_132 : decode cX10_lessens 132 = .ok (.goto 4, 3) := by decide +kernel
theorem dX10_lessens_135 : decode cX10_lessens 135 = .ok (.iconst 0, 1) := by decide +kernel
theorem dX10_lessens_136 : decode cX10_lessens 136 = .ok (.ior, 1) := by decide +kernel
theorem dX10_lessens_137 : decode cX10_lessens 137 = .ok (.istore 4, 2) := by decide +kernel
theorem dX10_lessens_139 : decode cX10_lessens 139 = .ok (.iinc 5 1, 3) := by decide +kernel
theorem dX10_lessens_142 : decode cX10_lessens 142 = .ok (.goto (-93), 3) := by decide +kernel
theorem dX10_lessens_145 : decode cX10_lessens 145 = .ok (.aload_n 0, 1) := by decide +kernel
theorem dX10_lessens_146 : decode cX10_lessens 146 = .ok (.getfield 46, 3) := by decide +kernel
theorem dX10_lessens_149 : decode cX10_lessens 149 = .ok (.iload_n 3, 1) := by decide +kernel
theorem dX10_lessens_150 : decode cX10_lessens 150 = .ok (.baload, 1) := by decide +kernel
theorem dX10_lessens_151 : decode cX10_lessens 151 = .ok (.ifCond .eq 17, 3) := by decide +kernel
theorem dX10_lessens_154 : decode cX10_lessens 154 = .ok (.iload 4, 2) := by decide +kernel
theorem dX10_lessens_156 : decode cX10_lessens 156 = .ok (.ifCond .eq 12, 3) := by decide +kernel
theorem dX10_lessens_159 : decode cX10_lessens 159 = .ok (.aload_n 0, 1) := by decide +kernel
theorem dX10_lessens_160 : decode cX10_lessens 160 = .ok (.getfield 46, 3) := by decide +kernel
theorem dX10_lessens_163 : decode cX10_lessens 163 = .ok (.iload_n 3, 1) := by decide +kernel
theorem dX10_lessens_164 : decode cX10_lessens 164 = .ok (.iconst 0, 1) := by decide +kernel
theorem dX10_lessens_165 : decode cX10_lessens 165 = .ok (.bastore, 1) := by decide +kernel
theorem dX10_lessens_166 : decode cX10_lessens 166 = .ok (.iconst 1, 1) := by decide +kernel
theorem dX10_lessens_167 : decode cX10_lessens 167 = .ok (.ireturn, 1) := by decide +kernel
theorem dX10_lessens_168 : decode cX10_lessens 168 = .ok (.aload_n 0, 1) := by decide +kernel
theorem dX10_lessens_169 : decode cX10_lessens 169 = .ok (.getfield 46, 3) := by decide +kernel
theorem dX10_lessens_172 : decode cX10_lessens 172 = .ok (.iload_n 3, 1) := by decide +kernel
theorem dX10_lessens_173 : decode cX10_lessens 173 = .ok (.baload, 1) := by decide +kernel
theorem dX10_lessens_174 : decode cX10_lessens 174 = .ok (.ifCond .eq 80, 3) := by decide +kernel
theorem dX10_lessens_177 : decode cX10_lessens 177 = .ok (.aload_n 0, 1) := by decide +kernel
theorem dX10_lessens_178 : decode cX10_lessens 178 = .ok (.getfield 40, 3) := by decide +kernel
theorem dX10_lessens_181 : decode cX10_lessens 181 = .ok (.iload_n 3, 1) := by decide +kernel
theorem dX10_lessens_182 : decode cX10_lessens 182 = .ok (.iaload, 1) := by decide +kernel
theorem dX10_lessens_183 : decode cX10_lessens 183 = .ok (.iload_n 1, 1) := by decide +kernel
theorem dX10_lessens_184 : decode cX10_lessens 184 = .ok (.if_icmp .eq 27, 3) := by decide +kernel
theorem dX10_lessens_187 : decode cX10_lessens 187 = .ok (.aload_n 0, 1) := by decide +kernel
theorem dX10_lessens_188 : decode cX10_lessens 188 = .ok (.getfield 40, 3) := by decide +kernel
theorem dX10_lessens_191 : decode cX10_lessens 191 = .ok (.iload_n 3, 1) := by decide +kernel
theorem dX10_lessens_192 : decode cX10_lessens 192 = .ok (.iaload, 1) := by decide +kernel
theorem dX10_lessens_193 : decode cX10_lessens 193 = .ok (.iload_n 2, 1) := by decide +kernel
theorem dX10_lessens_194 : decode cX10_lessens 194 = .ok (.if_icmp .eq 17, 3) := by decide +kernel
theorem dX10_lessens_197 : decode cX10_lessens 197 = .ok (.aload_n 0, 1) := by decide +kernel
theorem dX10_lessens_198 : decode cX10_lessens 198 = .ok (.aload_n 0, 1) := by decide +kernel
theorem dX10_lessens_199 : decode cX10_lessens 199 = .ok (.getfield 40, 3) := by decide +kernel
theorem dX10_lessens_202 : decode cX10_lessens 202 = .ok (.iload_n 3, 1) := by decide +kernel
theorem dX10_lessens_203 : decode cX10_lessens 203 = .ok (.iaload, 1) := by decide +kernel
theorem dX10_lessens_204 : decode cX10_lessens 204 = .ok (.invokevirtual 170, 3) := by decide +kernel
theorem dX10_lessens_207 : decode cX10_lessens 207 = .ok (.iconst 1, 1) := by decide +kernel
theorem dX10_lessens_208 : decode cX10_lessens 208 = .ok (.if_icmp .eq 37, 3) := by decide +kernel
theorem dX10_lessens_211 : decode cX10_lessens 211 = .ok (.aload_n 0, 1) := by decide +kernel
theorem dX10_lessens_212 : decode cX10_lessens 212 = .ok (.getfield 43, 3) := by decide +kernel
theorem dX10_lessens_215 : decode cX10_lessens 215 = .ok (.iload_n 3, 1) := by decide +kernel
theorem dX10_lessens_216 : decode cX10_lessens 216 = .ok (.iaload, 1) := by decide +kernel
theorem dX10_lessens_217 : decode cX10_lessens 217 = .ok (.iload_n 1, 1) := by decide +kernel
theorem dX10_lessens_218 : decode cX10_lessens 218 = .ok (.if_icmp .eq 36, 3) := by decide +kernel
theorem dX10_lessens_221 : decode cX10_lessens 221 = .ok (.aload_n 0, 1) := by decide +kernel
theorem dX10_lessens_222 : decode cX10_lessens 222 = .ok (.getfield 43, 3) := by decide +kernel
theorem dX10_lessens_225 : decode cX10_lessens 225 = .ok (.iload_n 3, 1) := by decide +kernel
theorem dX10_lessens_226 : decode cX10_lessens 226 = .ok (.iaload, 1) := by decide +kernel
theorem dX10_lessens_227 : decode cX10_lessens 227 = .ok (.iload_n 2, 1) := by decide +kernel
theorem dX10_lessens_228 : decode cX10_lessens 228 = .ok (.if_icmp .eq 26, 3) := by decide +kernel
theorem dX10_lessens_231 : decode cX10_lessens 231 = .ok (.aload_n 0, 1) := by decide +kernel
theorem dX10_lessens_232 : decode cX10_lessens 232 = .ok (.aload_n 0, 1) := by decide +kernel
theorem dX10_lessens_233 : decode cX10_lessens 233 = .ok (.getfield 43, 3) := by decide +kernel
theorem dX10_lessens_236 : decode cX10_lessens 236 = .ok (.iload_n 3, 1) := by decide +kernel
theorem dX10_lessens_237 : decode cX10_lessens 237 = .ok (.iaload, 1) := by decide +kernel
theorem dX10_lessens_238 : decode cX10_lessens 238 = .ok (.invokevirtual 170, 3) := by decide +kernel
theorem dX10_lessens_241 : decode cX10_lessens 241 = .ok (.iconst 1, 1) := by decide +kernel
theorem dX10_lessens_242 : decode cX10_lessens 242 = .ok (.if_icmp .ne 12, 3) := by decide +kernel
theorem dX10_lessens_245 : decode cX10_lessens 245 = .ok (.aload_n 0, 1) := by decide +kernel
theorem dX10_lessens_246 : decode cX10_lessens 246 = .ok (.getfield 46, 3) := by decide +kernel
theorem dX10_lessens_249 : decode cX10_lessens 249 = .ok (.iload_n 3, 1) := by decide +kernel
theorem dX10_lessens_250 : decode cX10_lessens 250 = .ok (.iconst 0, 1) := by decide +kernel
theorem dX10_lessens_251 : decode cX10_lessens 251 = .ok (.bastore, 1) := by decide +kernel
theorem dX10_lessens_252 : decode cX10_lessens 252 = .ok (.iconst 1, 1) := by decide +kernel
theorem dX10_lessens_253 : decode cX10_lessens 253 = .ok (.ireturn, 1) := by decide +kernel
theorem dX10_lessens_254 : decode cX10_lessens 254 = .ok (.iinc 3 1, 3) := by decide +kernel
theorem dX10_lessens_257 : decode cX10_lessens 257 = .ok (.goto (-255), 3) := by decide +kernel
theorem dX10_lessens_260 : decode cX10_lessens 260 = .ok (.iconst 0, 1) := by decide +kernel
theorem dX10_lessens_261 : decode cX10_lessens 261 = .ok (.istore_n 3, 1) := by decide +kernel
theorem dX10_lessens_262 : decode cX10_lessens 262 = .ok (.iload_n 3, 1) := by decide +kernel
theorem dX10_lessens_263 : decode cX10_lessens 263 = .ok (.bipush 6, 2) := by decide +kernel
theorem dX10_lessens_265 : decode cX10_lessens 265 = .ok (.if_icmp .ge 35, 3) := by decide +kernel
theorem dX10_lessens_268 : decode cX10_lessens 268 = .ok (.iload_n 3, 1) := by decide +kernel
theorem dX10_lessens_269 : decode cX10_lessens 269 = .ok (.iload_n 1, 1) := by decide +kernel
theorem dX10_lessens_270 : decode cX10_lessens 270 = .ok (.if_icmp .eq 24, 3) := by decide +kernel
theorem dX10_lessens_273 : decode cX10_lessens 273 = .ok (.iload_n 3, 1) := by decide +kernel
theorem dX10_lessens_274 : decode cX10_lessens 274 = .ok (.iload_n 2, 1) := by decide +kernel
theorem dX10_lessens_275 : decode cX10_lessens 275 = .ok (.if_icmp .eq 19, 3) := by decide +kernel
theorem dX10_lessens_278 : decode cX10_lessens 278 = .ok (.aload_n 0, 1) := by decide +kernel
theorem dX10_lessens_279 : decode cX10_lessens 279 = .ok (.iload_n 3, 1) := by decide +kernel
theorem dX10_lessens_280 : decode cX10_lessens 280 = .ok (.invokevirtual 170, 3) := by decide +kernel
theorem dX10_lessens_283 : decode cX10_lessens 283 = .ok (.iconst 2, 1) := by decide +kernel
theorem dX10_lessens_284 : decode cX10_lessens 284 = .ok (.if_icmp .ne 10, 3) := by decide +kernel
theorem dX10_lessens_287 : decode cX10_lessens 287 = .ok (.aload_n 0, 1) := by decide +kernel
theorem dX10_lessens_288 : decode cX10_lessens 288 = .ok (.iload_n 3, 1) := by decide +kernel
theorem dX10_lessens_289 : decode cX10_lessens 289 = .ok (.invokevirtual 173, 3) := by decide +kernel
theorem dX10_lessens_292 : decode cX10_lessens 292 = .ok (.iconst 1, 1) := by decide +kernel
theorem dX10_lessens_293 : decode cX10_lessens 293 = .ok (.ireturn, 1) := by decide +kernel
theorem dX10_lessens_294 : decode cX10_lessens 294 = .ok (.iinc 3 1, 3) := by decide +kernel
theorem dX10_lessens_297 : decode cX10_lessens 297 = .ok (.goto (-35), 3) := by decide +kernel
theorem dX10_lessens_300 : decode cX10_lessens 300 = .ok (.iconst 0, 1) := by decide +kernel
theorem dX10_lessens_301 : decode cX10_lessens 301 = .ok (.ireturn, 1) := by decide +kernel
set_option maxRecDepth 20000 in
theorem ggX10_falls_X10_isKnot : GoodIn wsX10_falls wsX10_isKnot := goodIn_r _ [12, 13, 14, 11, 15] (by decide +kernel) (by decide +kernel)
set_option maxRecDepth 20000 in
theorem gX10_falls_X10_isKnot : GoodIn wsX10_falls (va_wsS RX10 116 yX10_isKnot wsX10_isKnot) := goodIn_app (goodIn_of _ (by decide +kernel)) ggX10_falls_X10_isKnot
set_option maxRecDepth 20000 in
theorem ggX10_falls_X10_hang : GoodIn wsX10_falls wsX10_hang := goodIn_r _ [19, 2, 8, 20, 21, 22, 23, 11, 24, 4, 6, 37, 38, 39, 40, 41, 42, 43, 44, 45, 46, 47, 48, 49, 50, 51, 52, 53, 54, 55, 56, 57, 58, 59, 60] (by decide +kernel) (by decide +kernel)
set_option maxRecDepth 20000 in
theorem gX10_falls_X10_hang : GoodIn wsX10_falls (wsV RX10 137 RX10 yX10_hang wsX10_hang) := goodIn_app (goodIn_of _ (by decide +kernel)) ggX10_falls_X10_hang
set_option maxRecDepth 20000 in
theorem ggX10_falls_X10_lessens : GoodIn wsX10_falls wsX10_lessens := goodIn_r _ [28, 2, 7, 3, 5, 29, 30, 31, 11, 32, 33, 34, 35, 36, 37, 38, 39, 40, 41, 42, 43, 44, 45, 46, 47, 48, 49, 50, 51, 52, 53, 54, 55, 56, 57, 58, 59, 60] (by decide +kernel) (by decide +kernel)
set_option maxRecDepth 20000 in
theorem gX10_falls_X10_lessens : GoodIn wsX10_falls (wsV RX10 177 RX10 yX10_lessens wsX10_lessens) := goodIn_app (goodIn_of _ (by decide +kernel)) ggX10_falls_X10_lessens
theorem dX10_falls_0 : decode cX10_falls 0 = .ok (.aload_n 0, 1) := by decide +kernel
theorem dX10_falls_1 : decode cX10_falls 1 = .ok (.iconst 0, 1) := by decide +kernel
theorem dX10_falls_2 : decode cX10_falls 2 = .ok (.putfield 59, 3) := by decide +kernel
theorem dX10_falls_5 : decode cX10_falls 5 = .ok (.iload_n 1, 1) := by decide +kernel
theorem dX10_falls_6 : decode cX10_falls 6 = .ok (.invokestatic 116, 3) := by decide +kernel
theorem dX10_falls_9 : decode cX10_falls 9 = .ok (.ifCond .eq 15, 3) := by decide +kernel
theorem dX10_falls_12 : decode cX10_falls 12 = .ok (.iload_n 2, 1) := by decide +kernel
theorem dX10_falls_13 : decode cX10_falls 13 = .ok (.invokestatic 116, 3) := by decide +kernel
theorem dX10_falls_16 : decode cX10_falls 16 = .ok (.ifCond .eq 8, 3) := by decide +kernel
theorem dX10_falls_19 : decode cX10_falls 19 = .ok (.iload_n 1, 1) := by decide +kernel
theorem dX10_falls_20 : decode cX10_falls 20 = .ok (.iload_n 2, 1) := by decide +kernel
theorem dX10_falls_21 : decode cX10_falls 21 = .ok (.if_icmp .ne 5, 3) := by decide +kernel
theorem dX10_falls_24 : decode cX10_falls 24 = .ok (.iconst (-1), 1) := by decide +kernel
theorem dX10_falls_25 : decode cX10_falls 25 = .ok (.ireturn, 1) := by decide +kernel
theorem dX10_falls_26 : decode cX10_falls 26 = .ok (.aload_n 0, 1) := by decide +kernel
theorem dX10_falls_27 : decode cX10_falls 27 = .ok (.iload_n 1, 1) := by decide +kernel
theorem dX10_falls_28 : decode cX10_falls 28 = .ok (.iload_n 2, 1) := by decide +kernel
theorem dX10_falls_29 : decode cX10_falls 29 = .ok (.invokevirtual 137, 3) := by decide +kernel
theorem dX10_falls_32 : decode cX10_falls 32 = .ok (.ifCond .ne 6, 3) := by decide +kernel
theorem dX10_falls_35 : decode cX10_falls 35 = .ok (.bipush (-2), 2) := by decide +kernel
theorem dX10_falls_37 : decode cX10_falls 37 = .ok (.ireturn, 1) := by decide +kernel
theorem dX10_falls_38 : decode cX10_falls 38 = .ok (.iconst 0, 1) := by decide +kernel
theorem dX10_falls_39 : decode cX10_falls 39 = .ok (.istore_n 3, 1) := by decide +kernel
theorem dX10_falls_40 : decode cX10_falls 40 = .ok (.iload_n 3, 1) := by decide +kernel
theorem dX10_falls_41 : decode cX10_falls 41 = .ok (.aload_n 0, 1) := by decide +kernel
theorem dX10_falls_42 : decode cX10_falls 42 = .ok (.getfield 119, 3) := by decide +kernel
theorem dX10_falls_45 : decode cX10_falls 45 = .ok (.if_icmp .ge 64, 3) := by decide +kernel
theorem dX10_falls_48 : decode cX10_falls 48 = .ok (.aload_n 0, 1) := by decide +kernel
theorem dX10_falls_49 : decode cX10_falls 49 = .ok (.getfield 40, 3) := by decide +kernel
theorem dX10_falls_52 : decode cX10_falls 52 = .ok (.iload_n 3, 1) := by decide +kernel
theorem dX10_falls_53 : decode cX10_falls 53 = .ok (.aload_n 0, 1) := by decide +kernel
theorem dX10_falls_54 : decode cX10_falls 54 = .ok (.getfield 22, 3) := by decide +kernel
theorem dX10_falls_57 : decode cX10_falls 57 = .ok (.iload_n 3, 1) := by decide +kernel
theorem dX10_falls_58 : decode cX10_falls 58 = .ok (.iaload, 1) := by decide +kernel
theorem dX10_falls_59 : decode cX10_falls 59 = .ok (.iastore, 1) := by decide +kernel
theorem dX10_falls_60 : decode cX10_falls 60 = .ok (.aload_n 0, 1) := by decide +kernel
theorem dX10_falls_61 : decode cX10_falls 61 = .ok (.getfield 43, 3) := by decide +kernel
theorem dX10_falls_64 : decode cX10_falls 64 = .ok (.iload_n 3, 1) := by decide +kernel
theorem dX10_falls_65 : decode cX10_falls 65 = .ok (.aload_n 0, 1) := by decide +kernel
theorem dX10_falls_66 : decode cX10_falls 66 = .ok (.getfield 25, 3) := by decide +kernel
theorem dX10_falls_69 : decode cX10_falls 69 = .ok (.iload_n 3, 1) := by decide +kernel
theorem dX10_falls_70 : decode cX10_falls 70 = .ok (.iaload, 1) := by decide +kernel
theorem dX10_falls_71 : decode cX10_falls 71 = .ok (.iastore, 1) := by decide +kernel
theorem dX10_falls_72 : decode cX10_falls 72 = .ok (.aload_n 0, 1) := by decide +kernel
theorem dX10_falls_73 : decode cX10_falls 73 = .ok (.getfield 46, 3) := by decide +kernel
theorem dX10_falls_76 : decode cX10_falls 76 = .ok (.iload_n 3, 1) := by decide +kernel
theorem dX10_falls_77 : decode cX10_falls 77 = .ok (.aload_n 0, 1) := by decide +kernel
theorem dX10_falls_78 : decode cX10_falls 78 = .ok (.getfield 37, 3) := by decide +kernel
theorem dX10_falls_81 : decode cX10_falls 81 = .ok (.aload_n 0, 1) := by decide +kernel
theorem dX10_falls_82 : decode cX10_falls 82 = .ok (.getfield 22, 3) := by decide +kernel
theorem dX10_falls_85 : decode cX10_falls 85 = .ok (.iload_n 3, 1) := by decide +kernel
theorem dX10_falls_86 : decode cX10_falls 86 = .ok (.iaload, 1) := by decide +kernel
theorem dX10_falls_87 : decode cX10_falls 87 = .ok (.iaload, 1) := by decide +kernel
theorem dX10_falls_88 : decode cX10_falls 88 = .ok (.aload_n 0, 1) := by decide +kernel
theorem dX10_falls_89 : decode cX10_falls 89 = .ok (.getfield 37, 3) := by decide +kernel
theorem dX10_falls_92 : decode cX10_falls 92 = .ok (.iload_n 1, 1) := by decide +kernel
theorem dX10_falls_93 : decode cX10_falls 93 = .ok (.iaload, 1) := by decide +kernel
theorem dX10_falls_94 : decode cX10_falls 94 = .ok (.if_icmp .ne 7, 3) := by decide +kernel
theorem dX10_falls_97 : decode cX10_falls 97 = .ok (.iconst 1, 1) := by decide +kernel
theorem dX10_falls_98 : decode cX10_falls 98 = .ok (.goto 4, 3) := by decide +kernel
theorem dX10_falls_101 : decode cX10_falls 101 = .ok (.iconst 0, 1) := by decide +kernel
theorem dX10_falls_102 : decode cX10_falls 102 = .ok (.bastore, 1) := by decide +kernel
theorem dX10_falls_103 : decode cX10_falls 103 = .ok (.iinc 3 1, 3) := by decide +kernel
theorem dX10_falls_106 : decode cX10_falls 106 = .ok (.goto (-66), 3) := by decide +kernel
theorem dX10_falls_109 : decode cX10_falls 109 = .ok (.iconst 1, 1) := by decide +kernel
theorem dX10_falls_110 : decode cX10_falls 110 = .ok (.istore_n 3, 1) := by decide +kernel
theorem dX10_falls_111 : decode cX10_falls 111 = .ok (.iload_n 3, 1) := by decide +kernel
theorem dX10_falls_112 : decode cX10_falls 112 = .ok (.ifCond .eq 13, 3) := by decide +kernel
theorem dX10_falls_115 : decode cX10_falls 115 = .ok (.aload_n 0, 1) := by decide +kernel
theorem dX10_falls_116 : decode cX10_falls 116 = .ok (.iload_n 1, 1) := by decide +kernel
theorem dX10_falls_117 : decode cX10_falls 117 = .ok (.iload_n 2, 1) := by decide +kernel
theorem dX10_falls_118 : decode cX10_falls 118 = .ok (.invokevirtual 177, 3) := by decide +kernel
theorem dX10_falls_121 : decode cX10_falls 121 = .ok (.istore_n 3, 1) := by decide +kernel
theorem dX10_falls_122 : decode cX10_falls 122 = .ok (.goto (-11), 3) := by decide +kernel
theorem dX10_falls_125 : decode cX10_falls 125 = .ok (.iconst 0, 1) := by decide +kernel
theorem dX10_falls_126 : decode cX10_falls 126 = .ok (.istore 4, 2) := by decide +kernel
theorem dX10_falls_128 : decode cX10_falls 128 = .ok (.iconst 0, 1) := by decide +kernel
theorem dX10_falls_129 : decode cX10_falls 129 = .ok (.istore 5, 2) := by decide +kernel
theorem dX10_falls_131 : decode cX10_falls 131 = .ok (.iconst 0, 1) := by decide +kernel
theorem dX10_falls_132 : decode cX10_falls 132 = .ok (.istore 6, 2) := by decide +kernel
theorem dX10_falls_134 : decode cX10_falls 134 = .ok (.iload 6, 2) := by decide +kernel
theorem dX10_falls_136 : decode cX10_falls 136 = .ok (.aload_n 0, 1) := by decide +kernel
theorem dX10_falls_137 : decode cX10_falls 137 = .ok (.getfield 119, 3) := by decide +kernel
theorem dX10_falls_140 : decode cX10_falls 140 = .ok (.if_icmp .ge 93, 3) := by decide +kernel
theorem dX10_falls_143 : decode cX10_falls 143 = .ok (.iload 4, 2) := by decide +kernel
theorem dX10_falls_145 : decode cX10_falls 145 = .ok (.aload_n 0, 1) := by decide +kernel
theorem dX10_falls_146 : decode cX10_falls 146 = .ok (.getfield 46, 3) := by decide +kernel
theorem dX10_falls_149 : decode cX10_falls 149 = .ok (.iload 6, 2) := by decide +kernel
theorem dX10_falls_151 : decode cX10_falls 151 = .ok (.baload, 1) := by decide +kernel
theorem dX10_falls_152 : decode cX10_falls 152 = .ok (.ifCond .eq 7, 3) := by decide +kernel
theorem dX10_falls_155 : decode cX10_falls 155 = .ok (.iconst 1, 1) := by decide +kernel
theorem dX10_falls_156 : decode cX10_falls 156 = .ok (.goto 4, 3) := by decide +kernel
theorem dX10_falls_159 : decode cX10_falls 159 = .ok (.iconst 0, 1) := by decide +kernel
theorem dX10_falls_160 : decode cX10_falls 160 = .ok (.iadd, 1) := by decide +kernel
theorem dX10_falls_161 : decode cX10_falls 161 = .ok (.istore 4, 2) := by decide +kernel
theorem dX10_falls_163 : decode cX10_falls 163 = .ok (.iload 5, 2) := by decide +kernel
theorem dX10_falls_165 : decode cX10_falls 165 = .ok (.aload_n 0, 1) := by decide +kernel
theorem dX10_falls_166 : decode cX10_falls 166 = .ok (.getfield 46, 3) := by decide +kernel
theorem dX10_falls_169 : decode cX10_falls 169 = .ok (.iload 6, 2) := by decide +kernel
theorem dX10_falls_171 : decode cX10_falls 171 = .ok (.baload, 1) := by decide +kernel
theorem dX10_falls_172 : decode cX10_falls 172 = .ok (.ifCond .eq 51, 3) := by decide +kernel
theorem dX10_falls_175 : decode cX10_falls 175 = .ok (.aload_n 0, 1) := by decide +kernel
theorem dX10_falls_176 : decode cX10_falls 176 = .ok (.getfield 40, 3) := by decide +kernel
theorem dX10_falls_179 : decode cX10_falls 179 = .ok (.iload 6, 2) := by decide +kernel
theorem dX10_falls_181 : decode cX10_falls 181 = .ok (.iaload, 1) := by decide +kernel
theorem dX10_falls_182 : decode cX10_falls 182 = .ok (.iload_n 1, 1) := by decide +kernel
theorem dX10_falls_183 : decode cX10_falls 183 = .ok (.if_icmp .ne 14, 3) := by decide +kernel
theorem dX10_falls_186 : decode cX10_falls 186 = .ok (.aload_n 0, 1) := by decide +kernel
theorem dX10_falls_187 : decode cX10_falls 187 = .ok (.getfield 43, 3) := by decide +kernel
theorem dX10_falls_190 : decode cX10_falls 190 = .ok (.iload 6, 2) := by decide +kernel
theorem dX10_falls_192 : decode cX10_falls 192 = .ok (.iaload, 1) := by decide +kernel
theorem dX10_falls_193 : decode cX10_falls 193 = .ok (.iload_n 2, 1) := by decide +kernel
theorem dX10_falls_194 : decode cX10_falls 194 = .ok (.if_icmp .eq 25, 3) := by decide +kernel
theorem dX10_falls_197 : decode cX10_falls 197 = .ok (.aload_n 0, 1) := by decide +kernel
theorem dX10_falls_198 : decode cX10_falls 198 = .ok (.getfield 40, 3) := by decide +kernel
theorem dX10_falls_201 : decode cX10_falls 201 = .ok (.iload 6, 2) := by decide +kernel
theorem dX10_falls_203 : decode cX10_falls 203 = .ok (.iaload, 1) := by decide +kernel
theorem dX10_falls_204 : decode cX10_falls 204 = .ok (.iload_n 2, 1) := by decide +kernel
theorem dX10_falls_205 : decode cX10_falls 205 = .ok (.if_icmp .ne 18, 3) := by decide +kernel
theorem dX10_falls_208 : decode cX10_falls 208 = .ok (.aload_n 0, 1) := by decide +kernel
theorem dX10_falls_209 : decode cX10_falls 209 = .ok (.getfield 43, 3) := by decide +kernel
theorem dX10_falls_212 : decode cX10_falls 212 = .ok (.iload 6, 2) := by decide +kernel
theorem dX10_falls_214 : decode cX10_falls 214 = .ok (.iaload, 1) := by decide +kernel
theorem dX10_falls_215 : decode cX10_falls 215 = .ok (.iload_n 1, 1) := by decide +kernel
theorem dX10_falls_216 : decode cX10_falls 216 = .ok (.if_icmp .ne 7, 3) := by decide +kernel
theorem dX10_falls_219 : decode cX10_falls 219 = .ok (.iconst 1, 1) := by decide +kernel
theorem dX10_falls_220 : decode cX10_falls 220 = .ok (.goto 4, 3) := by decide +kernel
theorem dX10_falls_223 : decode cX10_falls 223 = .ok (.iconst 0, 1) := by decide +kernel
theorem dX10_falls_224 : decode cX10_falls 224 = .ok (.ior, 1) := by decide +kernel
theorem dX10_falls_225 : decode cX10_falls 225 = .ok (.istore 5, 2) := by decide +kernel
theorem dX10_falls_227 : decode cX10_falls 227 = .ok (.iinc 6 1, 3) := by decide +kernel
theorem dX10_falls_230 : decode cX10_falls 230 = .ok (.goto (-96), 3) := by decide +kernel
theorem dX10_falls_233 : decode cX10_falls 233 = .ok (.iload 4, 2) := by decide +kernel
theorem dX10_falls_235 : decode cX10_falls 235 = .ok (.iconst 1, 1) := by decide +kernel
theorem dX10_falls_236 : decode cX10_falls 236 = .ok (.if_icmp .ne 12, 3) := by decide +kernel
theorem dX10_falls_239 : decode cX10_falls 239 = .ok (.iload 5, 2) := by decide +kernel
theorem dX10_falls_241 : decode cX10_falls 241 = .ok (.ifCond .eq 7, 3) := by decide +kernel
theorem dX10_falls_244 : decode cX10_falls 244 = .ok (.iconst 1, 1) := by decide +kernel
theorem dX10_falls_245 : decode cX10_falls 245 = .ok (.goto 4, 3) := by decide +kernel
theorem dX10_falls_248 : decode cX10_falls 248 = .ok (.iconst 0, 1) := by decide +kernel
theorem dX10_falls_249 : decode cX10_falls 249 = .ok (.ireturn, 1) := by decide +kernel
set_option maxRecDepth 20000 in
theorem ggX10_sort_X10_in : GoodIn wsX10_sort wsX10_in := goodIn_r _ [8] (by decide +kernel) (by decide +kernel)
set_option maxRecDepth 20000 in
theorem gX10_sort_X10_in : GoodIn wsX10_sort (va_wsS RX10 89 yX10_in wsX10_in) := goodIn_app (goodIn_of _ (by decide +kernel)) ggX10_sort_X10_in
theorem dX10_sort_0 : decode cX10_sort 0 = .ok (.aload_n 0, 1) := by decide +kernel
theorem dX10_sort_1 : decode cX10_sort 1 = .ok (.iconst 0, 1) := by decide +kernel
theorem dX10_sort_2 : decode cX10_sort 2 = .ok (.putfield 59, 3) := by decide +kernel
theorem dX10_sort_5 : decode cX10_sort 5 = .ok (.iload_n 1, 1) := by decide +kernel
theorem dX10_sort_6 : decode cX10_sort 6 = .ok (.iconst 1, 1) := by decide +kernel
theorem dX10_sort_7 : decode cX10_sort 7 = .ok (.bipush 100, 2) := by decide +kernel
theorem dX10_sort_9 : decode cX10_sort 9 = .ok (.invokestatic 89, 3) := by decide +kernel
theorem dX10_sort_12 : decode cX10_sort 12 = .ok (.ifCond .eq 13, 3) := by decide +kernel
theorem dX10_sort_15 : decode cX10_sort 15 = .ok (.iload_n 2, 1) := by decide +kernel
theorem dX10_sort_16 : decode cX10_sort 16 = .ok (.iconst 1, 1) := by decide +kernel
theorem dX10_sort_17 : decode cX10_sort 17 = .ok (.bipush 50, 2) := by decide +kernel
theorem dX10_sort_19 : decode cX10_sort 19 = .ok (.invokestatic 89, 3) := by decide +kernel
theorem dX10_sort_22 : decode cX10_sort 22 = .ok (.ifCond .ne 5, 3) := by decide +kernel
theorem dX10_sort_25 : decode cX10_sort 25 = .ok (.iconst (-1), 1) := by decide +kernel
theorem dX10_sort_26 : decode cX10_sort 26 = .ok (.ireturn, 1) := by decide +kernel
theorem dX10_sort_27 : decode cX10_sort 27 = .ok (.aload_n 0, 1) := by decide +kernel
theorem dX10_sort_28 : decode cX10_sort 28 = .ok (.getfield 180, 3) := by decide +kernel
theorem dX10_sort_31 : decode cX10_sort 31 = .ok (.bipush 6, 2) := by decide +kernel
theorem dX10_sort_33 : decode cX10_sort 33 = .ok (.if_icmp .ne 6, 3) := by decide +kernel
theorem dX10_sort_36 : decode cX10_sort 36 = .ok (.bipush (-3), 2) := by decide +kernel
theorem dX10_sort_38 : decode cX10_sort 38 = .ok (.ireturn, 1) := by decide +kernel
theorem dX10_sort_39 : decode cX10_sort 39 = .ok (.aload_n 0, 1) := by decide +kernel
theorem dX10_sort_40 : decode cX10_sort 40 = .ok (.getfield 53, 3) := by decide +kernel
theorem dX10_sort_43 : decode cX10_sort 43 = .ok (.aload_n 0, 1) := by decide +kernel
theorem dX10_sort_44 : decode cX10_sort 44 = .ok (.getfield 180, 3) := by decide +kernel
theorem dX10_sort_47 : decode cX10_sort 47 = .ok (.iload_n 1, 1) := by decide +kernel
theorem dX10_sort_48 : decode cX10_sort 48 = .ok (.iastore, 1) := by decide +kernel
theorem dX10_sort_49 : decode cX10_sort 49 = .ok (.aload_n 0, 1) := by decide +kernel
theorem dX10_sort_50 : decode cX10_sort 50 = .ok (.getfield 56, 3) := by decide +kernel
theorem dX10_sort_53 : decode cX10_sort 53 = .ok (.aload_n 0, 1) := by decide +kernel
theorem dX10_sort_54 : decode cX10_sort 54 = .ok (.getfield 180, 3) := by decide +kernel
theorem dX10_sort_57 : decode cX10_sort 57 = .ok (.iload_n 2, 1) := by decide +kernel
theorem dX10_sort_58 : decode cX10_sort 58 = .ok (.iastore, 1) := by decide +kernel
theorem dX10_sort_59 : decode cX10_sort 59 = .ok (.aload_n 0, 1) := by decide +kernel
theorem dX10_sort_60 : decode cX10_sort 60 = .ok (.dup, 1) := by decide +kernel
theorem dX10_sort_61 : decode cX10_sort 61 = .ok (.getfield 180, 3) := by decide +kernel
theorem dX10_sort_64 : decode cX10_sort 64 = .ok (.iconst 1, 1) := by decide +kernel
theorem dX10_sort_65 : decode cX10_sort 65 = .ok (.iadd, 1) := by decide +kernel
theorem dX10_sort_66 : decode cX10_sort 66 = .ok (.putfield 180, 3) := by decide +kernel
theorem dX10_sort_69 : decode cX10_sort 69 = .ok (.aload_n 0, 1) := by decide +kernel
theorem dX10_sort_70 : decode cX10_sort 70 = .ok (.getfield 180, 3) := by decide +kernel
theorem dX10_sort_73 : decode cX10_sort 73 = .ok (.iconst 1, 1) := by decide +kernel
theorem dX10_sort_74 : decode cX10_sort 74 = .ok (.isub, 1) := by decide +kernel
theorem dX10_sort_75 : decode cX10_sort 75 = .ok (.ireturn, 1) := by decide +kernel
set_option maxRecDepth 20000 in
theorem ggX10_isChoice_X10_in : GoodIn wsX10_isChoice wsX10_in := goodIn_r _ [5] (by decide +kernel) (by decide +kernel)
set_option maxRecDepth 20000 in
theorem gX10_isChoice_X10_in : GoodIn wsX10_isChoice (va_wsS RX10 89 yX10_in wsX10_in) := goodIn_app (goodIn_of _ (by decide +kernel)) ggX10_isChoice_X10_in
theorem dX10_isChoice_0 : decode cX10_isChoice 0 = .ok (.iload_n 1, 1) := by decide +kernel
theorem dX10_isChoice_1 : decode cX10_isChoice 1 = .ok (.bipush 100, 2) := by decide +kernel
theorem dX10_isChoice_3 : decode cX10_isChoice 3 = .ok (.if_icmp .ge 15, 3) := by decide +kernel
theorem dX10_isChoice_6 : decode cX10_isChoice 6 = .ok (.iload_n 1, 1) := by decide +kernel
theorem dX10_isChoice_7 : decode cX10_isChoice 7 = .ok (.iconst 0, 1) := by decide +kernel
theorem dX10_isChoice_8 : decode cX10_isChoice 8 = .ok (.aload_n 0, 1) := by decide +kernel
theorem dX10_isChoice_9 : decode cX10_isChoice 9 = .ok (.getfield 180, 3) := by decide +kernel
theorem dX10_isChoice_12 : decode cX10_isChoice 12 = .ok (.iconst 1, 1) := by decide +kernel
theorem dX10_isChoice_13 : decode cX10_isChoice 13 = .ok (.isub, 1) := by decide +kernel
theorem dX10_isChoice_14 : decode cX10_isChoice 14 = .ok (.invokestatic 89, 3) := by decide +kernel
theorem dX10_isChoice_17 : decode cX10_isChoice 17 = .ok (.ireturn, 1) := by decide +kernel
theorem dX10_isChoice_18 : decode cX10_isChoice 18 = .ok (.iload_n 1, 1) := by decide +kernel
theorem dX10_isChoice_19 : decode cX10_isChoice 19 = .ok (.bipush 100, 2) := by decide +kernel
theorem dX10_isChoice_21 : decode cX10_isChoice 21 = .ok (.irem, 1) := by decide +kernel
theorem dX10_isChoice_22 : decode cX10_isChoice 22 = .ok (.bipush 10, 2) := by decide +kernel
theorem dX10_isChoice_24 : decode cX10_isChoice 24 = .ok (.idiv, 1) := by decide +kernel
theorem dX10_isChoice_25 : decode cX10_isChoice 25 = .ok (.istore_n 2, 1) := by decide +kernel
theorem dX10_isChoice_26 : decode cX10_isChoice 26 = .ok (.iload_n 1, 1) := by decide +kernel
theorem dX10_isChoice_27 : decode cX10_isChoice 27 = .ok (.sipush 300, 3) := by decide +kernel
theorem dX10_isChoice_30 : decode cX10_isChoice 30 = .ok (.if_icmp .ge 26, 3) := by decide +kernel
theorem dX10_isChoice_33 : decode cX10_isChoice 33 = .ok (.iload_n 2, 1) := by decide +kernel
theorem dX10_isChoice_34 : decode cX10_isChoice 34 = .ok (.iload_n 1, 1) := by decide +kernel
theorem dX10_isChoice_35 : decode cX10_isChoice 35 = .ok (.bipush 10, 2) := by decide +kernel
theorem dX10_isChoice_37 : decode cX10_isChoice 37 = .ok (.irem, 1) := by decide +kernel
theorem dX10_isChoice_38 : decode cX10_isChoice 38 = .ok (.if_icmp .gt 18, 3) := by decide +kernel
theorem dX10_isChoice_41 : decode cX10_isChoice 41 = .ok (.iload_n 1, 1) := by decide +kernel
theorem dX10_isChoice_42 : decode cX10_isChoice 42 = .ok (.bipush 10, 2) := by decide +kernel
theorem dX10_isChoice_44 : decode cX10_isChoice 44 = .ok (.irem, 1) := by decide +kernel
theorem dX10_isChoice_45 : decode cX10_isChoice 45 = .ok (.aload_n 0, 1) := by decide +kernel
theorem dX10_isChoice_46 : decode cX10_isChoice 46 = .ok (.getfield 180, 3) := by decide +kernel
theorem dX10_isChoice_49 : decode cX10_isChoice 49 = .ok (.if_icmp .ge 7, 3) := by decide +kernel
theorem dX10_isChoice_52 : decode cX10_isChoice 52 = .ok (.iconst 1, 1) := by decide +kernel
theorem dX10_isChoice_53 : decode cX10_isChoice 53 = .ok (.goto 4, 3) := by decide +kernel
theorem dX10_isChoice_56 : decode cX10_isChoice 56 = .ok (.iconst 0, 1) := by decide +kernel
theorem dX10_isChoice_57 : decode cX10_isChoice 57 = .ok (.ireturn, 1) := by decide +kernel
set_option maxRecDepth 20000 in
theorem ggX10_looks_X10_least : GoodIn wsX10_looks wsX10_least := goodIn_r _ [7, 8, 9, 10, 11, 6, 12, 13, 14, 15, 16, 17, 18, 19, 20, 21, 22, 23, 24, 25, 26, 27, 28, 29, 30, 31, 32, 33, 34, 35, 36] (by decide +kernel) (by decide +kernel)
set_option maxRecDepth 20000 in
theorem gX10_looks_X10_least : GoodIn wsX10_looks (wsV RX10 74 RX10 yX10_least wsX10_least) := goodIn_app (goodIn_of _ (by decide +kernel)) ggX10_looks_X10_least
theorem dX10_looks_0 : decode cX10_looks 0 = .ok (.iload_n 1, 1) := by decide +kernel
theorem dX10_looks_1 : decode cX10_looks 1 = .ok (.bipush 100, 2) := by decide +kernel
theorem dX10_looks_3 : decode cX10_looks 3 = .ok (.if_icmp .ge 7, 3) := by decide +kernel
theorem dX10_looks_6 : decode cX10_looks 6 = .ok (.iload_n 1, 1) := by decide +kernel
theorem dX10_looks_7 : decode cX10_looks 7 = .ok (.goto 10, 3) := by decide +kernel
theorem dX10_looks_10 : decode cX10_looks 10 = .ok (.iload_n 1, 1) := by decide +kernel
theorem dX10_looks_11 : decode cX10_looks 11 = .ok (.bipush 100, 2) := by decide +kernel
theorem dX10_looks_13 : decode cX10_looks 13 = .ok (.irem, 1) := by decide +kernel
theorem dX10_looks_14 : decode cX10_looks 14 = .ok (.bipush 10, 2) := by decide +kernel
theorem dX10_looks_16 : decode cX10_looks 16 = .ok (.idiv, 1) := by decide +kernel
theorem dX10_looks_17 : decode cX10_looks 17 = .ok (.istore_n 2, 1) := by decide +kernel
theorem dX10_looks_18 : decode cX10_looks 18 = .ok (.iload_n 1, 1) := by decide +kernel
theorem dX10_looks_19 : decode cX10_looks 19 = .ok (.bipush 10, 2) := by decide +kernel
theorem dX10_looks_21 : decode cX10_looks 21 = .ok (.irem, 1) := by decide +kernel
theorem dX10_looks_22 : decode cX10_looks 22 = .ok (.istore_n 3, 1) := by decide +kernel
theorem dX10_looks_23 : decode cX10_looks 23 = .ok (.iload_n 1, 1) := by decide +kernel
theorem dX10_looks_24 : decode cX10_looks 24 = .ok (.bipush 100, 2) := by decide +kernel
theorem dX10_looks_26 : decode cX10_looks 26 = .ok (.if_icmp .ge 22, 3) := by decide +kernel
theorem dX10_looks_29 : decode cX10_looks 29 = .ok (.aload_n 0, 1) := by decide +kernel
theorem dX10_looks_30 : decode cX10_looks 30 = .ok (.aload_n 0, 1) := by decide +kernel
theorem dX10_looks_31 : decode cX10_looks 31 = .ok (.getfield 53, 3) := by decide +kernel
theorem dX10_looks_34 : decode cX10_looks 34 = .ok (.iload_n 2, 1) := by decide +kernel
theorem dX10_looks_35 : decode cX10_looks 35 = .ok (.iaload, 1) := by decide +kernel
theorem dX10_looks_36 : decode cX10_looks 36 = .ok (.i2l, 1) := by decide +kernel
theorem dX10_looks_37 : decode cX10_looks 37 = .ok (.lconst 1, 1) := by decide +kernel
theorem dX10_looks_38 : decode cX10_looks 38 = .ok (.invokevirtual 74, 3) := by decide +kernel
theorem dX10_looks_41 : decode cX10_looks 41 = .ok (.aload_n 0, 1) := by decide +kernel
theorem dX10_looks_42 : decode cX10_looks 42 = .ok (.getfield 56, 3) := by decide +kernel
theorem dX10_looks_45 : decode cX10_looks 45 = .ok (.iload_n 2, 1) := by decide +kernel
theorem dX10_looks_46 : decode cX10_looks 46 = .ok (.iaload, 1) := by decide +kernel
theorem dX10_looks_47 : decode cX10_looks 47 = .ok (.ireturn, 1) := by decide +kernel
theorem dX10_looks_48 : decode cX10_looks 48 = .ok (.aload_n 0, 1) := by decide +kernel
theorem dX10_looks_49 : decode cX10_looks 49 = .ok (.getfield 53, 3) := by decide +kernel
theorem dX10_looks_52 : decode cX10_looks 52 = .ok (.iload_n 2, 1) := by decide +kernel
theorem dX10_looks_53 : decode cX10_looks 53 = .ok (.iaload, 1) := by decide +kernel
theorem dX10_looks_54 : decode cX10_looks 54 = .ok (.aload_n 0, 1) := by decide +kernel
theorem dX10_looks_55 : decode cX10_looks 55 = .ok (.getfield 53, 3) := by decide +kernel
theorem dX10_looks_58 : decode cX10_looks 58 = .ok (.iload_n 3, 1) := by decide +kernel
theorem dX10_looks_59 : decode cX10_looks 59 = .ok (.iaload, 1) := by decide +kernel
theorem dX10_looks_60 : decode cX10_looks 60 = .ok (.iadd, 1) := by decide +kernel
theorem dX10_looks_61 : decode cX10_looks 61 = .ok (.istore 4, 2) := by decide +kernel
theorem dX10_looks_63 : decode cX10_looks 63 = .ok (.iload_n 1, 1) := by decide +kernel
theorem dX10_looks_64 : decode cX10_looks 64 = .ok (.sipush 200, 3) := by decide +kernel
theorem dX10_looks_67 : decode cX10_looks 67 = .ok (.if_icmp .ge 14, 3) := by decide +kernel
theorem dX10_looks_70 : decode cX10_looks 70 = .ok (.aload_n 0, 1) := by decide +kernel
theorem dX10_looks_71 : decode cX10_looks 71 = .ok (.iload 4, 2) := by decide +kernel
theorem dX10_looks_73 : decode cX10_looks 73 = .ok (.i2l, 1) := by decide +kernel
theorem dX10_looks_74 : decode cX10_looks 74 = .ok (.lconst 1, 1) := by decide +kernel
theorem dX10_looks_75 : decode cX10_looks 75 = .ok (.invokevirtual 74, 3) := by decide +kernel
theorem dX10_looks_78 : decode cX10_looks 78 = .ok (.goto 25, 3) := by decide +kernel
theorem dX10_looks_81 : decode cX10_looks 81 = .ok (.aload_n 0, 1) := by decide +kernel
theorem dX10_looks_82 : decode cX10_looks 82 = .ok (.aload_n 0, 1) := by decide +kernel
theorem dX10_looks_83 : decode cX10_looks 83 = .ok (.getfield 53, 3) := by decide +kernel
theorem dX10_looks_86 : decode cX10_looks 86 = .ok (.iload_n 2, 1) := by decide +kernel
theorem dX10_looks_87 : decode cX10_looks 87 = .ok (.iaload, 1) := by decide +kernel
theorem dX10_looks_88 : decode cX10_looks 88 = .ok (.i2l, 1) := by decide +kernel
theorem dX10_looks_89 : decode cX10_looks 89 = .ok (.aload_n 0, 1) := by decide +kernel
theorem dX10_looks_90 : decode cX10_looks 90 = .ok (.getfield 53, 3) := by decide +kernel
theorem dX10_looks_93 : decode cX10_looks 93 = .ok (.iload_n 3, 1) := by decide +kernel
theorem dX10_looks_94 : decode cX10_looks 94 = .ok (.iaload, 1) := by decide +kernel
theorem dX10_looks_95 : decode cX10_looks 95 = .ok (.i2l, 1) := by decide +kernel
theorem dX10_looks_96 : decode cX10_looks 96 = .ok (.lmul, 1) := by decide +kernel
theorem dX10_looks_97 : decode cX10_looks 97 = .ok (.iload 4, 2) := by decide +kernel
theorem dX10_looks_99 : decode cX10_looks 99 = .ok (.i2l, 1) := by decide +kernel
theorem dX10_looks_100 : decode cX10_looks 100 = .ok (.invokevirtual 74, 3) := by decide +kernel
theorem dX10_looks_103 : decode cX10_looks 103 = .ok (.aload_n 0, 1) := by decide +kernel
theorem dX10_looks_104 : decode cX10_looks 104 = .ok (.getfield 56, 3) := by decide +kernel
theorem dX10_looks_107 : decode cX10_looks 107 = .ok (.iload_n 2, 1) := by decide +kernel
theorem dX10_looks_108 : decode cX10_looks 108 = .ok (.iaload, 1) := by decide +kernel
theorem dX10_looks_109 : decode cX10_looks 109 = .ok (.aload_n 0, 1) := by decide +kernel
theorem dX10_looks_110 : decode cX10_looks 110 = .ok (.getfield 56, 3) := by decide +kernel
theorem dX10_looks_113 : decode cX10_looks 113 = .ok (.iload_n 3, 1) := by decide +kernel
theorem dX10_looks_114 : decode cX10_looks 114 = .ok (.iaload, 1) := by decide +kernel
theorem dX10_looks_115 : decode cX10_looks 115 = .ok (.iadd, 1) := by decide +kernel
theorem dX10_looks_116 : decode cX10_looks 116 = .ok (.ireturn, 1) := by decide +kernel
set_option maxRecDepth 20000 in
theorem ggX10_nearest_X10_in : GoodIn wsX10_nearest wsX10_in := goodIn_r _ [8] (by decide +kernel) (by decide +kernel)
set_option maxRecDepth 20000 in
theorem gX10_nearest_X10_in : GoodIn wsX10_nearest (va_wsS RX10 89 yX10_in wsX10_in) := goodIn_app (goodIn_of _ (by decide +kernel)) ggX10_nearest_X10_in
set_option maxRecDepth 20000 in
theorem ggX10_nearest_X10_isChoice : GoodIn wsX10_nearest wsX10_isChoice := goodIn_r _ [12, 2, 5, 6, 7, 8, 26, 27, 28, 29, 30, 31, 32, 33, 34, 35, 36, 37, 38, 39, 40, 41, 42, 43, 44, 45, 46, 47, 48, 49] (by decide +kernel) (by decide +kernel)
set_option maxRecDepth 20000 in
theorem gX10_nearest_X10_isChoice : GoodIn wsX10_nearest (wsV RX10 183 RX10 yX10_isChoice wsX10_isChoice) := goodIn_app (goodIn_of _ (by decide +kernel)) ggX10_nearest_X10_isChoice
set_option maxRecDepth 20000 in
theorem ggX10_nearest_X10_looks : GoodIn wsX10_nearest wsX10_looks := goodIn_r _ [16, 17, 18, 19, 20, 21, 7, 22, 3, 4, 23, 24, 25, 26, 27, 28, 29, 30, 31, 32, 33, 34, 35, 36, 37, 38, 39, 40, 41, 42, 43, 44, 45, 46, 47, 48, 49] (by decide +kernel) (by decide +kernel)
set_option maxRecDepth 20000 in
theorem gX10_nearest_X10_looks : GoodIn wsX10_nearest (wsV RX10 186 RX10 yX10_looks wsX10_looks) := goodIn_app (goodIn_of _ (by decide +kernel)) ggX10_nearest_X10_looks
theorem dX10_nearest_0 : decode cX10_nearest 0 = .ok (.aload_n 0, 1) := by decide +kernel
theorem dX10_nearest_1 : decode cX10_nearest 1 = .ok (.iconst 0, 1) := by decide +kernel
theorem dX10_nearest_2 : decode cX10_nearest 2 = .ok (.putfield 59, 3) := by decide +kernel
theorem dX10_nearest_5 : decode cX10_nearest 5 = .ok (.iload_n 1, 1) := by decide +kernel
theorem dX10_nearest_6 : decode cX10_nearest 6 = .ok (.iconst 1, 1) := by decide +kernel
theorem dX10_nearest_7 : decode cX10_nearest 7 = .ok (.sipush 1000, 3) := by decide +kernel
theorem dX10_nearest_10 : decode cX10_nearest 10 = .ok (.invokestatic 89, 3) := by decide +kernel
theorem dX10_nearest_13 : decode cX10_nearest 13 = .ok (.ifCond .eq 14, 3) := by decide +kernel
theorem dX10_nearest_16 : decode cX10_nearest 16 = .ok (.iload_n 2, 1) := by decide +kernel
theorem dX10_nearest_17 : decode cX10_nearest 17 = .ok (.iconst 1, 1) := by decide +kernel
theorem dX10_nearest_18 : decode cX10_nearest 18 = .ok (.sipush 1000, 3) := by decide +kernel
theorem dX10_nearest_21 : decode cX10_nearest 21 = .ok (.invokestatic 89, 3) := by decide +kernel
theorem dX10_nearest_24 : decode cX10_nearest 24 = .ok (.ifCond .ne 5, 3) := by decide +kernel
theorem dX10_nearest_27 : decode cX10_nearest 27 = .ok (.iconst (-1), 1) := by decide +kernel
theorem dX10_nearest_28 : decode cX10_nearest 28 = .ok (.ireturn, 1) := by decide +kernel
theorem dX10_nearest_29 : decode cX10_nearest 29 = .ok (.aload_n 0, 1) := by decide +kernel
theorem dX10_nearest_30 : decode cX10_nearest 30 = .ok (.getfield 180, 3) := by decide +kernel
theorem dX10_nearest_33 : decode cX10_nearest 33 = .ok (.ifCond .ne 6, 3) := by decide +kernel
theorem dX10_nearest_36 : decode cX10_nearest 36 = .ok (.bipush (-2), 2) := by decide +kernel
theorem dX10_nearest_38 : decode cX10_nearest 38 = .ok (.ireturn, 1) := by decide +kernel
theorem dX10_nearest_39 : decode cX10_nearest 39 = .ok (.bipush (-9), 2) := by decide +kernel
theorem dX10_nearest_41 : decode cX10_nearest 41 = .ok (.istore_n 3, 1) := by decide +kernel
theorem dX10_nearest_42 : decode cX10_nearest 42 = .ok (.lconst 0, 1) := by decide +kernel
theorem dX10_nearest_43 : decode cX10_nearest 43 = .ok (.lstore 4, 2) := by decide +kernel
theorem dX10_nearest_45 : decode cX10_nearest 45 = .ok (.lconst 1, 1) := by decide +kernel
theorem dX10_nearest_46 : decode cX10_nearest 46 = .ok (.lstore 6, 2) := by decide +kernel
theorem dX10_nearest_48 : decode cX10_nearest 48 = .ok (.iconst 0, 1) := by decide +kernel
theorem dX10_nearest_49 : decode cX10_nearest 49 = .ok (.istore 8, 2) := by decide +kernel
theorem dX10_nearest_51 : decode cX10_nearest 51 = .ok (.iconst 0, 1) := by decide +kernel
theorem dX10_nearest_52 : decode cX10_nearest 52 = .ok (.istore 9, 2) := by decide +kernel
theorem dX10_nearest_54 : decode cX10_nearest 54 = .ok (.iload 9, 2) := by decide +kernel
theorem dX10_nearest_56 : decode cX10_nearest 56 = .ok (.sipush 300, 3) := by decide +kernel
theorem dX10_nearest_59 : decode cX10_nearest 59 = .ok (.if_icmp .ge 124, 3) := by decide +kernel
theorem dX10_nearest_62 : decode cX10_nearest 62 = .ok (.aload_n 0, 1) := by decide +kernel
theorem dX10_nearest_63 : decode cX10_nearest 63 = .ok (.iload 9, 2) := by decide +kernel
theorem dX10_nearest_65 : decode cX10_nearest 65 = .ok (.invokevirtual 183, 3) := by decide +kernel
theorem dX10_nearest_68 : decode cX10_nearest 68 = .ok (.ifCond .eq 109, 3) := by decide +kernel
theorem dX10_nearest_71 : decode cX10_nearest 71 = .ok (.aload_n 0, 1) := by decide +kernel
theorem dX10_nearest_72 : decode cX10_nearest 72 = .ok (.iload 9, 2) := by decide +kernel
theorem dX10_nearest_74 : decode cX10_nearest 74 = .ok (.invokevirtual 186, 3) := by decide +kernel
theorem dX10_nearest_77 : decode cX10_nearest 77 = .ok (.istore 10, 2) := by decide +kernel
theorem dX10_nearest_79 : decode cX10_nearest 79 = .ok (.aload_n 0, 1) := by decide +kernel
theorem dX10_nearest_80 : decode cX10_nearest 80 = .ok (.getfield 67, 3) := by decide +kernel
theorem dX10_nearest_83 : decode cX10_nearest 83 = .ok (.iload_n 2, 1) := by decide +kernel
theorem dX10_nearest_84 : decode cX10_nearest 84 = .ok (.i2l, 1) := by decide +kernel
theorem dX10_nearest_85 : decode cX10_nearest 85 = .ok (.lmul, 1) := by decide +kernel
theorem dX10_nearest_86 : decode cX10_nearest 86 = .ok (.iload_n 1, 1) := by decide +kernel
theorem dX10_nearest_87 : decode cX10_nearest 87 = .ok (.i2l, 1) := by decide +kernel
theorem dX10_nearest_88 : decode cX10_nearest 88 = .ok (.aload_n 0, 1) := by decide +kernel
theorem dX10_nearest_89 : decode cX10_nearest 89 = .ok (.getfield 71, 3) := by decide +kernel
theorem dX10_nearest_92 : decode cX10_nearest 92 = .ok (.lmul, 1) := by decide +kernel
theorem dX10_nearest_93 : decode cX10_nearest 93 = .ok (.lsub, 1) := by decide +kernel
theorem dX10_nearest_94 : decode cX10_nearest 94 = .ok (.lstore 11, 2) := by decide +kernel
theorem dX10_nearest_96 : decode cX10_nearest 96 = .ok (.lload 11, 2) := by decide +kernel
theorem dX10_nearest_98 : decode cX10_nearest 98 = .ok (.lconst 0, 1) := by decide +kernel
theorem dX10_nearest_99 : decode cX10_nearest 99 = .ok (.lcmp, 1) := by decide +kernel
theorem dX10_nearest_100 : decode cX10_nearest 100 = .ok (.ifCond .ge 9, 3) := by decide +kernel
theorem dX10_nearest_103 : decode cX10_nearest 103 = .ok (.lload 11, 2) := by decide +kernel
theorem dX10_nearest_105 : decode cX10_nearest 105 = .ok (.lneg, 1) := by decide +kernel
theorem dX10_nearest_106 : decode cX10_nearest 106 = .ok (.goto 5, 3) := by decide +kernel
theorem dX10_nearest_109 : decode cX10_nearest 109 = .ok (.lload 11, 2) := by decide +kernel
theorem dX10_nearest_111 : decode cX10_nearest 111 = .ok (.lstore 11, 2) := by decide +kernel
theorem dX10_nearest_113 : decode cX10_nearest 113 = .ok (.aload_n 0, 1) := by decide +kernel
theorem dX10_nearest_114 : decode cX10_nearest 114 = .ok (.getfield 71, 3) := by decide +kernel
theorem dX10_nearest_117 : decode cX10_nearest 117 = .ok (.iload_n 2, 1) := by decide +kernel
theorem dX10_nearest_118 : decode cX10_nearest 118 = .ok (.i2l, 1) := by decide +kernel
theorem dX10_nearest_119 : decode cX10_nearest 119 = .ok (.lmul, 1) := by decide +kernel
theorem dX10_nearest_120 : decode cX10_nearest 120 = .ok (.lstore 13, 2) := by decide +kernel
theorem dX10_nearest_122 : decode cX10_nearest 122 = .ok (.lload 11, 2) := by decide +kernel
theorem dX10_nearest_124 : decode cX10_nearest 124 = .ok (.lload 6, 2) := by decide +kernel
theorem dX10_nearest_126 : decode cX10_nearest 126 = .ok (.lmul, 1) := by decide +kernel
theorem dX10_nearest_127 : decode cX10_nearest 127 = .ok (.lload 4, 2) := by decide +kernel
theorem dX10_nearest_129 : decode cX10_nearest 129 = .ok (.lload 13, 2) := by decide +kernel
theorem dX10_nearest_131 : decode cX10_nearest 131 = .ok (.lmul, 1) := by decide +kernel
theorem dX10_nearest_132 : decode cX10_nearest 132 = .ok (.lsub, 1) := by decide +kernel
theorem dX10_nearest_133 : decode cX10_nearest 133 = .ok (.lstore 15, 2) := by decide +kernel
theorem dX10_nearest_135 : decode cX10_nearest 135 = .ok (.iload_n 3, 1) := by decide +kernel
theorem dX10_nearest_136 : decode cX10_nearest 136 = .ok (.bipush (-9), 2) := by decide +kernel
theorem dX10_nearest_138 : decode cX10_nearest 138 = .ok (.if_icmp .eq 24, 3) := by decide +kernel
theorem dX10_nearest_141 : decode cX10_nearest 141 = .ok (.lload 15, 2) := by decide +kernel
theorem dX10_nearest_143 : decode cX10_nearest 143 = .ok (.lconst 0, 1) := by decide +kernel
theorem dX10_nearest_144 : decode cX10_nearest 144 = .ok (.lcmp, 1) := by decide +kernel
theorem dX10_nearest_145 : decode cX10_nearest 145 = .ok (.ifCond .lt 17, 3) := by decide +kernel
theorem dX10_nearest_148 : decode cX10_nearest 148 = .ok (.lload 15, 2) := by decide +kernel
theorem dX10_nearest_150 : decode cX10_nearest 150 = .ok (.lconst 0, 1) := by decide +kernel
theorem dX10_nearest_151 : decode cX10_nearest 151 = .ok (.lcmp, 1) := by decide +kernel
theorem dX10_nearest_152 : decode cX10_nearest 152 = .ok (.ifCond .ne 25, 3) := by decide +kernel
theorem dX10_nearest_155 : decode cX10_nearest 155 = .ok (.iload 10, 2) := by decide +kernel
theorem dX10_nearest_157 : decode cX10_nearest 157 = .ok (.iload 8, 2) := by decide +kernel
theorem dX10_nearest_159 : decode cX10_nearest 159 = .ok (.if_icmp .ge 18, 3) := by decide +kernel
theorem dX10_nearest_162 : decode cX10_nearest 162 = .ok (.iload 9, 2) := by decide +kernel
theorem dX10_nearest_164 : decode cX10_nearest 164 = .ok (.istore_n 3, 1) := by decide +kernel
theorem dX10_nearest_165 : decode cX10_nearest 165 = .ok (.lload 11, 2) := by decide +kernel
theorem dX10_nearest_167 : decode cX10_nearest 167 = .ok (.lstore 4, 2) := by decide +kernel
theorem dX10_nearest_169 : decode cX10_nearest 169 = .ok (.lload 13, 2) := by decide +kernel
theorem dX10_nearest_171 : decode cX10_nearest 171 = .ok (.lstore 6, 2) := by decide +kernel
theorem dX10_nearest_173 : decode cX10_nearest 173 = .ok (.iload 10, 2) := by decide +kernel
theorem dX10_nearest_175 : decode cX10_nearest 175 = .ok (.istore 8, 2) := by decide +kernel
theorem dX10_nearest_177 : decode cX10_nearest 177 = .ok (.iinc 9 1, 3) := by decide +kernel
theorem dX10_nearest_180 : decode cX10_nearest 180 = .ok (.goto (-126), 3) := by decide +kernel
theorem dX10_nearest_183 : decode cX10_nearest 183 = .ok (.iload_n 3, 1) := by decide +kernel
theorem dX10_nearest_184 : decode cX10_nearest 184 = .ok (.ireturn, 1) := by decide +kernel
set_option maxRecDepth 20000 in
theorem ggX10_choice_X10_isChoice : GoodIn wsX10_choice wsX10_isChoice := goodIn_r _ [8, 9, 10, 11, 7, 12, 26, 27, 28, 29, 30, 31, 32, 33, 34, 35, 36, 37, 38, 39, 40, 41, 42, 43, 44, 45, 46, 47, 48, 49] (by decide +kernel) (by decide +kernel)
set_option maxRecDepth 20000 in
theorem gX10_choice_X10_isChoice : GoodIn wsX10_choice (wsV RX10 183 RX10 yX10_isChoice wsX10_isChoice) := goodIn_app (goodIn_of _ (by decide +kernel)) ggX10_choice_X10_isChoice
set_option maxRecDepth 20000 in
theorem ggX10_choice_X10_in : GoodIn wsX10_choice wsX10_in := goodIn_r _ [12] (by decide +kernel) (by decide +kernel)
set_option maxRecDepth 20000 in
theorem gX10_choice_X10_in : GoodIn wsX10_choice (va_wsS RX10 89 yX10_in wsX10_in) := goodIn_app (goodIn_of _ (by decide +kernel)) ggX10_choice_X10_in
set_option maxRecDepth 20000 in
theorem ggX10_choice_X10_looks : GoodIn wsX10_choice wsX10_looks := goodIn_r _ [16, 17, 18, 19, 20, 21, 7, 22, 2, 3, 23, 24, 25, 26, 27, 28, 29, 30, 31, 32, 33, 34, 35, 36, 37, 38, 39, 40, 41, 42, 43, 44, 45, 46, 47, 48, 49] (by decide +kernel) (by decide +kernel)
set_option maxRecDepth 20000 in
theorem gX10_choice_X10_looks : GoodIn wsX10_choice (wsV RX10 186 RX10 yX10_looks wsX10_looks) := goodIn_app (goodIn_of _ (by decide +kernel)) ggX10_choice_X10_looks
theorem dX10_choice_0 : decode cX10_choice 0 = .ok (.aload_n 0, 1) := by decide +kernel
theorem dX10_choice_1 : decode cX10_choice 1 = .ok (.iconst 0, 1) := by decide +kernel
theorem dX10_choice_2 : decode cX10_choice 2 = .ok (.putfield 59, 3) := by decide +kernel
theorem dX10_choice_5 : decode cX10_choice 5 = .ok (.iload_n 1, 1) := by decide +kernel
theorem dX10_choice_6 : decode cX10_choice 6 = .ok (.ifCond .lt 20, 3) := by decide +kernel
theorem dX10_choice_9 : decode cX10_choice 9 = .ok (.aload_n 0, 1) := by decide +kernel
theorem dX10_choice_10 : decode cX10_choice 10 = .ok (.iload_n 1, 1) := by decide +kernel
theorem dX10_choice_11 : decode cX10_choice 11 = .ok (.invokevirtual 183, 3) := by decide +kernel
theorem dX10_choice_14 : decode cX10_choice 14 = .ok (.ifCond .eq 12, 3) := by decide +kernel
theorem dX10_choice_17 : decode cX10_choice 17 = .ok (.iload_n 2, 1) := by decide +kernel
theorem dX10_choice_18 : decode cX10_choice 18 = .ok (.iconst 0, 1) := by decide +kernel
theorem dX10_choice_19 : decode cX10_choice 19 = .ok (.iconst 2, 1) := by decide +kernel
theorem dX10_choice_20 : decode cX10_choice 20 = .ok (.invokestatic 89, 3) := by decide +kernel
theorem dX10_choice_23 : decode cX10_choice 23 = .ok (.ifCond .ne 5, 3) := by decide +kernel
theorem dX10_choice_26 : decode cX10_choice 26 = .ok (.iconst (-1), 1) := by decide +kernel
theorem dX10_choice_27 : decode cX10_choice 27 = .ok (.ireturn, 1) := by decide +kernel
theorem dX10_choice_28 : decode cX10_choice 28 = .ok (.aload_n 0, 1) := by decide +kernel
theorem dX10_choice_29 : decode cX10_choice 29 = .ok (.iload_n 1, 1) := by decide +kernel
theorem dX10_choice_30 : decode cX10_choice 30 = .ok (.invokevirtual 186, 3) := by decide +kernel
theorem dX10_choice_33 : decode cX10_choice 33 = .ok (.istore_n 3, 1) := by decide +kernel
theorem dX10_choice_34 : decode cX10_choice 34 = .ok (.iload_n 2, 1) := by decide +kernel
theorem dX10_choice_35 : decode cX10_choice 35 = .ok (.iconst 2, 1) := by decide +kernel
theorem dX10_choice_36 : decode cX10_choice 36 = .ok (.if_icmp .ne 7, 3) := by decide +kernel
theorem dX10_choice_39 : decode cX10_choice 39 = .ok (.iload_n 3, 1) := by decide +kernel
theorem dX10_choice_40 : decode cX10_choice 40 = .ok (.goto 19, 3) := by decide +kernel
theorem dX10_choice_43 : decode cX10_choice 43 = .ok (.iload_n 2, 1) := by decide +kernel
theorem dX10_choice_44 : decode cX10_choice 44 = .ok (.ifCond .ne 10, 3) := by decide +kernel
theorem dX10_choice_47 : decode cX10_choice 47 = .ok (.aload_n 0, 1) := by decide +kernel
theorem dX10_choice_48 : decode cX10_choice 48 = .ok (.getfield 67, 3) := by decide +kernel
theorem dX10_choice_51 : decode cX10_choice 51 = .ok (.goto 7, 3) := by decide +kernel
theorem dX10_choice_54 : decode cX10_choice 54 = .ok (.aload_n 0, 1) := by decide +kernel
theorem dX10_choice_55 : decode cX10_choice 55 = .ok (.getfield 71, 3) := by decide +kernel
theorem dX10_choice_58 : decode cX10_choice 58 = .ok (.l2i, 1) := by decide +kernel
theorem dX10_choice_59 : decode cX10_choice 59 = .ok (.ireturn, 1) := by decide +kernel
set_option maxRecDepth 20000 in
theorem ggX10_count_X10_knots : GoodIn wsX10_count wsX10_knots := goodIn_r _ [8, 9, 10, 11, 7, 12, 2, 13, 14, 15, 16, 17, 18, 19, 20, 21, 22, 23, 24, 25, 26, 27, 28, 29, 30, 31, 32, 33, 34, 35, 36, 37, 38] (by decide +kernel) (by decide +kernel)
set_option maxRecDepth 20000 in
theorem gX10_count_X10_knots : GoodIn wsX10_count (wsV RX10 166 RX10 yX10_knots wsX10_knots) := goodIn_app (goodIn_of _ (by decide +kernel)) ggX10_count_X10_knots
theorem dX10_count_0 : decode cX10_count 0 = .ok (.aload_n 0, 1) := by decide +kernel
theorem dX10_count_1 : decode cX10_count 1 = .ok (.iconst 0, 1) := by decide +kernel
theorem dX10_count_2 : decode cX10_count 2 = .ok (.putfield 59, 3) := by decide +kernel
theorem dX10_count_5 : decode cX10_count 5 = .ok (.iload_n 1, 1) := by decide +kernel
theorem dX10_count_6 : decode cX10_count 6 = .ok (.ifCond .ne 10, 3) := by decide +kernel
theorem dX10_count_9 : decode cX10_count 9 = .ok (.aload_n 0, 1) := by decide +kernel
theorem dX10_count_10 : decode cX10_count 10 = .ok (.getfield 119, 3) := by decide +kernel
theorem dX10_count_13 : decode cX10_count 13 = .ok (.goto 28, 3) := by decide +kernel
theorem dX10_count_16 : decode cX10_count 16 = .ok (.iload_n 1, 1) := by decide +kernel
theorem dX10_count_17 : decode cX10_count 17 = .ok (.iconst 1, 1) := by decide +kernel
theorem dX10_count_18 : decode cX10_count 18 = .ok (.if_icmp .ne 10, 3) := by decide +kernel
theorem dX10_count_21 : decode cX10_count 21 = .ok (.aload_n 0, 1) := by decide +kernel
theorem dX10_count_22 : decode cX10_count 22 = .ok (.getfield 180, 3) := by decide +kernel
theorem dX10_count_25 : decode cX10_count 25 = .ok (.goto 16, 3) := by decide +kernel
theorem dX10_count_28 : decode cX10_count 28 = .ok (.iload_n 1, 1) := by decide +kernel
theorem dX10_count_29 : decode cX10_count 29 = .ok (.iconst 2, 1) := by decide +kernel
theorem dX10_count_30 : decode cX10_count 30 = .ok (.if_icmp .ne 10, 3) := by decide +kernel
theorem dX10_count_33 : decode cX10_count 33 = .ok (.aload_n 0, 1) := by decide +kernel
theorem dX10_count_34 : decode cX10_count 34 = .ok (.invokevirtual 166, 3) := by decide +kernel
theorem dX10_count_37 : decode cX10_count 37 = .ok (.goto 4, 3) := by decide +kernel
theorem dX10_count_40 : decode cX10_count 40 = .ok (.iconst (-1), 1) := by decide +kernel
theorem dX10_count_41 : decode cX10_count 41 = .ok (.ireturn, 1) := by decide +kernel
theorem dX10_trace_0 : decode cX10_trace 0 = .ok (.aload_n 0, 1) := by decide +kernel
theorem dX10_trace_1 : decode cX10_trace 1 = .ok (.iconst 0, 1) := by decide +kernel
theorem dX10_trace_2 : decode cX10_trace 2 = .ok (.putfield 59, 3) := by decide +kernel
theorem dX10_trace_5 : decode cX10_trace 5 = .ok (.aload_n 0, 1) := by decide +kernel
theorem dX10_trace_6 : decode cX10_trace 6 = .ok (.getfield 125, 3) := by decide +kernel
theorem dX10_trace_9 : decode cX10_trace 9 = .ok (.lreturn, 1) := by decide +kernel
theorem dJ6_numberOfTrailingZeros_0f7a4_0 : decode cJ6_numberOfTrailingZeros_0f7a4 0 = .ok (.iload_n 0, 1) := by decide +kernel
theorem dJ6_numberOfTrailingZeros_0f7a4_1 : decode cJ6_numberOfTrailingZeros_0f7a4 1 = .ok (.iconst (-1), 1) := by decide +kernel
theorem dJ6_numberOfTrailingZeros_0f7a4_2 : decode cJ6_numberOfTrailingZeros_0f7a4 2 = .ok (.ixor, 1) := by decide +kernel
theorem dJ6_numberOfTrailingZeros_0f7a4_3 : decode cJ6_numberOfTrailingZeros_0f7a4 3 = .ok (.iload_n 0, 1) := by decide +kernel
theorem dJ6_numberOfTrailingZeros_0f7a4_4 : decode cJ6_numberOfTrailingZeros_0f7a4 4 = .ok (.iconst 1, 1) := by decide +kernel
theorem dJ6_numberOfTrailingZeros_0f7a4_5 : decode cJ6_numberOfTrailingZeros_0f7a4 5 = .ok (.isub, 1) := by decide +kernel
theorem dJ6_numberOfTrailingZeros_0f7a4_6 : decode cJ6_numberOfTrailingZeros_0f7a4 6 = .ok (.iand, 1) := by decide +kernel
theorem dJ6_numberOfTrailingZeros_0f7a4_7 : decode cJ6_numberOfTrailingZeros_0f7a4 7 = .ok (.istore_n 0, 1) := by decide +kernel
theorem dJ6_numberOfTrailingZeros_0f7a4_8 : decode cJ6_numberOfTrailingZeros_0f7a4 8 = .ok (.iload_n 0, 1) := by decide +kernel
theorem dJ6_numberOfTrailingZeros_0f7a4_9 : decode cJ6_numberOfTrailingZeros_0f7a4 9 = .ok (.ifCond .gt 8, 3) := by decide +kernel
theorem dJ6_numberOfTrailingZeros_0f7a4_12 : decode cJ6_numberOfTrailingZeros_0f7a4 12 = .ok (.iload_n 0, 1) := by decide +kernel
theorem dJ6_numberOfTrailingZeros_0f7a4_13 : decode cJ6_numberOfTrailingZeros_0f7a4 13 = .ok (.bipush 32, 2) := by decide +kernel
theorem dJ6_numberOfTrailingZeros_0f7a4_15 : decode cJ6_numberOfTrailingZeros_0f7a4 15 = .ok (.iand, 1) := by decide +kernel
theorem dJ6_numberOfTrailingZeros_0f7a4_16 : decode cJ6_numberOfTrailingZeros_0f7a4 16 = .ok (.ireturn, 1) := by decide +kernel
theorem dJ6_numberOfTrailingZeros_0f7a4_17 : decode cJ6_numberOfTrailingZeros_0f7a4 17 = .ok (.iconst 1, 1) := by decide +kernel
theorem dJ6_numberOfTrailingZeros_0f7a4_18 : decode cJ6_numberOfTrailingZeros_0f7a4 18 = .ok (.istore_n 1, 1) := by decide +kernel
theorem dJ6_numberOfTrailingZeros_0f7a4_19 : decode cJ6_numberOfTrailingZeros_0f7a4 19 = .ok (.iload_n 0, 1) := by decide +kernel
theorem dJ6_numberOfTrailingZeros_0f7a4_20 : decode cJ6_numberOfTrailingZeros_0f7a4 20 = .ok (.ldc_w 264, 3) := by decide +kernel
theorem dJ6_numberOfTrailingZeros_0f7a4_23 : decode cJ6_numberOfTrailingZeros_0f7a4 23 = .ok (.if_icmp .le 11, 3) := by decide +kernel
theorem dJ6_numberOfTrailingZeros_0f7a4_26 : decode cJ6_numberOfTrailingZeros_0f7a4 26 = .ok (.iinc 1 16, 3) := by decide +kernel
theorem dJ6_numberOfTrailingZeros_0f7a4_29 : decode cJ6_numberOfTrailingZeros_0f7a4 29 = .ok (.iload_n 0, 1) := by decide +kernel
theorem dJ6_numberOfTrailingZeros_0f7a4_30 : decode cJ6_numberOfTrailingZeros_0f7a4 30 = .ok (.bipush 16, 2) := by decide +kernel
theorem dJ6_numberOfTrailingZeros_0f7a4_32 : decode cJ6_numberOfTrailingZeros_0f7a4 32 = .ok (.iushr, 1) := by decide +kernel
theorem dJ6_numberOfTrailingZeros_0f7a4_33 : decode cJ6_numberOfTrailingZeros_0f7a4 33 = .ok (.istore_n 0, 1) := by decide +kernel
theorem dJ6_numberOfTrailingZeros_0f7a4_34 : decode cJ6_numberOfTrailingZeros_0f7a4 34 = .ok (.iload_n 0, 1) := by decide +kernel
theorem dJ6_numberOfTrailingZeros_0f7a4_35 : decode cJ6_numberOfTrailingZeros_0f7a4 35 = .ok (.sipush 256, 3) := by decide +kernel
theorem dJ6_numberOfTrailingZeros_0f7a4_38 : decode cJ6_numberOfTrailingZeros_0f7a4 38 = .ok (.if_icmp .le 11, 3) := by decide +kernel
theorem dJ6_numberOfTrailingZeros_0f7a4_41 : decode cJ6_numberOfTrailingZeros_0f7a4 41 = .ok (.iinc 1 8, 3) := by decide +kernel
theorem dJ6_numberOfTrailingZeros_0f7a4_44 : decode cJ6_numberOfTrailingZeros_0f7a4 44 = .ok (.iload_n 0, 1) := by decide +kernel
theorem dJ6_numberOfTrailingZeros_0f7a4_45 : decode cJ6_numberOfTrailingZeros_0f7a4 45 = .ok (.bipush 8, 2) := by decide +kernel
theorem dJ6_numberOfTrailingZeros_0f7a4_47 : decode cJ6_numberOfTrailingZeros_0f7a4 47 = .ok (.iushr, 1) := by decide +kernel
theorem dJ6_numberOfTrailingZeros_0f7a4_48 : decode cJ6_numberOfTrailingZeros_0f7a4 48 = .ok (.istore_n 0, 1) := by decide +kernel
theorem dJ6_numberOfTrailingZeros_0f7a4_49 : decode cJ6_numberOfTrailingZeros_0f7a4 49 = .ok (.iload_n 0, 1) := by decide +kernel
theorem dJ6_numberOfTrailingZeros_0f7a4_50 : decode cJ6_numberOfTrailingZeros_0f7a4 50 = .ok (.bipush 16, 2) := by decide +kernel
theorem dJ6_numberOfTrailingZeros_0f7a4_52 : decode cJ6_numberOfTrailingZeros_0f7a4 52 = .ok (.if_icmp .le 10, 3) := by decide +kernel
theorem dJ6_numberOfTrailingZeros_0f7a4_55 : decode cJ6_numberOfTrailingZeros_0f7a4 55 = .ok (.iinc 1 4, 3) := by decide +kernel
theorem dJ6_numberOfTrailingZeros_0f7a4_58 : decode cJ6_numberOfTrailingZeros_0f7a4 58 = .ok (.iload_n 0, 1) := by decide +kernel
theorem dJ6_numberOfTrailingZeros_0f7a4_59 : decode cJ6_numberOfTrailingZeros_0f7a4 59 = .ok (.iconst 4, 1) := by decide +kernel
theorem dJ6_numberOfTrailingZeros_0f7a4_60 : decode cJ6_numberOfTrailingZeros_0f7a4 60 = .ok (.iushr, 1) := by decide +kernel
theorem dJ6_numberOfTrailingZeros_0f7a4_61 : decode cJ6_numberOfTrailingZeros_0f7a4 61 = .ok (.istore_n 0, 1) := by decide +kernel
theorem dJ6_numberOfTrailingZeros_0f7a4_62 : decode cJ6_numberOfTrailingZeros_0f7a4 62 = .ok (.iload_n 0, 1) := by decide +kernel
theorem dJ6_numberOfTrailingZeros_0f7a4_63 : decode cJ6_numberOfTrailingZeros_0f7a4 63 = .ok (.iconst 4, 1) := by decide +kernel
theorem dJ6_numberOfTrailingZeros_0f7a4_64 : decode cJ6_numberOfTrailingZeros_0f7a4 64 = .ok (.if_icmp .le 10, 3) := by decide +kernel
theorem dJ6_numberOfTrailingZeros_0f7a4_67 : decode cJ6_numberOfTrailingZeros_0f7a4 67 = .ok (.iinc 1 2, 3) := by decide +kernel
theorem dJ6_numberOfTrailingZeros_0f7a4_70 : decode cJ6_numberOfTrailingZeros_0f7a4 70 = .ok (.iload_n 0, 1) := by decide +kernel
theorem dJ6_numberOfTrailingZeros_0f7a4_71 : decode cJ6_numberOfTrailingZeros_0f7a4 71 = .ok (.iconst 2, 1) := by decide +kernel
theorem dJ6_numberOfTrailingZeros_0f7a4_72 : decode cJ6_numberOfTrailingZeros_0f7a4 72 = .ok (.iushr, 1) := by decide +kernel
theorem dJ6_numberOfTrailingZeros_0f7a4_73 : decode cJ6_numberOfTrailingZeros_0f7a4 73 = .ok (.istore_n 0, 1) := by decide +kernel
theorem dJ6_numberOfTrailingZeros_0f7a4_74 : decode cJ6_numberOfTrailingZeros_0f7a4 74 = .ok (.iload_n 1, 1) := by decide +kernel
theorem dJ6_numberOfTrailingZeros_0f7a4_75 : decode cJ6_numberOfTrailingZeros_0f7a4 75 = .ok (.iload_n 0, 1) := by decide +kernel
theorem dJ6_numberOfTrailingZeros_0f7a4_76 : decode cJ6_numberOfTrailingZeros_0f7a4 76 = .ok (.iconst 1, 1) := by decide +kernel
theorem dJ6_numberOfTrailingZeros_0f7a4_77 : decode cJ6_numberOfTrailingZeros_0f7a4 77 = .ok (.iushr, 1) := by decide +kernel
theorem dJ6_numberOfTrailingZeros_0f7a4_78 : decode cJ6_numberOfTrailingZeros_0f7a4 78 = .ok (.iadd, 1) := by decide +kernel
theorem dJ6_numberOfTrailingZeros_0f7a4_79 : decode cJ6_numberOfTrailingZeros_0f7a4 79 = .ok (.ireturn, 1) := by decide +kernel
theorem dJ6_bitCount_0f7a4_0 : decode cJ6_bitCount_0f7a4 0 = .ok (.iload_n 0, 1) := by decide +kernel
theorem dJ6_bitCount_0f7a4_1 : decode cJ6_bitCount_0f7a4 1 = .ok (.iload_n 0, 1) := by decide +kernel
theorem dJ6_bitCount_0f7a4_2 : decode cJ6_bitCount_0f7a4 2 = .ok (.iconst 1, 1) := by decide +kernel
theorem dJ6_bitCount_0f7a4_3 : decode cJ6_bitCount_0f7a4 3 = .ok (.iushr, 1) := by decide +kernel
theorem dJ6_bitCount_0f7a4_4 : decode cJ6_bitCount_0f7a4 4 = .ok (.ldc_w 265, 3) := by decide +kernel
theorem dJ6_bitCount_0f7a4_7 : decode cJ6_bitCount_0f7a4 7 = .ok (.iand, 1) := by decide +kernel
theorem dJ6_bitCount_0f7a4_8 : decode cJ6_bitCount_0f7a4 8 = .ok (.isub, 1) := by decide +kernel
theorem dJ6_bitCount_0f7a4_9 : decode cJ6_bitCount_0f7a4 9 = .ok (.istore_n 0, 1) := by decide +kernel
theorem dJ6_bitCount_0f7a4_10 : decode cJ6_bitCount_0f7a4 10 = .ok (.iload_n 0, 1) := by decide +kernel
theorem dJ6_bitCount_0f7a4_11 : decode cJ6_bitCount_0f7a4 11 = .ok (.ldc_w 266, 3) := by decide +kernel
theorem dJ6_bitCount_0f7a4_14 : decode cJ6_bitCount_0f7a4 14 = .ok (.iand, 1) := by decide +kernel
theorem dJ6_bitCount_0f7a4_15 : decode cJ6_bitCount_0f7a4 15 = .ok (.iload_n 0, 1) := by decide +kernel
theorem dJ6_bitCount_0f7a4_16 : decode cJ6_bitCount_0f7a4 16 = .ok (.iconst 2, 1) := by decide +kernel
theorem dJ6_bitCount_0f7a4_17 : decode cJ6_bitCount_0f7a4 17 = .ok (.iushr, 1) := by decide +kernel
theorem dJ6_bitCount_0f7a4_18 : decode cJ6_bitCount_0f7a4 18 = .ok (.ldc_w 266, 3) := by decide +kernel
theorem dJ6_bitCount_0f7a4_21 : decode cJ6_bitCount_0f7a4 21 = .ok (.iand, 1) := by decide +kernel
theorem dJ6_bitCount_0f7a4_22 : decode cJ6_bitCount_0f7a4 22 = .ok (.iadd, 1) := by decide +kernel
theorem dJ6_bitCount_0f7a4_23 : decode cJ6_bitCount_0f7a4 23 = .ok (.istore_n 0, 1) := by decide +kernel
theorem dJ6_bitCount_0f7a4_24 : decode cJ6_bitCount_0f7a4 24 = .ok (.iload_n 0, 1) := by decide +kernel
theorem dJ6_bitCount_0f7a4_25 : decode cJ6_bitCount_0f7a4 25 = .ok (.iload_n 0, 1) := by decide +kernel
theorem dJ6_bitCount_0f7a4_26 : decode cJ6_bitCount_0f7a4 26 = .ok (.iconst 4, 1) := by decide +kernel
theorem dJ6_bitCount_0f7a4_27 : decode cJ6_bitCount_0f7a4 27 = .ok (.iushr, 1) := by decide +kernel
theorem dJ6_bitCount_0f7a4_28 : decode cJ6_bitCount_0f7a4 28 = .ok (.iadd, 1) := by decide +kernel
theorem dJ6_bitCount_0f7a4_29 : decode cJ6_bitCount_0f7a4 29 = .ok (.ldc_w 267, 3) := by decide +kernel
theorem dJ6_bitCount_0f7a4_32 : decode cJ6_bitCount_0f7a4 32 = .ok (.iand, 1) := by decide +kernel
theorem dJ6_bitCount_0f7a4_33 : decode cJ6_bitCount_0f7a4 33 = .ok (.istore_n 0, 1) := by decide +kernel
theorem dJ6_bitCount_0f7a4_34 : decode cJ6_bitCount_0f7a4 34 = .ok (.iload_n 0, 1) := by decide +kernel
theorem dJ6_bitCount_0f7a4_35 : decode cJ6_bitCount_0f7a4 35 = .ok (.iload_n 0, 1) := by decide +kernel
theorem dJ6_bitCount_0f7a4_36 : decode cJ6_bitCount_0f7a4 36 = .ok (.bipush 8, 2) := by decide +kernel
theorem dJ6_bitCount_0f7a4_38 : decode cJ6_bitCount_0f7a4 38 = .ok (.iushr, 1) := by decide +kernel
theorem dJ6_bitCount_0f7a4_39 : decode cJ6_bitCount_0f7a4 39 = .ok (.iadd, 1) := by decide +kernel
theorem dJ6_bitCount_0f7a4_40 : decode cJ6_bitCount_0f7a4 40 = .ok (.istore_n 0, 1) := by decide +kernel
theorem dJ6_bitCount_0f7a4_41 : decode cJ6_bitCount_0f7a4 41 = .ok (.iload_n 0, 1) := by decide +kernel
theorem dJ6_bitCount_0f7a4_42 : decode cJ6_bitCount_0f7a4 42 = .ok (.iload_n 0, 1) := by decide +kernel
theorem dJ6_bitCount_0f7a4_43 : decode cJ6_bitCount_0f7a4 43 = .ok (.bipush 16, 2) := by decide +kernel
theorem dJ6_bitCount_0f7a4_45 : decode cJ6_bitCount_0f7a4 45 = .ok (.iushr, 1) := by decide +kernel
theorem dJ6_bitCount_0f7a4_46 : decode cJ6_bitCount_0f7a4 46 = .ok (.iadd, 1) := by decide +kernel
theorem dJ6_bitCount_0f7a4_47 : decode cJ6_bitCount_0f7a4 47 = .ok (.istore_n 0, 1) := by decide +kernel
theorem dJ6_bitCount_0f7a4_48 : decode cJ6_bitCount_0f7a4 48 = .ok (.iload_n 0, 1) := by decide +kernel
theorem dJ6_bitCount_0f7a4_49 : decode cJ6_bitCount_0f7a4 49 = .ok (.bipush 63, 2) := by decide +kernel
theorem dJ6_bitCount_0f7a4_51 : decode cJ6_bitCount_0f7a4 51 = .ok (.iand, 1) := by decide +kernel
end
section
theorem dJ6_bitCount_0f7a4_52 : decode cJ6_bitCount_0f7a4 52 = .ok (.ireturn, 1) := by decide +kernel
theorem dJ13_compare_74951_0 : decode cJ13_compare_74951 0 = .ok (.lload_n 0, 1) := by decide +kernel
theorem dJ13_compare_74951_1 : decode cJ13_compare_74951 1 = .ok (.lload_n 2, 1) := by decide +kernel
theorem dJ13_compare_74951_2 : decode cJ13_compare_74951 2 = .ok (.lcmp, 1) := by decide +kernel
theorem dJ13_compare_74951_3 : decode cJ13_compare_74951 3 = .ok (.ifCond .ge 7, 3) := by decide +kernel
theorem dJ13_compare_74951_6 : decode cJ13_compare_74951 6 = .ok (.iconst (-1), 1) := by decide +kernel
theorem dJ13_compare_74951_7 : decode cJ13_compare_74951 7 = .ok (.goto 14, 3) := by decide +kernel
theorem dJ13_compare_74951_10 : decode cJ13_compare_74951 10 = .ok (.lload_n 0, 1) := by decide +kernel
theorem dJ13_compare_74951_11 : decode cJ13_compare_74951 11 = .ok (.lload_n 2, 1) := by decide +kernel
theorem dJ13_compare_74951_12 : decode cJ13_compare_74951 12 = .ok (.lcmp, 1) := by decide +kernel
theorem dJ13_compare_74951_13 : decode cJ13_compare_74951 13 = .ok (.ifCond .ne 7, 3) := by decide +kernel
theorem dJ13_compare_74951_16 : decode cJ13_compare_74951 16 = .ok (.iconst 0, 1) := by decide +kernel
theorem dJ13_compare_74951_17 : decode cJ13_compare_74951 17 = .ok (.goto 4, 3) := by decide +kernel
theorem dJ13_compare_74951_20 : decode cJ13_compare_74951 20 = .ok (.iconst 1, 1) := by decide +kernel
theorem dJ13_compare_74951_21 : decode cJ13_compare_74951 21 = .ok (.ireturn, 1) := by decide +kernel
theorem dJ9_abs_067f4_0 : decode cJ9_abs_067f4 0 = .ok (.lload_n 0, 1) := by decide +kernel
theorem dJ9_abs_067f4_1 : decode cJ9_abs_067f4 1 = .ok (.lconst 0, 1) := by decide +kernel
theorem dJ9_abs_067f4_2 : decode cJ9_abs_067f4 2 = .ok (.lcmp, 1) := by decide +kernel
theorem dJ9_abs_067f4_3 : decode cJ9_abs_067f4 3 = .ok (.ifCond .ge 8, 3) := by decide +kernel
theorem dJ9_abs_067f4_6 : decode cJ9_abs_067f4 6 = .ok (.lload_n 0, 1) := by decide +kernel
theorem dJ9_abs_067f4_7 : decode cJ9_abs_067f4 7 = .ok (.lneg, 1) := by decide +kernel
theorem dJ9_abs_067f4_8 : decode cJ9_abs_067f4 8 = .ok (.goto 4, 3) := by decide +kernel
theorem dJ9_abs_067f4_11 : decode cJ9_abs_067f4 11 = .ok (.lload_n 0, 1) := by decide +kernel
theorem dJ9_abs_067f4_12 : decode cJ9_abs_067f4 12 = .ok (.lreturn, 1) := by decide +kernel
theorem dJ9_max_7cf53_0 : decode cJ9_max_7cf53 0 = .ok (.iload_n 0, 1) := by decide +kernel
theorem dJ9_max_7cf53_1 : decode cJ9_max_7cf53 1 = .ok (.iload_n 1, 1) := by decide +kernel
theorem dJ9_max_7cf53_2 : decode cJ9_max_7cf53 2 = .ok (.if_icmp .lt 7, 3) := by decide +kernel
theorem dJ9_max_7cf53_5 : decode cJ9_max_7cf53 5 = .ok (.iload_n 0, 1) := by decide +kernel
theorem dJ9_max_7cf53_6 : decode cJ9_max_7cf53 6 = .ok (.goto 4, 3) := by decide +kernel
theorem dJ9_max_7cf53_9 : decode cJ9_max_7cf53 9 = .ok (.iload_n 1, 1) := by decide +kernel
theorem dJ9_max_7cf53_10 : decode cJ9_max_7cf53 10 = .ok (.ireturn, 1) := by decide +kernel
theorem dJ9_min_7cf53_0 : decode cJ9_min_7cf53 0 = .ok (.iload_n 0, 1) := by decide +kernel
theorem dJ9_min_7cf53_1 : decode cJ9_min_7cf53 1 = .ok (.iload_n 1, 1) := by decide +kernel
theorem dJ9_min_7cf53_2 : decode cJ9_min_7cf53 2 = .ok (.if_icmp .gt 7, 3) := by decide +kernel
theorem dJ9_min_7cf53_5 : decode cJ9_min_7cf53 5 = .ok (.iload_n 0, 1) := by decide +kernel
theorem dJ9_min_7cf53_6 : decode cJ9_min_7cf53 6 = .ok (.goto 4, 3) := by decide +kernel
theorem dJ9_min_7cf53_9 : decode cJ9_min_7cf53 9 = .ok (.iload_n 1, 1) := by decide +kernel
theorem dJ9_min_7cf53_10 : decode cJ9_min_7cf53 10 = .ok (.ireturn, 1) := by decide +kernel
theorem dJxa1e45_init_da8c8_0 : decode cJxa1e45_init_da8c8 0 = .ok (.aload_n 0, 1) := by decide +kernel
theorem dJxa1e45_init_da8c8_1 : decode cJxa1e45_init_da8c8 1 = .ok (.invokespecial 1, 3) := by decide +kernel
theorem dJxa1e45_init_da8c8_4 : decode cJxa1e45_init_da8c8 4 = .ok (.return_, 1) := by decide +kernel
set_option maxRecDepth 20000 in
theorem ggJxc12de_init_da8c8_Jxa1e45_init_da8c8 : GoodIn wsJxc12de_init_da8c8 wsJxa1e45_init_da8c8 := goodIn_r _ [5, 6, 7, 8] (by decide +kernel) (by decide +kernel)
set_option maxRecDepth 20000 in
theorem gJxc12de_init_da8c8_Jxa1e45_init_da8c8 : GoodIn wsJxc12de_init_da8c8 (wsJxa1e45_init_da8c8) := ggJxc12de_init_da8c8_Jxa1e45_init_da8c8
theorem dJxc12de_init_da8c8_0 : decode cJxc12de_init_da8c8 0 = .ok (.aload_n 0, 1) := by decide +kernel
theorem dJxc12de_init_da8c8_1 : decode cJxc12de_init_da8c8 1 = .ok (.invokespecial 1, 3) := by decide +kernel
theorem dJxc12de_init_da8c8_4 : decode cJxc12de_init_da8c8 4 = .ok (.aload_n 0, 1) := by decide +kernel
theorem dJxc12de_init_da8c8_5 : decode cJxc12de_init_da8c8 5 = .ok (.iconst 0, 1) := by decide +kernel
theorem dJxc12de_init_da8c8_6 : decode cJxc12de_init_da8c8 6 = .ok (.putfield 7, 3) := by decide +kernel
theorem dJxc12de_init_da8c8_9 : decode cJxc12de_init_da8c8 9 = .ok (.return_, 1) := by decide +kernel
set_option maxRecDepth 20000 in
theorem ggJx4a65c_init_da8c8_Jxc12de_init_da8c8 : GoodIn wsJx4a65c_init_da8c8 wsJxc12de_init_da8c8 := goodIn_r _ [6, 7, 8, 9, 10, 11, 12, 13, 14, 15, 16, 17] (by decide +kernel) (by decide +kernel)
set_option maxRecDepth 20000 in
theorem gJx4a65c_init_da8c8_Jxc12de_init_da8c8 : GoodIn wsJx4a65c_init_da8c8 (wsJxc12de_init_da8c8) := ggJx4a65c_init_da8c8_Jxc12de_init_da8c8
theorem dJx4a65c_init_da8c8_0 : decode cJx4a65c_init_da8c8 0 = .ok (.aload_n 0, 1) := by decide +kernel
theorem dJx4a65c_init_da8c8_1 : decode cJx4a65c_init_da8c8 1 = .ok (.invokespecial 1, 3) := by decide +kernel
theorem dJx4a65c_init_da8c8_4 : decode cJx4a65c_init_da8c8 4 = .ok (.aload_n 0, 1) := by decide +kernel
theorem dJx4a65c_init_da8c8_5 : decode cJx4a65c_init_da8c8 5 = .ok (.getstatic 39, 3) := by decide +kernel
theorem dJx4a65c_init_da8c8_8 : decode cJx4a65c_init_da8c8 8 = .ok (.putfield 9, 3) := by decide +kernel
theorem dJx4a65c_init_da8c8_11 : decode cJx4a65c_init_da8c8 11 = .ok (.return_, 1) := by decide +kernel
set_option maxRecDepth 20000 in
theorem ggJx4a65c_grow_92f84_J8_newLength_cabcc : GoodIn wsJx4a65c_grow_92f84 wsJ8_newLength_cabcc := goodIn_r _ [11, 12, 4, 5, 6, 13, 14, 15, 10, 16] (by decide +kernel) (by decide +kernel)
set_option maxRecDepth 20000 in
theorem gJx4a65c_grow_92f84_J8_newLength_cabcc : GoodIn wsJx4a65c_grow_92f84 (va_wsS RJx4a65c 73 yJ8_newLength_cabcc wsJ8_newLength_cabcc) := goodIn_app (goodIn_of _ (by decide +kernel)) ggJx4a65c_grow_92f84_J8_newLength_cabcc
set_option maxRecDepth 20000 in
theorem ggJx4a65c_grow_92f84_J7_copyOf_1904c : GoodIn wsJx4a65c_grow_92f84 wsJ7_copyOf_1904c := goodIn_r _ [20, 21, 22, 23, 24, 25, 26, 19, 27, 28, 29, 30, 31, 5, 32, 33, 34, 35, 36] (by decide +kernel) (by decide +kernel)
set_option maxRecDepth 20000 in
theorem gJx4a65c_grow_92f84_J7_copyOf_1904c : GoodIn wsJx4a65c_grow_92f84 (va_wsS RJx4a65c 66 yJ7_copyOf_1904c wsJ7_copyOf_1904c) := goodIn_app (goodIn_of _ (by decide +kernel)) ggJx4a65c_grow_92f84_J7_copyOf_1904c
theorem dJx4a65c_grow_92f84_0 : decode cJx4a65c_grow_92f84 0 = .ok (.aload_n 0, 1) := by decide +kernel
theorem dJx4a65c_grow_92f84_1 : decode cJx4a65c_grow_92f84 1 = .ok (.getfield 9, 3) := by decide +kernel
theorem dJx4a65c_grow_92f84_4 : decode cJx4a65c_grow_92f84 4 = .ok (.arraylength, 1) := by decide +kernel
theorem dJx4a65c_grow_92f84_5 : decode cJx4a65c_grow_92f84 5 = .ok (.istore_n 2, 1) := by decide +kernel
theorem dJx4a65c_grow_92f84_6 : decode cJx4a65c_grow_92f84 6 = .ok (.iload_n 2, 1) := by decide +kernel
theorem dJx4a65c_grow_92f84_7 : decode cJx4a65c_grow_92f84 7 = .ok (.ifCond .gt 13, 3) := by decide +kernel
theorem dJx4a65c_grow_92f84_10 : decode cJx4a65c_grow_92f84 10 = .ok (.aload_n 0, 1) := by decide +kernel
theorem dJx4a65c_grow_92f84_11 : decode cJx4a65c_grow_92f84 11 = .ok (.getfield 9, 3) := by decide +kernel
theorem dJx4a65c_grow_92f84_14 : decode cJx4a65c_grow_92f84 14 = .ok (.getstatic 39, 3) := by decide +kernel
theorem dJx4a65c_grow_92f84_17 : decode cJx4a65c_grow_92f84 17 = .ok (.if_acmp .eq 28, 3) := by decide +kernel
theorem dJx4a65c_grow_92f84_20 : decode cJx4a65c_grow_92f84 20 = .ok (.iload_n 2, 1) := by decide +kernel
theorem dJx4a65c_grow_92f84_21 : decode cJx4a65c_grow_92f84 21 = .ok (.iload_n 1, 1) := by decide +kernel
theorem dJx4a65c_grow_92f84_22 : decode cJx4a65c_grow_92f84 22 = .ok (.iload_n 2, 1) := by decide +kernel
theorem dJx4a65c_grow_92f84_23 : decode cJx4a65c_grow_92f84 23 = .ok (.isub, 1) := by decide +kernel
theorem dJx4a65c_grow_92f84_24 : decode cJx4a65c_grow_92f84 24 = .ok (.iload_n 2, 1) := by decide +kernel
theorem dJx4a65c_grow_92f84_25 : decode cJx4a65c_grow_92f84 25 = .ok (.iconst 1, 1) := by decide +kernel
theorem dJx4a65c_grow_92f84_26 : decode cJx4a65c_grow_92f84 26 = .ok (.ishr, 1) := by decide +kernel
theorem dJx4a65c_grow_92f84_27 : decode cJx4a65c_grow_92f84 27 = .ok (.invokestatic 73, 3) := by decide +kernel
theorem dJx4a65c_grow_92f84_30 : decode cJx4a65c_grow_92f84 30 = .ok (.istore_n 3, 1) := by decide +kernel
theorem dJx4a65c_grow_92f84_31 : decode cJx4a65c_grow_92f84 31 = .ok (.aload_n 0, 1) := by decide +kernel
theorem dJx4a65c_grow_92f84_32 : decode cJx4a65c_grow_92f84 32 = .ok (.aload_n 0, 1) := by decide +kernel
theorem dJx4a65c_grow_92f84_33 : decode cJx4a65c_grow_92f84 33 = .ok (.getfield 9, 3) := by decide +kernel
theorem dJx4a65c_grow_92f84_36 : decode cJx4a65c_grow_92f84 36 = .ok (.iload_n 3, 1) := by decide +kernel
theorem dJx4a65c_grow_92f84_37 : decode cJx4a65c_grow_92f84 37 = .ok (.invokestatic 66, 3) := by decide +kernel
theorem dJx4a65c_grow_92f84_40 : decode cJx4a65c_grow_92f84 40 = .ok (.dup_x1, 1) := by decide +kernel
theorem dJx4a65c_grow_92f84_41 : decode cJx4a65c_grow_92f84 41 = .ok (.putfield 9, 3) := by decide +kernel
theorem dJx4a65c_grow_92f84_44 : decode cJx4a65c_grow_92f84 44 = .ok (.areturn, 1) := by decide +kernel
theorem dJx4a65c_grow_92f84_45 : decode cJx4a65c_grow_92f84 45 = .ok (.aload_n 0, 1) := by decide +kernel
theorem dJx4a65c_grow_92f84_46 : decode cJx4a65c_grow_92f84 46 = .ok (.bipush 10, 2) := by decide +kernel
theorem dJx4a65c_grow_92f84_48 : decode cJx4a65c_grow_92f84 48 = .ok (.iload_n 1, 1) := by decide +kernel
theorem dJx4a65c_grow_92f84_49 : decode cJx4a65c_grow_92f84 49 = .ok (.invokestatic 79, 3) := by decide +kernel
theorem dJx4a65c_grow_92f84_52 : decode cJx4a65c_grow_92f84 52 = .ok (.anewarray 7, 3) := by decide +kernel
theorem dJx4a65c_grow_92f84_55 : decode cJx4a65c_grow_92f84 55 = .ok (.dup_x1, 1) := by decide +kernel
theorem dJx4a65c_grow_92f84_56 : decode cJx4a65c_grow_92f84 56 = .ok (.putfield 9, 3) := by decide +kernel
theorem dJx4a65c_grow_92f84_59 : decode cJx4a65c_grow_92f84 59 = .ok (.areturn, 1) := by decide +kernel
set_option maxRecDepth 20000 in
theorem ggJx4a65c_grow_d5877_Jx4a65c_grow_92f84 : GoodIn wsJx4a65c_grow_d5877 wsJx4a65c_grow_92f84 := goodIn_r _ [6, 7, 8, 9, 10, 11, 12, 13, 14, 15, 16, 17, 18, 19, 20, 21, 22, 23, 24, 25, 26, 27, 28, 29, 30, 31, 32, 33, 34, 35, 36, 37, 38, 39, 40, 41, 42, 43, 44, 45] (by decide +kernel) (by decide +kernel)
set_option maxRecDepth 20000 in
theorem gJx4a65c_grow_d5877_Jx4a65c_grow_92f84 : GoodIn wsJx4a65c_grow_d5877 (wsV RJx4a65c 69 RJx4a65c yJx4a65c_grow_92f84 wsJx4a65c_grow_92f84) := goodIn_app (goodIn_of _ (by decide +kernel)) ggJx4a65c_grow_d5877_Jx4a65c_grow_92f84
theorem dJx4a65c_grow_d5877_0 : decode cJx4a65c_grow_d5877 0 = .ok (.aload_n 0, 1) := by decide +kernel
theorem dJx4a65c_grow_d5877_1 : decode cJx4a65c_grow_d5877 1 = .ok (.aload_n 0, 1) := by decide +kernel
theorem dJx4a65c_grow_d5877_2 : decode cJx4a65c_grow_d5877 2 = .ok (.getfield 48, 3) := by decide +kernel
theorem dJx4a65c_grow_d5877_5 : decode cJx4a65c_grow_d5877 5 = .ok (.iconst 1, 1) := by decide +kernel
theorem dJx4a65c_grow_d5877_6 : decode cJx4a65c_grow_d5877 6 = .ok (.iadd, 1) := by decide +kernel
theorem dJx4a65c_grow_d5877_7 : decode cJx4a65c_grow_d5877 7 = .ok (.invokevirtual 69, 3) := by decide +kernel
theorem dJx4a65c_grow_d5877_10 : decode cJx4a65c_grow_d5877 10 = .ok (.areturn, 1) := by decide +kernel
theorem dJx4a65c_size_8abf5_0 : decode cJx4a65c_size_8abf5 0 = .ok (.aload_n 0, 1) := by decide +kernel
theorem dJx4a65c_size_8abf5_1 : decode cJx4a65c_size_8abf5 1 = .ok (.getfield 48, 3) := by decide +kernel
theorem dJx4a65c_size_8abf5_4 : decode cJx4a65c_size_8abf5 4 = .ok (.ireturn, 1) := by decide +kernel
theorem dJx4a65c_elementData_915e3_0 : decode cJx4a65c_elementData_915e3 0 = .ok (.aload_n 0, 1) := by decide +kernel
theorem dJx4a65c_elementData_915e3_1 : decode cJx4a65c_elementData_915e3 1 = .ok (.getfield 9, 3) := by decide +kernel
theorem dJx4a65c_elementData_915e3_4 : decode cJx4a65c_elementData_915e3 4 = .ok (.iload_n 1, 1) := by decide +kernel
theorem dJx4a65c_elementData_915e3_5 : decode cJx4a65c_elementData_915e3 5 = .ok (.aaload, 1) := by decide +kernel
theorem dJx4a65c_elementData_915e3_6 : decode cJx4a65c_elementData_915e3 6 = .ok (.areturn, 1) := by decide +kernel
set_option maxRecDepth 20000 in
theorem ggJx4a65c_get_915e3_J15_checkIndex_7cf53 : GoodIn wsJx4a65c_get_915e3 wsJ15_checkIndex_7cf53 := goodIn_r _ [5, 6, 7, 8, 9] (by decide +kernel) (by decide +kernel)
set_option maxRecDepth 20000 in
theorem gJx4a65c_get_915e3_J15_checkIndex_7cf53 : GoodIn wsJx4a65c_get_915e3 (va_wsS RJx4a65c 118 yJ15_checkIndex_7cf53 wsJ15_checkIndex_7cf53) := goodIn_app (goodIn_of _ (by decide +kernel)) ggJx4a65c_get_915e3_J15_checkIndex_7cf53
set_option maxRecDepth 20000 in
theorem ggJx4a65c_get_915e3_Jx4a65c_elementData_915e3 : GoodIn wsJx4a65c_get_915e3 wsJx4a65c_elementData_915e3 := goodIn_r _ [14, 15, 16, 17, 18] (by decide +kernel) (by decide +kernel)
set_option maxRecDepth 20000 in
theorem gJx4a65c_get_915e3_Jx4a65c_elementData_915e3 : GoodIn wsJx4a65c_get_915e3 (wsV RJx4a65c 123 RJx4a65c yJx4a65c_elementData_915e3 wsJx4a65c_elementData_915e3) := goodIn_app (goodIn_of _ (by decide +kernel)) ggJx4a65c_get_915e3_Jx4a65c_elementData_915e3
theorem dJx4a65c_get_915e3_0 : decode cJx4a65c_get_915e3 0 = .ok (.iload_n 1, 1) := by decide +kernel
theorem dJx4a65c_get_915e3_1 : decode cJx4a65c_get_915e3 1 = .ok (.aload_n 0, 1) := by decide +kernel
theorem dJx4a65c_get_915e3_2 : decode cJx4a65c_get_915e3 2 = .ok (.getfield 48, 3) := by decide +kernel
theorem dJx4a65c_get_915e3_5 : decode cJx4a65c_get_915e3 5 = .ok (.invokestatic 118, 3) := by decide +kernel
theorem dJx4a65c_get_915e3_8 : decode cJx4a65c_get_915e3 8 = .ok (.pop, 1) := by decide +kernel
theorem dJx4a65c_get_915e3_9 : decode cJx4a65c_get_915e3 9 = .ok (.aload_n 0, 1) := by decide +kernel
theorem dJx4a65c_get_915e3_10 : decode cJx4a65c_get_915e3 10 = .ok (.iload_n 1, 1) := by decide +kernel
theorem dJx4a65c_get_915e3_11 : decode cJx4a65c_get_915e3 11 = .ok (.invokevirtual 123, 3) := by decide +kernel
theorem dJx4a65c_get_915e3_14 : decode cJx4a65c_get_915e3 14 = .ok (.areturn, 1) := by decide +kernel
set_option maxRecDepth 20000 in
theorem ggJx4a65c_add_7a177_Jx4a65c_rangeCheckForAdd_d00df : GoodIn wsJx4a65c_add_7a177 wsJx4a65c_rangeCheckForAdd_d00df := goodIn_r _ [13, 3, 54, 55, 56] (by decide +kernel) (by decide +kernel)
set_option maxRecDepth 20000 in
theorem gJx4a65c_add_7a177_Jx4a65c_rangeCheckForAdd_d00df : GoodIn wsJx4a65c_add_7a177 (wsV RJx4a65c 135 RJx4a65c yJx4a65c_rangeCheckForAdd_d00df wsJx4a65c_rangeCheckForAdd_d00df) := goodIn_app (goodIn_of _ (by decide +kernel)) ggJx4a65c_add_7a177_Jx4a65c_rangeCheckForAdd_d00df
set_option maxRecDepth 20000 in
theorem ggJx4a65c_add_7a177_Jx4a65c_grow_d5877 : GoodIn wsJx4a65c_add_7a177 wsJx4a65c_grow_d5877 := goodIn_r _ [17, 3, 18, 19, 20, 12, 21, 4, 22, 23, 24, 25, 26, 27, 28, 29, 30, 31, 32, 33, 34, 35, 36, 37, 38, 39, 40, 41, 42, 43, 44, 45, 46, 47, 48, 49, 50, 51, 52, 53, 6, 7, 8, 54, 55, 56] (by decide +kernel) (by decide +kernel)
set_option maxRecDepth 20000 in
theorem gJx4a65c_add_7a177_Jx4a65c_grow_d5877 : GoodIn wsJx4a65c_add_7a177 (wsV RJx4a65c 129 RJx4a65c yJx4a65c_grow_d5877 wsJx4a65c_grow_d5877) := goodIn_app (goodIn_of _ (by decide +kernel)) ggJx4a65c_add_7a177_Jx4a65c_grow_d5877
theorem dJx4a65c_add_7a177_0 : decode cJx4a65c_add_7a177 0 = .ok (.aload_n 0, 1) := by decide +kernel
theorem dJx4a65c_add_7a177_1 : decode cJx4a65c_add_7a177 1 = .ok (.iload_n 1, 1) := by decide +kernel
theorem dJx4a65c_add_7a177_2 : decode cJx4a65c_add_7a177 2 = .ok (.invokevirtual 135, 3) := by decide +kernel
theorem dJx4a65c_add_7a177_5 : decode cJx4a65c_add_7a177 5 = .ok (.aload_n 0, 1) := by decide +kernel
theorem dJx4a65c_add_7a177_6 : decode cJx4a65c_add_7a177 6 = .ok (.dup, 1) := by decide +kernel
theorem dJx4a65c_add_7a177_7 : decode cJx4a65c_add_7a177 7 = .ok (.getfield 63, 3) := by decide +kernel
theorem dJx4a65c_add_7a177_10 : decode cJx4a65c_add_7a177 10 = .ok (.iconst 1, 1) := by decide +kernel
theorem dJx4a65c_add_7a177_11 : decode cJx4a65c_add_7a177 11 = .ok (.iadd, 1) := by decide +kernel
theorem dJx4a65c_add_7a177_12 : decode cJx4a65c_add_7a177 12 = .ok (.putfield 63, 3) := by decide +kernel
theorem dJx4a65c_add_7a177_15 : decode cJx4a65c_add_7a177 15 = .ok (.aload_n 0, 1) := by decide +kernel
theorem dJx4a65c_add_7a177_16 : decode cJx4a65c_add_7a177 16 = .ok (.getfield 48, 3) := by decide +kernel
theorem dJx4a65c_add_7a177_19 : decode cJx4a65c_add_7a177 19 = .ok (.dup, 1) := by decide +kernel
theorem dJx4a65c_add_7a177_20 : decode cJx4a65c_add_7a177 20 = .ok (.istore_n 3, 1) := by decide +kernel
theorem dJx4a65c_add_7a177_21 : decode cJx4a65c_add_7a177 21 = .ok (.aload_n 0, 1) := by decide +kernel
theorem dJx4a65c_add_7a177_22 : decode cJx4a65c_add_7a177 22 = .ok (.getfield 9, 3) := by decide +kernel
theorem dJx4a65c_add_7a177_25 : decode cJx4a65c_add_7a177 25 = .ok (.dup, 1) := by decide +kernel
theorem dJx4a65c_add_7a177_26 : decode cJx4a65c_add_7a177 26 = .ok (.astore 4, 2) := by decide +kernel
theorem dJx4a65c_add_7a177_28 : decode cJx4a65c_add_7a177 28 = .ok (.arraylength, 1) := by decide +kernel
theorem dJx4a65c_add_7a177_29 : decode cJx4a65c_add_7a177 29 = .ok (.if_icmp .ne 9, 3) := by decide +kernel
theorem dJx4a65c_add_7a177_32 : decode cJx4a65c_add_7a177 32 = .ok (.aload_n 0, 1) := by decide +kernel
theorem dJx4a65c_add_7a177_33 : decode cJx4a65c_add_7a177 33 = .ok (.invokevirtual 129, 3) := by decide +kernel
theorem dJx4a65c_add_7a177_36 : decode cJx4a65c_add_7a177 36 = .ok (.astore 4, 2) := by decide +kernel
theorem dJx4a65c_add_7a177_38 : decode cJx4a65c_add_7a177 38 = .ok (.aload 4, 2) := by decide +kernel
theorem dJx4a65c_add_7a177_40 : decode cJx4a65c_add_7a177 40 = .ok (.iload_n 1, 1) := by decide +kernel
theorem dJx4a65c_add_7a177_41 : decode cJx4a65c_add_7a177 41 = .ok (.aload 4, 2) := by decide +kernel
theorem dJx4a65c_add_7a177_43 : decode cJx4a65c_add_7a177 43 = .ok (.iload_n 1, 1) := by decide +kernel
theorem dJx4a65c_add_7a177_44 : decode cJx4a65c_add_7a177 44 = .ok (.iconst 1, 1) := by decide +kernel
theorem dJx4a65c_add_7a177_45 : decode cJx4a65c_add_7a177 45 = .ok (.iadd, 1) := by decide +kernel
theorem dJx4a65c_add_7a177_46 : decode cJx4a65c_add_7a177 46 = .ok (.iload_n 3, 1) := by decide +kernel
theorem dJx4a65c_add_7a177_47 : decode cJx4a65c_add_7a177 47 = .ok (.iload_n 1, 1) := by decide +kernel
theorem dJx4a65c_add_7a177_48 : decode cJx4a65c_add_7a177 48 = .ok (.isub, 1) := by decide +kernel
theorem dJx4a65c_add_7a177_49 : decode cJx4a65c_add_7a177 49 = .ok (.invokestatic 112, 3) := by decide +kernel
theorem dJx4a65c_add_7a177_52 : decode cJx4a65c_add_7a177 52 = .ok (.aload 4, 2) := by decide +kernel
theorem dJx4a65c_add_7a177_54 : decode cJx4a65c_add_7a177 54 = .ok (.iload_n 1, 1) := by decide +kernel
theorem dJx4a65c_add_7a177_55 : decode cJx4a65c_add_7a177 55 = .ok (.aload_n 2, 1) := by decide +kernel
theorem dJx4a65c_add_7a177_56 : decode cJx4a65c_add_7a177 56 = .ok (.aastore, 1) := by decide +kernel
theorem dJx4a65c_add_7a177_57 : decode cJx4a65c_add_7a177 57 = .ok (.aload_n 0, 1) := by decide +kernel
theorem dJx4a65c_add_7a177_58 : decode cJx4a65c_add_7a177 58 = .ok (.iload_n 3, 1) := by decide +kernel
theorem dJx4a65c_add_7a177_59 : decode cJx4a65c_add_7a177 59 = .ok (.iconst 1, 1) := by decide +kernel
theorem dJx4a65c_add_7a177_60 : decode cJx4a65c_add_7a177 60 = .ok (.iadd, 1) := by decide +kernel
theorem dJx4a65c_add_7a177_61 : decode cJx4a65c_add_7a177 61 = .ok (.putfield 48, 3) := by decide +kernel
theorem dJx4a65c_add_7a177_64 : decode cJx4a65c_add_7a177 64 = .ok (.return_, 1) := by decide +kernel
theorem dJx4a65c_rangeCheckForAdd_d00df_0 : decode cJx4a65c_rangeCheckForAdd_d00df 0 = .ok (.iload_n 1, 1) := by decide +kernel
theorem dJx4a65c_rangeCheckForAdd_d00df_1 : decode cJx4a65c_rangeCheckForAdd_d00df 1 = .ok (.aload_n 0, 1) := by decide +kernel
theorem dJx4a65c_rangeCheckForAdd_d00df_2 : decode cJx4a65c_rangeCheckForAdd_d00df 2 = .ok (.getfield 48, 3) := by decide +kernel
theorem dJx4a65c_rangeCheckForAdd_d00df_5 : decode cJx4a65c_rangeCheckForAdd_d00df 5 = .ok (.if_icmp .gt 7, 3) := by decide +kernel
theorem dJx4a65c_rangeCheckForAdd_d00df_8 : decode cJx4a65c_rangeCheckForAdd_d00df 8 = .ok (.iload_n 1, 1) := by decide +kernel
theorem dJx4a65c_rangeCheckForAdd_d00df_9 : decode cJx4a65c_rangeCheckForAdd_d00df 9 = .ok (.ifCond .ge 16, 3) := by decide +kernel
theorem dJx4a65c_rangeCheckForAdd_d00df_12 : decode cJx4a65c_rangeCheckForAdd_d00df 12 = .ok (.new 187, 3) := by decide +kernel
theorem dJx4a65c_rangeCheckForAdd_d00df_15 : decode cJx4a65c_rangeCheckForAdd_d00df 15 = .ok (.dup, 1) := by decide +kernel
theorem dJx4a65c_rangeCheckForAdd_d00df_16 : decode cJx4a65c_rangeCheckForAdd_d00df 16 = .ok (.aload_n 0, 1) := by decide +kernel
theorem dJx4a65c_rangeCheckForAdd_d00df_17 : decode cJx4a65c_rangeCheckForAdd_d00df 17 = .ok (.iload_n 1, 1) := by decide +kernel
theorem dJx4a65c_rangeCheckForAdd_d00df_18 : decode cJx4a65c_rangeCheckForAdd_d00df 18 = .ok (.invokevirtual 198, 3) := by decide +kernel
theorem dJx4a65c_rangeCheckForAdd_d00df_21 : decode cJx4a65c_rangeCheckForAdd_d00df 21 = .ok (.invokespecial 193, 3) := by decide +kernel
theorem dJx4a65c_rangeCheckForAdd_d00df_24 : decode cJx4a65c_rangeCheckForAdd_d00df 24 = .ok (.athrow, 1) := by decide +kernel
theorem dJx4a65c_rangeCheckForAdd_d00df_25 : decode cJx4a65c_rangeCheckForAdd_d00df 25 = .ok (.return_, 1) := by decide +kernel
set_option maxRecDepth 20000 in
theorem ggJ7_copyOf_1904c_J7_copyOf_6403c : GoodIn wsJ7_copyOf_1904c wsJ7_copyOf_6403c := goodIn_r _ [8, 9, 10, 11, 12, 13, 14, 15, 16, 17, 18] (by decide +kernel) (by decide +kernel)
set_option maxRecDepth 20000 in
theorem gJ7_copyOf_1904c_J7_copyOf_6403c : GoodIn wsJ7_copyOf_1904c (va_wsS RJ7 300 yJ7_copyOf_6403c wsJ7_copyOf_6403c) := goodIn_app (goodIn_of _ (by decide +kernel)) ggJ7_copyOf_1904c_J7_copyOf_6403c
theorem dJ7_copyOf_1904c_0 : decode cJ7_copyOf_1904c 0 = .ok (.aload_n 0, 1) := by decide +kernel
theorem dJ7_copyOf_1904c_1 : decode cJ7_copyOf_1904c 1 = .ok (.iload_n 1, 1) := by decide +kernel
theorem dJ7_copyOf_1904c_2 : decode cJ7_copyOf_1904c 2 = .ok (.aload_n 0, 1) := by decide +kernel
theorem dJ7_copyOf_1904c_3 : decode cJ7_copyOf_1904c 3 = .ok (.invokevirtual 86, 3) := by decide +kernel
theorem dJ7_copyOf_1904c_6 : decode cJ7_copyOf_1904c 6 = .ok (.invokestatic 300, 3) := by decide +kernel
theorem dJ7_copyOf_1904c_9 : decode cJ7_copyOf_1904c 9 = .ok (.areturn, 1) := by decide +kernel
theorem dJ7_copyOf_6403c_0 : decode cJ7_copyOf_6403c 0 = .ok (.aload_n 2, 1) := by decide +kernel
theorem dJ7_copyOf_6403c_1 : decode cJ7_copyOf_6403c 1 = .ok (.ldc 110, 2) := by decide +kernel
theorem dJ7_copyOf_6403c_3 : decode cJ7_copyOf_6403c 3 = .ok (.if_acmp .ne 10, 3) := by decide +kernel
theorem dJ7_copyOf_6403c_6 : decode cJ7_copyOf_6403c 6 = .ok (.iload_n 1, 1) := by decide +kernel
theorem dJ7_copyOf_6403c_7 : decode cJ7_copyOf_6403c 7 = .ok (.anewarray 2, 3) := by decide +kernel
theorem dJ7_copyOf_6403c_10 : decode cJ7_copyOf_6403c 10 = .ok (.goto 14, 3) := by decide +kernel
theorem dJ7_copyOf_6403c_13 : decode cJ7_copyOf_6403c 13 = .ok (.aload_n 2, 1) := by decide +kernel
theorem dJ7_copyOf_6403c_14 : decode cJ7_copyOf_6403c 14 = .ok (.invokevirtual 90, 3) := by decide +kernel
theorem dJ7_copyOf_6403c_17 : decode cJ7_copyOf_6403c 17 = .ok (.iload_n 1, 1) := by decide +kernel
theorem dJ7_copyOf_6403c_18 : decode cJ7_copyOf_6403c 18 = .ok (.invokestatic 95, 3) := by decide +kernel
theorem dJ7_copyOf_6403c_21 : decode cJ7_copyOf_6403c 21 = .ok (.checkcast 110, 3) := by decide +kernel
theorem dJ7_copyOf_6403c_24 : decode cJ7_copyOf_6403c 24 = .ok (.astore_n 3, 1) := by decide +kernel
theorem dJ7_copyOf_6403c_25 : decode cJ7_copyOf_6403c 25 = .ok (.aload_n 0, 1) := by decide +kernel
theorem dJ7_copyOf_6403c_26 : decode cJ7_copyOf_6403c 26 = .ok (.iconst 0, 1) := by decide +kernel
theorem dJ7_copyOf_6403c_27 : decode cJ7_copyOf_6403c 27 = .ok (.aload_n 3, 1) := by decide +kernel
theorem dJ7_copyOf_6403c_28 : decode cJ7_copyOf_6403c 28 = .ok (.iconst 0, 1) := by decide +kernel
theorem dJ7_copyOf_6403c_29 : decode cJ7_copyOf_6403c 29 = .ok (.aload_n 0, 1) := by decide +kernel
theorem dJ7_copyOf_6403c_30 : decode cJ7_copyOf_6403c 30 = .ok (.arraylength, 1) := by decide +kernel
theorem dJ7_copyOf_6403c_31 : decode cJ7_copyOf_6403c 31 = .ok (.iload_n 1, 1) := by decide +kernel
theorem dJ7_copyOf_6403c_32 : decode cJ7_copyOf_6403c 32 = .ok (.invokestatic 304, 3) := by decide +kernel
theorem dJ7_copyOf_6403c_35 : decode cJ7_copyOf_6403c 35 = .ok (.invokestatic 150, 3) := by decide +kernel
theorem dJ7_copyOf_6403c_38 : decode cJ7_copyOf_6403c 38 = .ok (.aload_n 3, 1) := by decide +kernel
theorem dJ7_copyOf_6403c_39 : decode cJ7_copyOf_6403c 39 = .ok (.areturn, 1) := by decide +kernel
set_option maxRecDepth 20000 in
theorem ggJ15_checkIndex_7cf53_J3_checkIndex_8e157 : GoodIn wsJ15_checkIndex_7cf53 wsJ3_checkIndex_8e157 := goodIn_r _ [4] (by decide +kernel) (by decide +kernel)
set_option maxRecDepth 20000 in
theorem gJ15_checkIndex_7cf53_J3_checkIndex_8e157 : GoodIn wsJ15_checkIndex_7cf53 (va_wsS RJ15 105 yJ3_checkIndex_8e157 wsJ3_checkIndex_8e157) := goodIn_app (goodIn_of _ (by decide +kernel)) ggJ15_checkIndex_7cf53_J3_checkIndex_8e157
theorem dJ15_checkIndex_7cf53_0 : decode cJ15_checkIndex_7cf53 0 = .ok (.iload_n 0, 1) := by decide +kernel
theorem dJ15_checkIndex_7cf53_1 : decode cJ15_checkIndex_7cf53 1 = .ok (.iload_n 1, 1) := by decide +kernel
theorem dJ15_checkIndex_7cf53_2 : decode cJ15_checkIndex_7cf53 2 = .ok (.aconst_null, 1) := by decide +kernel
theorem dJ15_checkIndex_7cf53_3 : decode cJ15_checkIndex_7cf53 3 = .ok (.invokestatic 105, 3) := by decide +kernel
theorem dJ15_checkIndex_7cf53_6 : decode cJ15_checkIndex_7cf53 6 = .ok (.ireturn, 1) := by decide +kernel
set_option maxRecDepth 20000 in
theorem ggJ8_newLength_cabcc_J8_hugeLength_7cf53 : GoodIn wsJ8_newLength_cabcc wsJ8_hugeLength_7cf53 := goodIn_r _ [9, 5] (by decide +kernel) (by decide +kernel)
set_option maxRecDepth 20000 in
theorem gJ8_newLength_cabcc_J8_hugeLength_7cf53 : GoodIn wsJ8_newLength_cabcc (va_wsS RJ8 201 yJ8_hugeLength_7cf53 wsJ8_hugeLength_7cf53) := goodIn_app (goodIn_of _ (by decide +kernel)) ggJ8_newLength_cabcc_J8_hugeLength_7cf53
theorem dJ8_newLength_cabcc_0 : decode cJ8_newLength_cabcc 0 = .ok (.iload_n 0, 1) := by decide +kernel
theorem dJ8_newLength_cabcc_1 : decode cJ8_newLength_cabcc 1 = .ok (.iload_n 1, 1) := by decide +kernel
theorem dJ8_newLength_cabcc_2 : decode cJ8_newLength_cabcc 2 = .ok (.iload_n 2, 1) := by decide +kernel
theorem dJ8_newLength_cabcc_3 : decode cJ8_newLength_cabcc 3 = .ok (.invokestatic 194, 3) := by decide +kernel
theorem dJ8_newLength_cabcc_6 : decode cJ8_newLength_cabcc 6 = .ok (.iadd, 1) := by decide +kernel
theorem dJ8_newLength_cabcc_7 : decode cJ8_newLength_cabcc 7 = .ok (.istore_n 3, 1) := by decide +kernel
theorem dJ8_newLength_cabcc_8 : decode cJ8_newLength_cabcc 8 = .ok (.iconst 0, 1) := by decide +kernel
theorem dJ8_newLength_cabcc_9 : decode cJ8_newLength_cabcc 9 = .ok (.iload_n 3, 1) := by decide +kernel
theorem dJ8_newLength_cabcc_10 : decode cJ8_newLength_cabcc 10 = .ok (.if_icmp .ge 11, 3) := by decide +kernel
theorem dJ8_newLength_cabcc_13 : decode cJ8_newLength_cabcc 13 = .ok (.iload_n 3, 1) := by decide +kernel
theorem dJ8_newLength_cabcc_14 : decode cJ8_newLength_cabcc 14 = .ok (.ldc 200, 2) := by decide +kernel
theorem dJ8_newLength_cabcc_16 : decode cJ8_newLength_cabcc 16 = .ok (.if_icmp .gt 5, 3) := by decide +kernel
theorem dJ8_newLength_cabcc_19 : decode cJ8_newLength_cabcc 19 = .ok (.iload_n 3, 1) := by decide +kernel
theorem dJ8_newLength_cabcc_20 : decode cJ8_newLength_cabcc 20 = .ok (.ireturn, 1) := by decide +kernel
theorem dJ8_newLength_cabcc_21 : decode cJ8_newLength_cabcc 21 = .ok (.iload_n 0, 1) := by decide +kernel
theorem dJ8_newLength_cabcc_22 : decode cJ8_newLength_cabcc 22 = .ok (.iload_n 1, 1) := by decide +kernel
theorem dJ8_newLength_cabcc_23 : decode cJ8_newLength_cabcc 23 = .ok (.invokestatic 201, 3) := by decide +kernel
theorem dJ8_newLength_cabcc_26 : decode cJ8_newLength_cabcc 26 = .ok (.ireturn, 1) := by decide +kernel
theorem dJ8_hugeLength_7cf53_0 : decode cJ8_hugeLength_7cf53 0 = .ok (.iload_n 0, 1) := by decide +kernel
theorem dJ8_hugeLength_7cf53_1 : decode cJ8_hugeLength_7cf53 1 = .ok (.iload_n 1, 1) := by decide +kernel
theorem dJ8_hugeLength_7cf53_2 : decode cJ8_hugeLength_7cf53 2 = .ok (.iadd, 1) := by decide +kernel
theorem dJ8_hugeLength_7cf53_3 : decode cJ8_hugeLength_7cf53 3 = .ok (.istore_n 2, 1) := by decide +kernel
theorem dJ8_hugeLength_7cf53_4 : decode cJ8_hugeLength_7cf53 4 = .ok (.iload_n 2, 1) := by decide +kernel
theorem dJ8_hugeLength_7cf53_5 : decode cJ8_hugeLength_7cf53 5 = .ok (.ifCond .ge 44, 3) := by decide +kernel
theorem dJ8_hugeLength_7cf53_8 : decode cJ8_hugeLength_7cf53 8 = .ok (.new 204, 3) := by decide +kernel
theorem dJ8_hugeLength_7cf53_11 : decode cJ8_hugeLength_7cf53 11 = .ok (.dup, 1) := by decide +kernel
theorem dJ8_hugeLength_7cf53_12 : decode cJ8_hugeLength_7cf53 12 = .ok (.new 89, 3) := by decide +kernel
theorem dJ8_hugeLength_7cf53_15 : decode cJ8_hugeLength_7cf53 15 = .ok (.dup, 1) := by decide +kernel
theorem dJ8_hugeLength_7cf53_16 : decode cJ8_hugeLength_7cf53 16 = .ok (.invokespecial 91, 3) := by decide +kernel
theorem dJ8_hugeLength_7cf53_19 : decode cJ8_hugeLength_7cf53 19 = .ok (.ldc 206, 2) := by decide +kernel
theorem dJ8_hugeLength_7cf53_21 : decode cJ8_hugeLength_7cf53 21 = .ok (.invokevirtual 94, 3) := by decide +kernel
theorem dJ8_hugeLength_7cf53_24 : decode cJ8_hugeLength_7cf53 24 = .ok (.iload_n 0, 1) := by decide +kernel
theorem dJ8_hugeLength_7cf53_25 : decode cJ8_hugeLength_7cf53 25 = .ok (.invokevirtual 98, 3) := by decide +kernel
theorem dJ8_hugeLength_7cf53_28 : decode cJ8_hugeLength_7cf53 28 = .ok (.ldc 208, 2) := by decide +kernel
theorem dJ8_hugeLength_7cf53_30 : decode cJ8_hugeLength_7cf53 30 = .ok (.invokevirtual 94, 3) := by decide +kernel
theorem dJ8_hugeLength_7cf53_33 : decode cJ8_hugeLength_7cf53 33 = .ok (.iload_n 1, 1) := by decide +kernel
theorem dJ8_hugeLength_7cf53_34 : decode cJ8_hugeLength_7cf53 34 = .ok (.invokevirtual 98, 3) := by decide +kernel
theorem dJ8_hugeLength_7cf53_37 : decode cJ8_hugeLength_7cf53 37 = .ok (.ldc 210, 2) := by decide +kernel
theorem dJ8_hugeLength_7cf53_39 : decode cJ8_hugeLength_7cf53 39 = .ok (.invokevirtual 94, 3) := by decide +kernel
theorem dJ8_hugeLength_7cf53_42 : decode cJ8_hugeLength_7cf53 42 = .ok (.invokevirtual 101, 3) := by decide +kernel
theorem dJ8_hugeLength_7cf53_45 : decode cJ8_hugeLength_7cf53 45 = .ok (.invokespecial 212, 3) := by decide +kernel
theorem dJ8_hugeLength_7cf53_48 : decode cJ8_hugeLength_7cf53 48 = .ok (.athrow, 1) := by decide +kernel
theorem dJ8_hugeLength_7cf53_49 : decode cJ8_hugeLength_7cf53 49 = .ok (.iload_n 2, 1) := by decide +kernel
theorem dJ8_hugeLength_7cf53_50 : decode cJ8_hugeLength_7cf53 50 = .ok (.ldc 200, 2) := by decide +kernel
theorem dJ8_hugeLength_7cf53_52 : decode cJ8_hugeLength_7cf53 52 = .ok (.if_icmp .gt 6, 3) := by decide +kernel
theorem dJ8_hugeLength_7cf53_55 : decode cJ8_hugeLength_7cf53 55 = .ok (.ldc 200, 2) := by decide +kernel
theorem dJ8_hugeLength_7cf53_57 : decode cJ8_hugeLength_7cf53 57 = .ok (.ireturn, 1) := by decide +kernel
theorem dJ8_hugeLength_7cf53_58 : decode cJ8_hugeLength_7cf53 58 = .ok (.iload_n 2, 1) := by decide +kernel
theorem dJ8_hugeLength_7cf53_59 : decode cJ8_hugeLength_7cf53 59 = .ok (.ireturn, 1) := by decide +kernel
theorem dJ3_checkIndex_8e157_0 : decode cJ3_checkIndex_8e157 0 = .ok (.iload_n 0, 1) := by decide +kernel
theorem dJ3_checkIndex_8e157_1 : decode cJ3_checkIndex_8e157 1 = .ok (.ifCond .lt 8, 3) := by decide +kernel
theorem dJ3_checkIndex_8e157_4 : decode cJ3_checkIndex_8e157 4 = .ok (.iload_n 0, 1) := by decide +kernel
theorem dJ3_checkIndex_8e157_5 : decode cJ3_checkIndex_8e157 5 = .ok (.iload_n 1, 1) := by decide +kernel
theorem dJ3_checkIndex_8e157_6 : decode cJ3_checkIndex_8e157 6 = .ok (.if_icmp .lt 10, 3) := by decide +kernel
theorem dJ3_checkIndex_8e157_9 : decode cJ3_checkIndex_8e157 9 = .ok (.aload_n 2, 1) := by decide +kernel
theorem dJ3_checkIndex_8e157_10 : decode cJ3_checkIndex_8e157 10 = .ok (.iload_n 0, 1) := by decide +kernel
theorem dJ3_checkIndex_8e157_11 : decode cJ3_checkIndex_8e157 11 = .ok (.iload_n 1, 1) := by decide +kernel
theorem dJ3_checkIndex_8e157_12 : decode cJ3_checkIndex_8e157 12 = .ok (.invokestatic 95, 3) := by decide +kernel
theorem dJ3_checkIndex_8e157_15 : decode cJ3_checkIndex_8e157 15 = .ok (.athrow, 1) := by decide +kernel
theorem dJ3_checkIndex_8e157_16 : decode cJ3_checkIndex_8e157 16 = .ok (.iload_n 0, 1) := by decide +kernel
theorem dJ3_checkIndex_8e157_17 : decode cJ3_checkIndex_8e157 17 = .ok (.ireturn, 1) := by decide +kernel
theorem dL_law_0 : decode cL_law 0 = .ok (.new 7, 3) := by decide +kernel
theorem dL_law_3 : decode cL_law 3 = .ok (.dup, 1) := by decide +kernel
theorem dL_law_4 : decode cL_law 4 = .ok (.invokespecial 9, 3) := by decide +kernel
theorem dL_law_7 : decode cL_law 7 = .ok (.astore_n 1, 1) := by decide +kernel
theorem dL_law_8 : decode cL_law 8 = .ok (.new 10, 3) := by decide +kernel
theorem dL_law_11 : decode cL_law 11 = .ok (.dup, 1) := by decide +kernel
theorem dL_law_12 : decode cL_law 12 = .ok (.invokespecial 12, 3) := by decide +kernel
theorem dL_law_15 : decode cL_law 15 = .ok (.astore_n 2, 1) := by decide +kernel
theorem dL_law_16 : decode cL_law 16 = .ok (.iconst 0, 1) := by decide +kernel
theorem dL_law_17 : decode cL_law 17 = .ok (.istore_n 3, 1) := by decide +kernel
theorem dL_law_18 : decode cL_law 18 = .ok (.iload_n 3, 1) := by decide +kernel
theorem dL_law_19 : decode cL_law 19 = .ok (.aload_n 0, 1) := by decide +kernel
theorem dL_law_20 : decode cL_law 20 = .ok (.arraylength, 1) := by decide +kernel
theorem dL_law_21 : decode cL_law 21 = .ok (.bipush 6, 2) := by decide +kernel
theorem dL_law_23 : decode cL_law 23 = .ok (.isub, 1) := by decide +kernel
theorem dL_law_24 : decode cL_law 24 = .ok (.if_icmp .gt 746, 3) := by decide +kernel
theorem dL_law_27 : decode cL_law 27 = .ok (.aload_n 0, 1) := by decide +kernel
theorem dL_law_28 : decode cL_law 28 = .ok (.iload_n 3, 1) := by decide +kernel
theorem dL_law_29 : decode cL_law 29 = .ok (.iaload, 1) := by decide +kernel
theorem dL_law_30 : decode cL_law 30 = .ok (.bipush 31, 2) := by decide +kernel
theorem dL_law_32 : decode cL_law 32 = .ok (.iand, 1) := by decide +kernel
theorem dL_law_33 : decode cL_law 33 = .ok (.tableswitch 731 0 18 #[91, 114, 157, 200, 233, 276, 309, 372, 385, 418, 451, 495, 549, 562, 595, 628, 661, 694, 717], 91) := by decide +kernel
theorem dL_law_124 : decode cL_law 124 = .ok (.aload_n 1, 1) := by decide +kernel
theorem dL_law_125 : decode cL_law 125 = .ok (.aload_n 0, 1) := by decide +kernel
theorem dL_law_126 : decode cL_law 126 = .ok (.iload_n 3, 1) := by decide +kernel
theorem dL_law_127 : decode cL_law 127 = .ok (.iconst 1, 1) := by decide +kernel
theorem dL_law_128 : decode cL_law 128 = .ok (.iadd, 1) := by decide +kernel
theorem dL_law_129 : decode cL_law 129 = .ok (.iaload, 1) := by decide +kernel
theorem dL_law_130 : decode cL_law 130 = .ok (.invokevirtual 13, 3) := by decide +kernel
theorem dL_law_133 : decode cL_law 133 = .ok (.aload_n 2, 1) := by decide +kernel
theorem dL_law_134 : decode cL_law 134 = .ok (.aload_n 0, 1) := by decide +kernel
theorem dL_law_135 : decode cL_law 135 = .ok (.iload_n 3, 1) := by decide +kernel
theorem dL_law_136 : decode cL_law 136 = .ok (.iconst 1, 1) := by decide +kernel
theorem dL_law_137 : decode cL_law 137 = .ok (.iadd, 1) := by decide +kernel
theorem dL_law_138 : decode cL_law 138 = .ok (.iaload, 1) := by decide +kernel
theorem dL_law_139 : decode cL_law 139 = .ok (.invokevirtual 17, 3) := by decide +kernel
theorem dL_law_142 : decode cL_law 142 = .ok (.if_icmp .eq 622, 3) := by decide +kernel
theorem dL_law_145 : decode cL_law 145 = .ok (.iconst 0, 1) := by decide +kernel
theorem dL_law_146 : decode cL_law 146 = .ok (.ireturn, 1) := by decide +kernel
theorem dL_law_147 : decode cL_law 147 = .ok (.aload_n 1, 1) := by decide +kernel
theorem dL_law_148 : decode cL_law 148 = .ok (.aload_n 0, 1) := by decide +kernel
theorem dL_law_149 : decode cL_law 149 = .ok (.iload_n 3, 1) := by decide +kernel
theorem dL_law_150 : decode cL_law 150 = .ok (.iconst 1, 1) := by decide +kernel
theorem dL_law_151 : decode cL_law 151 = .ok (.iadd, 1) := by decide +kernel
theorem dL_law_152 : decode cL_law 152 = .ok (.iaload, 1) := by decide +kernel
theorem dL_law_153 : decode cL_law 153 = .ok (.aload_n 0, 1) := by decide +kernel
theorem dL_law_154 : decode cL_law 154 = .ok (.iload_n 3, 1) := by decide +kernel
theorem dL_law_155 : decode cL_law 155 = .ok (.iconst 2, 1) := by decide +kernel
theorem dL_law_156 : decode cL_law 156 = .ok (.iadd, 1) := by decide +kernel
theorem dL_law_157 : decode cL_law 157 = .ok (.iaload, 1) := by decide +kernel
theorem dL_law_158 : decode cL_law 158 = .ok (.aload_n 0, 1) := by decide +kernel
theorem dL_law_159 : decode cL_law 159 = .ok (.iload_n 3, 1) := by decide +kernel
theorem dL_law_160 : decode cL_law 160 = .ok (.iconst 3, 1) := by decide +kernel
theorem dL_law_161 : decode cL_law 161 = .ok (.iadd, 1) := by decide +kernel
theorem dL_law_162 : decode cL_law 162 = .ok (.iaload, 1) := by decide +kernel
theorem dL_law_163 : decode cL_law 163 = .ok (.invokevirtual 18, 3) := by decide +kernel
theorem dL_law_166 : decode cL_law 166 = .ok (.aload_n 2, 1) := by decide +kernel
theorem dL_law_167 : decode cL_law 167 = .ok (.aload_n 0, 1) := by decide +kernel
theorem dL_law_168 : decode cL_law 168 = .ok (.iload_n 3, 1) := by decide +kernel
theorem dL_law_169 : decode cL_law 169 = .ok (.iconst 1, 1) := by decide +kernel
theorem dL_law_170 : decode cL_law 170 = .ok (.iadd, 1) := by decide +kernel
theorem dL_law_171 : decode cL_law 171 = .ok (.iaload, 1) := by decide +kernel
theorem dL_law_172 : decode cL_law 172 = .ok (.aload_n 0, 1) := by decide +kernel
theorem dL_law_173 : decode cL_law 173 = .ok (.iload_n 3, 1) := by decide +kernel
theorem dL_law_174 : decode cL_law 174 = .ok (.iconst 2, 1) := by decide +kernel
theorem dL_law_175 : decode cL_law 175 = .ok (.iadd, 1) := by decide +kernel
theorem dL_law_176 : decode cL_law 176 = .ok (.iaload, 1) := by decide +kernel
theorem dL_law_177 : decode cL_law 177 = .ok (.aload_n 0, 1) := by decide +kernel
theorem dL_law_178 : decode cL_law 178 = .ok (.iload_n 3, 1) := by decide +kernel
theorem dL_law_179 : decode cL_law 179 = .ok (.iconst 3, 1) := by decide +kernel
theorem dL_law_180 : decode cL_law 180 = .ok (.iadd, 1) := by decide +kernel
theorem dL_law_181 : decode cL_law 181 = .ok (.iaload, 1) := by decide +kernel
theorem dL_law_182 : decode cL_law 182 = .ok (.invokevirtual 22, 3) := by decide +kernel
theorem dL_law_185 : decode cL_law 185 = .ok (.if_icmp .eq 579, 3) := by decide +kernel
theorem dL_law_188 : decode cL_law 188 = .ok (.iconst 0, 1) := by decide +kernel
theorem dL_law_189 : decode cL_law 189 = .ok (.ireturn, 1) := by decide +kernel
theorem dL_law_190 : decode cL_law 190 = .ok (.aload_n 1, 1) := by decide +kernel
theorem dL_law_191 : decode cL_law 191 = .ok (.aload_n 0, 1) := by decide +kernel
theorem dL_law_192 : decode cL_law 192 = .ok (.iload_n 3, 1) := by decide +kernel
theorem dL_law_193 : decode cL_law 193 = .ok (.iconst 1, 1) := by decide +kernel
theorem dL_law_194 : decode cL_law 194 = .ok (.iadd, 1) := by decide +kernel
theorem dL_law_195 : decode cL_law 195 = .ok (.iaload, 1) := by decide +kernel
theorem dL_law_196 : decode cL_law 196 = .ok (.aload_n 0, 1) := by decide +kernel
theorem dL_law_197 : decode cL_law 197 = .ok (.iload_n 3, 1) := by decide +kernel
theorem dL_law_198 : decode cL_law 198 = .ok (.iconst 2, 1) := by decide +kernel
theorem dL_law_199 : decode cL_law 199 = .ok (.iadd, 1) := by decide +kernel
theorem dL_law_200 : decode cL_law 200 = .ok (.iaload, 1) := by decide +kernel
theorem dL_law_201 : decode cL_law 201 = .ok (.aload_n 0, 1) := by decide +kernel
theorem dL_law_202 : decode cL_law 202 = .ok (.iload_n 3, 1) := by decide +kernel
theorem dL_law_203 : decode cL_law 203 = .ok (.iconst 3, 1) := by decide +kernel
theorem dL_law_204 : decode cL_law 204 = .ok (.iadd, 1) := by decide +kernel
theorem dL_law_205 : decode cL_law 205 = .ok (.iaload, 1) := by decide +kernel
theorem dL_law_206 : decode cL_law 206 = .ok (.invokevirtual 23, 3) := by decide +kernel
theorem dL_law_209 : decode cL_law 209 = .ok (.aload_n 2, 1) := by decide +kernel
theorem dL_law_210 : decode cL_law 210 = .ok (.aload_n 0, 1) := by decide +kernel
theorem dL_law_211 : decode cL_law 211 = .ok (.iload_n 3, 1) := by decide +kernel
theorem dL_law_212 : decode cL_law 212 = .ok (.iconst 1, 1) := by decide +kernel
theorem dL_law_213 : decode cL_law 213 = .ok (.iadd, 1) := by decide +kernel
theorem dL_law_214 : decode cL_law 214 = .ok (.iaload, 1) := by decide +kernel
theorem dL_law_215 : decode cL_law 215 = .ok (.aload_n 0, 1) := by decide +kernel
theorem dL_law_216 : decode cL_law 216 = .ok (.iload_n 3, 1) := by decide +kernel
theorem dL_law_217 : decode cL_law 217 = .ok (.iconst 2, 1) := by decide +kernel
theorem dL_law_218 : decode cL_law 218 = .ok (.iadd, 1) := by decide +kernel
theorem dL_law_219 : decode cL_law 219 = .ok (.iaload, 1) := by decide +kernel
theorem dL_law_220 : decode cL_law 220 = .ok (.aload_n 0, 1) := by decide +kernel
theorem dL_law_221 : decode cL_law 221 = .ok (.iload_n 3, 1) := by decide +kernel
theorem dL_law_222 : decode cL_law 222 = .ok (.iconst 3, 1) := by decide +kernel
theorem dL_law_223 : decode cL_law 223 = .ok (.iadd, 1) := by decide +kernel
theorem dL_law_224 : decode cL_law 224 = .ok (.iaload, 1) := by decide +kernel
theorem dL_law_225 : decode cL_law 225 = .ok (.invokevirtual 26, 3) := by decide +kernel
theorem dL_law_228 : decode cL_law 228 = .ok (.if_icmp .eq 536, 3) := by decide +kernel
theorem dL_law_231 : decode cL_law 231 = .ok (.iconst 0, 1) := by decide +kernel
theorem dL_law_232 : decode cL_law 232 = .ok (.ireturn, 1) := by decide +kernel
theorem dL_law_233 : decode cL_law 233 = .ok (.aload_n 1, 1) := by decide +kernel
theorem dL_law_234 : decode cL_law 234 = .ok (.aload_n 0, 1) := by decide +kernel
theorem dL_law_235 : decode cL_law 235 = .ok (.iload_n 3, 1) := by decide +kernel
theorem dL_law_236 : decode cL_law 236 = .ok (.iconst 1, 1) := by decide +kernel
theorem dL_law_237 : decode cL_law 237 = .ok (.iadd, 1) := by decide +kernel
theorem dL_law_238 : decode cL_law 238 = .ok (.iaload, 1) := by decide +kernel
theorem dL_law_239 : decode cL_law 239 = .ok (.aload_n 0, 1) := by decide +kernel
theorem dL_law_240 : decode cL_law 240 = .ok (.iload_n 3, 1) := by decide +kernel
theorem dL_law_241 : decode cL_law 241 = .ok (.iconst 2, 1) := by decide +kernel
theorem dL_law_242 : decode cL_law 242 = .ok (.iadd, 1) := by decide +kernel
theorem dL_law_243 : decode cL_law 243 = .ok (.iaload, 1) := by decide +kernel
theorem dL_law_244 : decode cL_law 244 = .ok (.invokevirtual 27, 3) := by decide +kernel
theorem dL_law_247 : decode cL_law 247 = .ok (.aload_n 2, 1) := by decide +kernel
theorem dL_law_248 : decode cL_law 248 = .ok (.aload_n 0, 1) := by decide +kernel
theorem dL_law_249 : decode cL_law 249 = .ok (.iload_n 3, 1) := by decide +kernel
theorem dL_law_250 : decode cL_law 250 = .ok (.iconst 1, 1) := by decide +kernel
theorem dL_law_251 : decode cL_law 251 = .ok (.iadd, 1) := by decide +kernel
theorem dL_law_252 : decode cL_law 252 = .ok (.iaload, 1) := by decide +kernel
theorem dL_law_253 : decode cL_law 253 = .ok (.aload_n 0, 1) := by decide +kernel
theorem dL_law_254 : decode cL_law 254 = .ok (.iload_n 3, 1) := by decide +kernel
theorem dL_law_255 : decode cL_law 255 = .ok (.iconst 2, 1) := by decide +kernel
theorem dL_law_256 : decode cL_law 256 = .ok (.iadd, 1) := by decide +kernel
theorem dL_law_257 : decode cL_law 257 = .ok (.iaload, 1) := by decide +kernel
theorem dL_law_258 : decode cL_law 258 = .ok (.invokevirtual 31, 3) := by decide +kernel
theorem dL_law_261 : decode cL_law 261 = .ok (.if_icmp .eq 503, 3) := by decide +kernel
theorem dL_law_264 : decode cL_law 264 = .ok (.iconst 0, 1) := by decide +kernel
theorem dL_law_265 : decode cL_law 265 = .ok (.ireturn, 1) := by decide +kernel
theorem dL_law_266 : decode cL_law 266 = .ok (.aload_n 1, 1) := by decide +kernel
theorem dL_law_267 : decode cL_law 267 = .ok (.aload_n 0, 1) := by decide +kernel
theorem dL_law_268 : decode cL_law 268 = .ok (.iload_n 3, 1) := by decide +kernel
theorem dL_law_269 : decode cL_law 269 = .ok (.iconst 1, 1) := by decide +kernel
theorem dL_law_270 : decode cL_law 270 = .ok (.iadd, 1) := by decide +kernel
theorem dL_law_271 : decode cL_law 271 = .ok (.iaload, 1) := by decide +kernel
theorem dL_law_272 : decode cL_law 272 = .ok (.aload_n 0, 1) := by decide +kernel
theorem dL_law_273 : decode cL_law 273 = .ok (.iload_n 3, 1) := by decide +kernel
theorem dL_law_274 : decode cL_law 274 = .ok (.iconst 2, 1) := by decide +kernel
theorem dL_law_275 : decode cL_law 275 = .ok (.iadd, 1) := by decide +kernel
theorem dL_law_276 : decode cL_law 276 = .ok (.iaload, 1) := by decide +kernel
theorem dL_law_277 : decode cL_law 277 = .ok (.aload_n 0, 1) := by decide +kernel
theorem dL_law_278 : decode cL_law 278 = .ok (.iload_n 3, 1) := by decide +kernel
theorem dL_law_279 : decode cL_law 279 = .ok (.iconst 3, 1) := by decide +kernel
theorem dL_law_280 : decode cL_law 280 = .ok (.iadd, 1) := by decide +kernel
theorem dL_law_281 : decode cL_law 281 = .ok (.iaload, 1) := by decide +kernel
theorem dL_law_282 : decode cL_law 282 = .ok (.invokevirtual 32, 3) := by decide +kernel
theorem dL_law_285 : decode cL_law 285 = .ok (.aload_n 2, 1) := by decide +kernel
theorem dL_law_286 : decode cL_law 286 = .ok (.aload_n 0, 1) := by decide +kernel
theorem dL_law_287 : decode cL_law 287 = .ok (.iload_n 3, 1) := by decide +kernel
theorem dL_law_288 : decode cL_law 288 = .ok (.iconst 1, 1) := by decide +kernel
theorem dL_law_289 : decode cL_law 289 = .ok (.iadd, 1) := by decide +kernel
theorem dL_law_290 : decode cL_law 290 = .ok (.iaload, 1) := by decide +kernel
theorem dL_law_291 : decode cL_law 291 = .ok (.aload_n 0, 1) := by decide +kernel
theorem dL_law_292 : decode cL_law 292 = .ok (.iload_n 3, 1) := by decide +kernel
theorem dL_law_293 : decode cL_law 293 = .ok (.iconst 2, 1) := by decide +kernel
theorem dL_law_294 : decode cL_law 294 = .ok (.iadd, 1) := by decide +kernel
theorem dL_law_295 : decode cL_law 295 = .ok (.iaload, 1) := by decide +kernel
theorem dL_law_296 : decode cL_law 296 = .ok (.aload_n 0, 1) := by decide +kernel
theorem dL_law_297 : decode cL_law 297 = .ok (.iload_n 3, 1) := by decide +kernel
theorem dL_law_298 : decode cL_law 298 = .ok (.iconst 3, 1) := by decide +kernel
theorem dL_law_299 : decode cL_law 299 = .ok (.iadd, 1) := by decide +kernel
theorem dL_law_300 : decode cL_law 300 = .ok (.iaload, 1) := by decide +kernel
theorem dL_law_301 : decode cL_law 301 = .ok (.invokevirtual 35, 3) := by decide +kernel
theorem dL_law_304 : decode cL_law 304 = .ok (.if_icmp .eq 460, 3) := by decide +kernel
theorem dL_law_307 : decode cL_law 307 = .ok (.iconst 0, 1) := by decide +kernel
theorem dL_law_308 : decode cL_law 308 = .ok (.ireturn, 1) := by decide +kernel
theorem dL_law_309 : decode cL_law 309 = .ok (.aload_n 1, 1) := by decide +kernel
theorem dL_law_310 : decode cL_law 310 = .ok (.aload_n 0, 1) := by decide +kernel
theorem dL_law_311 : decode cL_law 311 = .ok (.iload_n 3, 1) := by decide +kernel
theorem dL_law_312 : decode cL_law 312 = .ok (.iconst 1, 1) := by decide +kernel
theorem dL_law_313 : decode cL_law 313 = .ok (.iadd, 1) := by decide +kernel
theorem dL_law_314 : decode cL_law 314 = .ok (.iaload, 1) := by decide +kernel
theorem dL_law_315 : decode cL_law 315 = .ok (.aload_n 0, 1) := by decide +kernel
theorem dL_law_316 : decode cL_law 316 = .ok (.iload_n 3, 1) := by decide +kernel
theorem dL_law_317 : decode cL_law 317 = .ok (.iconst 2, 1) := by decide +kernel
theorem dL_law_318 : decode cL_law 318 = .ok (.iadd, 1) := by decide +kernel
theorem dL_law_319 : decode cL_law 319 = .ok (.iaload, 1) := by decide +kernel
theorem dL_law_320 : decode cL_law 320 = .ok (.invokevirtual 36, 3) := by decide +kernel
theorem dL_law_323 : decode cL_law 323 = .ok (.aload_n 2, 1) := by decide +kernel
theorem dL_law_324 : decode cL_law 324 = .ok (.aload_n 0, 1) := by decide +kernel
theorem dL_law_325 : decode cL_law 325 = .ok (.iload_n 3, 1) := by decide +kernel
theorem dL_law_326 : decode cL_law 326 = .ok (.iconst 1, 1) := by decide +kernel
theorem dL_law_327 : decode cL_law 327 = .ok (.iadd, 1) := by decide +kernel
theorem dL_law_328 : decode cL_law 328 = .ok (.iaload, 1) := by decide +kernel
theorem dL_law_329 : decode cL_law 329 = .ok (.aload_n 0, 1) := by decide +kernel
theorem dL_law_330 : decode cL_law 330 = .ok (.iload_n 3, 1) := by decide +kernel
theorem dL_law_331 : decode cL_law 331 = .ok (.iconst 2, 1) := by decide +kernel
theorem dL_law_332 : decode cL_law 332 = .ok (.iadd, 1) := by decide +kernel
theorem dL_law_333 : decode cL_law 333 = .ok (.iaload, 1) := by decide +kernel
theorem dL_law_334 : decode cL_law 334 = .ok (.invokevirtual 39, 3) := by decide +kernel
theorem dL_law_337 : decode cL_law 337 = .ok (.if_icmp .eq 427, 3) := by decide +kernel
theorem dL_law_340 : decode cL_law 340 = .ok (.iconst 0, 1) := by decide +kernel
theorem dL_law_341 : decode cL_law 341 = .ok (.ireturn, 1) := by decide +kernel
theorem dL_law_342 : decode cL_law 342 = .ok (.aload_n 1, 1) := by decide +kernel
theorem dL_law_343 : decode cL_law 343 = .ok (.aload_n 0, 1) := by decide +kernel
theorem dL_law_344 : decode cL_law 344 = .ok (.iload_n 3, 1) := by decide +kernel
theorem dL_law_345 : decode cL_law 345 = .ok (.iconst 1, 1) := by decide +kernel
theorem dL_law_346 : decode cL_law 346 = .ok (.iadd, 1) := by decide +kernel
theorem dL_law_347 : decode cL_law 347 = .ok (.iaload, 1) := by decide +kernel
theorem dL_law_348 : decode cL_law 348 = .ok (.aload_n 0, 1) := by decide +kernel
theorem dL_law_349 : decode cL_law 349 = .ok (.iload_n 3, 1) := by decide +kernel
theorem dL_law_350 : decode cL_law 350 = .ok (.iconst 2, 1) := by decide +kernel
theorem dL_law_351 : decode cL_law 351 = .ok (.iadd, 1) := by decide +kernel
theorem dL_law_352 : decode cL_law 352 = .ok (.iaload, 1) := by decide +kernel
theorem dL_law_353 : decode cL_law 353 = .ok (.aload_n 0, 1) := by decide +kernel
theorem dL_law_354 : decode cL_law 354 = .ok (.iload_n 3, 1) := by decide +kernel
theorem dL_law_355 : decode cL_law 355 = .ok (.iconst 3, 1) := by decide +kernel
theorem dL_law_356 : decode cL_law 356 = .ok (.iadd, 1) := by decide +kernel
theorem dL_law_357 : decode cL_law 357 = .ok (.iaload, 1) := by decide +kernel
theorem dL_law_358 : decode cL_law 358 = .ok (.aload_n 0, 1) := by decide +kernel
theorem dL_law_359 : decode cL_law 359 = .ok (.iload_n 3, 1) := by decide +kernel
theorem dL_law_360 : decode cL_law 360 = .ok (.iconst 4, 1) := by decide +kernel
theorem dL_law_361 : decode cL_law 361 = .ok (.iadd, 1) := by decide +kernel
theorem dL_law_362 : decode cL_law 362 = .ok (.iaload, 1) := by decide +kernel
theorem dL_law_363 : decode cL_law 363 = .ok (.aload_n 0, 1) := by decide +kernel
theorem dL_law_364 : decode cL_law 364 = .ok (.iload_n 3, 1) := by decide +kernel
theorem dL_law_365 : decode cL_law 365 = .ok (.iconst 5, 1) := by decide +kernel
theorem dL_law_366 : decode cL_law 366 = .ok (.iadd, 1) := by decide +kernel
theorem dL_law_367 : decode cL_law 367 = .ok (.iaload, 1) := by decide +kernel
theorem dL_law_368 : decode cL_law 368 = .ok (.invokevirtual 40, 3) := by decide +kernel
theorem dL_law_371 : decode cL_law 371 = .ok (.aload_n 2, 1) := by decide +kernel
theorem dL_law_372 : decode cL_law 372 = .ok (.aload_n 0, 1) := by decide +kernel
theorem dL_law_373 : decode cL_law 373 = .ok (.iload_n 3, 1) := by decide +kernel
theorem dL_law_374 : decode cL_law 374 = .ok (.iconst 1, 1) := by decide +kernel
theorem dL_law_375 : decode cL_law 375 = .ok (.iadd, 1) := by decide +kernel
theorem dL_law_376 : decode cL_law 376 = .ok (.iaload, 1) := by decide +kernel
theorem dL_law_377 : decode cL_law 377 = .ok (.aload_n 0, 1) := by decide +kernel
theorem dL_law_378 : decode cL_law 378 = .ok (.iload_n 3, 1) := by decide +kernel
theorem dL_law_379 : decode cL_law 379 = .ok (.iconst 2, 1) := by decide +kernel
theorem dL_law_380 : decode cL_law 380 = .ok (.iadd, 1) := by decide +kernel
theorem dL_law_381 : decode cL_law 381 = .ok (.iaload, 1) := by decide +kernel
theorem dL_law_382 : decode cL_law 382 = .ok (.aload_n 0, 1) := by decide +kernel
theorem dL_law_383 : decode cL_law 383 = .ok (.iload_n 3, 1) := by decide +kernel
theorem dL_law_384 : decode cL_law 384 = .ok (.iconst 3, 1) := by decide +kernel
theorem dL_law_385 : decode cL_law 385 = .ok (.iadd, 1) := by decide +kernel
theorem dL_law_386 : decode cL_law 386 = .ok (.iaload, 1) := by decide +kernel
theorem dL_law_387 : decode cL_law 387 = .ok (.aload_n 0, 1) := by decide +kernel
theorem dL_law_388 : decode cL_law 388 = .ok (.iload_n 3, 1) := by decide +kernel
theorem dL_law_389 : decode cL_law 389 = .ok (.iconst 4, 1) := by decide +kernel
theorem dL_law_390 : decode cL_law 390 = .ok (.iadd, 1) := by decide +kernel
theorem dL_law_391 : decode cL_law 391 = .ok (.iaload, 1) := by decide +kernel
theorem dL_law_392 : decode cL_law 392 = .ok (.aload_n 0, 1) := by decide +kernel
theorem dL_law_393 : decode cL_law 393 = .ok (.iload_n 3, 1) := by decide +kernel
theorem dL_law_394 : decode cL_law 394 = .ok (.iconst 5, 1) := by decide +kernel
theorem dL_law_395 : decode cL_law 395 = .ok (.iadd, 1) := by decide +kernel
theorem dL_law_396 : decode cL_law 396 = .ok (.iaload, 1) := by decide +kernel
theorem dL_law_397 : decode cL_law 397 = .ok (.invokevirtual 44, 3) := by decide +kernel
theorem dL_law_400 : decode cL_law 400 = .ok (.if_icmp .eq 364, 3) := by decide +kernel
theorem dL_law_403 : decode cL_law 403 = .ok (.iconst 0, 1) := by decide +kernel
theorem dL_law_404 : decode cL_law 404 = .ok (.ireturn, 1) := by decide +kernel
theorem dL_law_405 : decode cL_law 405 = .ok (.aload_n 1, 1) := by decide +kernel
theorem dL_law_406 : decode cL_law 406 = .ok (.invokevirtual 45, 3) := by decide +kernel
theorem dL_law_409 : decode cL_law 409 = .ok (.aload_n 2, 1) := by decide +kernel
theorem dL_law_410 : decode cL_law 410 = .ok (.invokevirtual 49, 3) := by decide +kernel
theorem dL_law_413 : decode cL_law 413 = .ok (.if_icmp .eq 351, 3) := by decide +kernel
theorem dL_law_416 : decode cL_law 416 = .ok (.iconst 0, 1) := by decide +kernel
theorem dL_law_417 : decode cL_law 417 = .ok (.ireturn, 1) := by decide +kernel
theorem dL_law_418 : decode cL_law 418 = .ok (.aload_n 1, 1) := by decide +kernel
theorem dL_law_419 : decode cL_law 419 = .ok (.aload_n 0, 1) := by decide +kernel
theorem dL_law_420 : decode cL_law 420 = .ok (.iload_n 3, 1) := by decide +kernel
theorem dL_law_421 : decode cL_law 421 = .ok (.iconst 1, 1) := by decide +kernel
theorem dL_law_422 : decode cL_law 422 = .ok (.iadd, 1) := by decide +kernel
theorem dL_law_423 : decode cL_law 423 = .ok (.iaload, 1) := by decide +kernel
theorem dL_law_424 : decode cL_law 424 = .ok (.aload_n 0, 1) := by decide +kernel
theorem dL_law_425 : decode cL_law 425 = .ok (.iload_n 3, 1) := by decide +kernel
theorem dL_law_426 : decode cL_law 426 = .ok (.iconst 2, 1) := by decide +kernel
theorem dL_law_427 : decode cL_law 427 = .ok (.iadd, 1) := by decide +kernel
theorem dL_law_428 : decode cL_law 428 = .ok (.iaload, 1) := by decide +kernel
theorem dL_law_429 : decode cL_law 429 = .ok (.invokevirtual 50, 3) := by decide +kernel
theorem dL_law_432 : decode cL_law 432 = .ok (.aload_n 2, 1) := by decide +kernel
theorem dL_law_433 : decode cL_law 433 = .ok (.aload_n 0, 1) := by decide +kernel
theorem dL_law_434 : decode cL_law 434 = .ok (.iload_n 3, 1) := by decide +kernel
theorem dL_law_435 : decode cL_law 435 = .ok (.iconst 1, 1) := by decide +kernel
theorem dL_law_436 : decode cL_law 436 = .ok (.iadd, 1) := by decide +kernel
theorem dL_law_437 : decode cL_law 437 = .ok (.iaload, 1) := by decide +kernel
theorem dL_law_438 : decode cL_law 438 = .ok (.aload_n 0, 1) := by decide +kernel
theorem dL_law_439 : decode cL_law 439 = .ok (.iload_n 3, 1) := by decide +kernel
theorem dL_law_440 : decode cL_law 440 = .ok (.iconst 2, 1) := by decide +kernel
theorem dL_law_441 : decode cL_law 441 = .ok (.iadd, 1) := by decide +kernel
theorem dL_law_442 : decode cL_law 442 = .ok (.iaload, 1) := by decide +kernel
theorem dL_law_443 : decode cL_law 443 = .ok (.invokevirtual 53, 3) := by decide +kernel
theorem dL_law_446 : decode cL_law 446 = .ok (.if_icmp .eq 318, 3) := by decide +kernel
theorem dL_law_449 : decode cL_law 449 = .ok (.iconst 0, 1) := by decide +kernel
theorem dL_law_450 : decode cL_law 450 = .ok (.ireturn, 1) := by decide +kernel
theorem dL_law_451 : decode cL_law 451 = .ok (.aload_n 1, 1) := by decide +kernel
theorem dL_law_452 : decode cL_law 452 = .ok (.aload_n 0, 1) := by decide +kernel
theorem dL_law_453 : decode cL_law 453 = .ok (.iload_n 3, 1) := by decide +kernel
theorem dL_law_454 : decode cL_law 454 = .ok (.iconst 1, 1) := by decide +kernel
theorem dL_law_455 : decode cL_law 455 = .ok (.iadd, 1) := by decide +kernel
theorem dL_law_456 : decode cL_law 456 = .ok (.iaload, 1) := by decide +kernel
theorem dL_law_457 : decode cL_law 457 = .ok (.aload_n 0, 1) := by decide +kernel
theorem dL_law_458 : decode cL_law 458 = .ok (.iload_n 3, 1) := by decide +kernel
theorem dL_law_459 : decode cL_law 459 = .ok (.iconst 2, 1) := by decide +kernel
theorem dL_law_460 : decode cL_law 460 = .ok (.iadd, 1) := by decide +kernel
theorem dL_law_461 : decode cL_law 461 = .ok (.iaload, 1) := by decide +kernel
theorem dL_law_462 : decode cL_law 462 = .ok (.invokevirtual 54, 3) := by decide +kernel
theorem dL_law_465 : decode cL_law 465 = .ok (.aload_n 2, 1) := by decide +kernel
theorem dL_law_466 : decode cL_law 466 = .ok (.aload_n 0, 1) := by decide +kernel
theorem dL_law_467 : decode cL_law 467 = .ok (.iload_n 3, 1) := by decide +kernel
theorem dL_law_468 : decode cL_law 468 = .ok (.iconst 1, 1) := by decide +kernel
theorem dL_law_469 : decode cL_law 469 = .ok (.iadd, 1) := by decide +kernel
theorem dL_law_470 : decode cL_law 470 = .ok (.iaload, 1) := by decide +kernel
theorem dL_law_471 : decode cL_law 471 = .ok (.aload_n 0, 1) := by decide +kernel
theorem dL_law_472 : decode cL_law 472 = .ok (.iload_n 3, 1) := by decide +kernel
theorem dL_law_473 : decode cL_law 473 = .ok (.iconst 2, 1) := by decide +kernel
theorem dL_law_474 : decode cL_law 474 = .ok (.iadd, 1) := by decide +kernel
theorem dL_law_475 : decode cL_law 475 = .ok (.iaload, 1) := by decide +kernel
theorem dL_law_476 : decode cL_law 476 = .ok (.invokevirtual 57, 3) := by decide +kernel
theorem dL_law_479 : decode cL_law 479 = .ok (.if_icmp .eq 285, 3) := by decide +kernel
theorem dL_law_482 : decode cL_law 482 = .ok (.iconst 0, 1) := by decide +kernel
theorem dL_law_483 : decode cL_law 483 = .ok (.ireturn, 1) := by decide +kernel
theorem dL_law_484 : decode cL_law 484 = .ok (.aload_n 1, 1) := by decide +kernel
theorem dL_law_485 : decode cL_law 485 = .ok (.aload_n 0, 1) := by decide +kernel
theorem dL_law_486 : decode cL_law 486 = .ok (.iload_n 3, 1) := by decide +kernel
theorem dL_law_487 : decode cL_law 487 = .ok (.iconst 1, 1) := by decide +kernel
theorem dL_law_488 : decode cL_law 488 = .ok (.iadd, 1) := by decide +kernel
theorem dL_law_489 : decode cL_law 489 = .ok (.iaload, 1) := by decide +kernel
theorem dL_law_490 : decode cL_law 490 = .ok (.aload_n 0, 1) := by decide +kernel
theorem dL_law_491 : decode cL_law 491 = .ok (.iload_n 3, 1) := by decide +kernel
theorem dL_law_492 : decode cL_law 492 = .ok (.iconst 2, 1) := by decide +kernel
theorem dL_law_493 : decode cL_law 493 = .ok (.iadd, 1) := by decide +kernel
theorem dL_law_494 : decode cL_law 494 = .ok (.iaload, 1) := by decide +kernel
theorem dL_law_495 : decode cL_law 495 = .ok (.aload_n 0, 1) := by decide +kernel
theorem dL_law_496 : decode cL_law 496 = .ok (.iload_n 3, 1) := by decide +kernel
theorem dL_law_497 : decode cL_law 497 = .ok (.iconst 3, 1) := by decide +kernel
theorem dL_law_498 : decode cL_law 498 = .ok (.iadd, 1) := by decide +kernel
theorem dL_law_499 : decode cL_law 499 = .ok (.iaload, 1) := by decide +kernel
theorem dL_law_500 : decode cL_law 500 = .ok (.invokevirtual 58, 3) := by decide +kernel
theorem dL_law_503 : decode cL_law 503 = .ok (.aload_n 2, 1) := by decide +kernel
theorem dL_law_504 : decode cL_law 504 = .ok (.aload_n 0, 1) := by decide +kernel
theorem dL_law_505 : decode cL_law 505 = .ok (.iload_n 3, 1) := by decide +kernel
theorem dL_law_506 : decode cL_law 506 = .ok (.iconst 1, 1) := by decide +kernel
theorem dL_law_507 : decode cL_law 507 = .ok (.iadd, 1) := by decide +kernel
theorem dL_law_508 : decode cL_law 508 = .ok (.iaload, 1) := by decide +kernel
theorem dL_law_509 : decode cL_law 509 = .ok (.aload_n 0, 1) := by decide +kernel
theorem dL_law_510 : decode cL_law 510 = .ok (.iload_n 3, 1) := by decide +kernel
theorem dL_law_511 : decode cL_law 511 = .ok (.iconst 2, 1) := by decide +kernel
theorem dL_law_512 : decode cL_law 512 = .ok (.iadd, 1) := by decide +kernel
theorem dL_law_513 : decode cL_law 513 = .ok (.iaload, 1) := by decide +kernel
theorem dL_law_514 : decode cL_law 514 = .ok (.aload_n 0, 1) := by decide +kernel
theorem dL_law_515 : decode cL_law 515 = .ok (.iload_n 3, 1) := by decide +kernel
theorem dL_law_516 : decode cL_law 516 = .ok (.iconst 3, 1) := by decide +kernel
theorem dL_law_517 : decode cL_law 517 = .ok (.iadd, 1) := by decide +kernel
theorem dL_law_518 : decode cL_law 518 = .ok (.iaload, 1) := by decide +kernel
theorem dL_law_519 : decode cL_law 519 = .ok (.invokevirtual 62, 3) := by decide +kernel
theorem dL_law_522 : decode cL_law 522 = .ok (.lcmp, 1) := by decide +kernel
theorem dL_law_523 : decode cL_law 523 = .ok (.ifCond .eq 241, 3) := by decide +kernel
theorem dL_law_526 : decode cL_law 526 = .ok (.iconst 0, 1) := by decide +kernel
theorem dL_law_527 : decode cL_law 527 = .ok (.ireturn, 1) := by decide +kernel
theorem dL_law_528 : decode cL_law 528 = .ok (.aload_n 1, 1) := by decide +kernel
theorem dL_law_529 : decode cL_law 529 = .ok (.aload_n 0, 1) := by decide +kernel
theorem dL_law_530 : decode cL_law 530 = .ok (.iload_n 3, 1) := by decide +kernel
theorem dL_law_531 : decode cL_law 531 = .ok (.iconst 1, 1) := by decide +kernel
theorem dL_law_532 : decode cL_law 532 = .ok (.iadd, 1) := by decide +kernel
theorem dL_law_533 : decode cL_law 533 = .ok (.iaload, 1) := by decide +kernel
theorem dL_law_534 : decode cL_law 534 = .ok (.aload_n 0, 1) := by decide +kernel
theorem dL_law_535 : decode cL_law 535 = .ok (.iload_n 3, 1) := by decide +kernel
theorem dL_law_536 : decode cL_law 536 = .ok (.iconst 2, 1) := by decide +kernel
theorem dL_law_537 : decode cL_law 537 = .ok (.iadd, 1) := by decide +kernel
theorem dL_law_538 : decode cL_law 538 = .ok (.iaload, 1) := by decide +kernel
theorem dL_law_539 : decode cL_law 539 = .ok (.aload_n 0, 1) := by decide +kernel
theorem dL_law_540 : decode cL_law 540 = .ok (.iload_n 3, 1) := by decide +kernel
theorem dL_law_541 : decode cL_law 541 = .ok (.iconst 3, 1) := by decide +kernel
theorem dL_law_542 : decode cL_law 542 = .ok (.iadd, 1) := by decide +kernel
theorem dL_law_543 : decode cL_law 543 = .ok (.iaload, 1) := by decide +kernel
theorem dL_law_544 : decode cL_law 544 = .ok (.aload_n 0, 1) := by decide +kernel
theorem dL_law_545 : decode cL_law 545 = .ok (.iload_n 3, 1) := by decide +kernel
theorem dL_law_546 : decode cL_law 546 = .ok (.iconst 4, 1) := by decide +kernel
theorem dL_law_547 : decode cL_law 547 = .ok (.iadd, 1) := by decide +kernel
theorem dL_law_548 : decode cL_law 548 = .ok (.iaload, 1) := by decide +kernel
theorem dL_law_549 : decode cL_law 549 = .ok (.invokevirtual 63, 3) := by decide +kernel
theorem dL_law_552 : decode cL_law 552 = .ok (.aload_n 2, 1) := by decide +kernel
theorem dL_law_553 : decode cL_law 553 = .ok (.aload_n 0, 1) := by decide +kernel
theorem dL_law_554 : decode cL_law 554 = .ok (.iload_n 3, 1) := by decide +kernel
theorem dL_law_555 : decode cL_law 555 = .ok (.iconst 1, 1) := by decide +kernel
theorem dL_law_556 : decode cL_law 556 = .ok (.iadd, 1) := by decide +kernel
theorem dL_law_557 : decode cL_law 557 = .ok (.iaload, 1) := by decide +kernel
theorem dL_law_558 : decode cL_law 558 = .ok (.aload_n 0, 1) := by decide +kernel
theorem dL_law_559 : decode cL_law 559 = .ok (.iload_n 3, 1) := by decide +kernel
theorem dL_law_560 : decode cL_law 560 = .ok (.iconst 2, 1) := by decide +kernel
theorem dL_law_561 : decode cL_law 561 = .ok (.iadd, 1) := by decide +kernel
theorem dL_law_562 : decode cL_law 562 = .ok (.iaload, 1) := by decide +kernel
theorem dL_law_563 : decode cL_law 563 = .ok (.aload_n 0, 1) := by decide +kernel
theorem dL_law_564 : decode cL_law 564 = .ok (.iload_n 3, 1) := by decide +kernel
theorem dL_law_565 : decode cL_law 565 = .ok (.iconst 3, 1) := by decide +kernel
theorem dL_law_566 : decode cL_law 566 = .ok (.iadd, 1) := by decide +kernel
theorem dL_law_567 : decode cL_law 567 = .ok (.iaload, 1) := by decide +kernel
theorem dL_law_568 : decode cL_law 568 = .ok (.aload_n 0, 1) := by decide +kernel
theorem dL_law_569 : decode cL_law 569 = .ok (.iload_n 3, 1) := by decide +kernel
theorem dL_law_570 : decode cL_law 570 = .ok (.iconst 4, 1) := by decide +kernel
theorem dL_law_571 : decode cL_law 571 = .ok (.iadd, 1) := by decide +kernel
theorem dL_law_572 : decode cL_law 572 = .ok (.iaload, 1) := by decide +kernel
theorem dL_law_573 : decode cL_law 573 = .ok (.invokevirtual 67, 3) := by decide +kernel
theorem dL_law_576 : decode cL_law 576 = .ok (.lcmp, 1) := by decide +kernel
theorem dL_law_577 : decode cL_law 577 = .ok (.ifCond .eq 187, 3) := by decide +kernel
theorem dL_law_580 : decode cL_law 580 = .ok (.iconst 0, 1) := by decide +kernel
theorem dL_law_581 : decode cL_law 581 = .ok (.ireturn, 1) := by decide +kernel
theorem dL_law_582 : decode cL_law 582 = .ok (.aload_n 1, 1) := by decide +kernel
theorem dL_law_583 : decode cL_law 583 = .ok (.invokevirtual 68, 3) := by decide +kernel
theorem dL_law_586 : decode cL_law 586 = .ok (.aload_n 2, 1) := by decide +kernel
theorem dL_law_587 : decode cL_law 587 = .ok (.invokevirtual 71, 3) := by decide +kernel
theorem dL_law_590 : decode cL_law 590 = .ok (.if_icmp .eq 174, 3) := by decide +kernel
theorem dL_law_593 : decode cL_law 593 = .ok (.iconst 0, 1) := by decide +kernel
theorem dL_law_594 : decode cL_law 594 = .ok (.ireturn, 1) := by decide +kernel
theorem dL_law_595 : decode cL_law 595 = .ok (.aload_n 1, 1) := by decide +kernel
theorem dL_law_596 : decode cL_law 596 = .ok (.aload_n 0, 1) := by decide +kernel
theorem dL_law_597 : decode cL_law 597 = .ok (.iload_n 3, 1) := by decide +kernel
theorem dL_law_598 : decode cL_law 598 = .ok (.iconst 1, 1) := by decide +kernel
theorem dL_law_599 : decode cL_law 599 = .ok (.iadd, 1) := by decide +kernel
theorem dL_law_600 : decode cL_law 600 = .ok (.iaload, 1) := by decide +kernel
theorem dL_law_601 : decode cL_law 601 = .ok (.aload_n 0, 1) := by decide +kernel
theorem dL_law_602 : decode cL_law 602 = .ok (.iload_n 3, 1) := by decide +kernel
theorem dL_law_603 : decode cL_law 603 = .ok (.iconst 2, 1) := by decide +kernel
theorem dL_law_604 : decode cL_law 604 = .ok (.iadd, 1) := by decide +kernel
theorem dL_law_605 : decode cL_law 605 = .ok (.iaload, 1) := by decide +kernel
theorem dL_law_606 : decode cL_law 606 = .ok (.invokevirtual 72, 3) := by decide +kernel
theorem dL_law_609 : decode cL_law 609 = .ok (.aload_n 2, 1) := by decide +kernel
theorem dL_law_610 : decode cL_law 610 = .ok (.aload_n 0, 1) := by decide +kernel
theorem dL_law_611 : decode cL_law 611 = .ok (.iload_n 3, 1) := by decide +kernel
theorem dL_law_612 : decode cL_law 612 = .ok (.iconst 1, 1) := by decide +kernel
theorem dL_law_613 : decode cL_law 613 = .ok (.iadd, 1) := by decide +kernel
theorem dL_law_614 : decode cL_law 614 = .ok (.iaload, 1) := by decide +kernel
theorem dL_law_615 : decode cL_law 615 = .ok (.aload_n 0, 1) := by decide +kernel
theorem dL_law_616 : decode cL_law 616 = .ok (.iload_n 3, 1) := by decide +kernel
theorem dL_law_617 : decode cL_law 617 = .ok (.iconst 2, 1) := by decide +kernel
theorem dL_law_618 : decode cL_law 618 = .ok (.iadd, 1) := by decide +kernel
theorem dL_law_619 : decode cL_law 619 = .ok (.iaload, 1) := by decide +kernel
theorem dL_law_620 : decode cL_law 620 = .ok (.invokevirtual 75, 3) := by decide +kernel
theorem dL_law_623 : decode cL_law 623 = .ok (.if_icmp .eq 141, 3) := by decide +kernel
theorem dL_law_626 : decode cL_law 626 = .ok (.iconst 0, 1) := by decide +kernel
theorem dL_law_627 : decode cL_law 627 = .ok (.ireturn, 1) := by decide +kernel
theorem dL_law_628 : decode cL_law 628 = .ok (.aload_n 1, 1) := by decide +kernel
theorem dL_law_629 : decode cL_law 629 = .ok (.aload_n 0, 1) := by decide +kernel
theorem dL_law_630 : decode cL_law 630 = .ok (.iload_n 3, 1) := by decide +kernel
theorem dL_law_631 : decode cL_law 631 = .ok (.iconst 1, 1) := by decide +kernel
theorem dL_law_632 : decode cL_law 632 = .ok (.iadd, 1) := by decide +kernel
theorem dL_law_633 : decode cL_law 633 = .ok (.iaload, 1) := by decide +kernel
theorem dL_law_634 : decode cL_law 634 = .ok (.aload_n 0, 1) := by decide +kernel
theorem dL_law_635 : decode cL_law 635 = .ok (.iload_n 3, 1) := by decide +kernel
theorem dL_law_636 : decode cL_law 636 = .ok (.iconst 2, 1) := by decide +kernel
theorem dL_law_637 : decode cL_law 637 = .ok (.iadd, 1) := by decide +kernel
theorem dL_law_638 : decode cL_law 638 = .ok (.iaload, 1) := by decide +kernel
theorem dL_law_639 : decode cL_law 639 = .ok (.invokevirtual 76, 3) := by decide +kernel
theorem dL_law_642 : decode cL_law 642 = .ok (.aload_n 2, 1) := by decide +kernel
theorem dL_law_643 : decode cL_law 643 = .ok (.aload_n 0, 1) := by decide +kernel
theorem dL_law_644 : decode cL_law 644 = .ok (.iload_n 3, 1) := by decide +kernel
theorem dL_law_645 : decode cL_law 645 = .ok (.iconst 1, 1) := by decide +kernel
theorem dL_law_646 : decode cL_law 646 = .ok (.iadd, 1) := by decide +kernel
theorem dL_law_647 : decode cL_law 647 = .ok (.iaload, 1) := by decide +kernel
theorem dL_law_648 : decode cL_law 648 = .ok (.aload_n 0, 1) := by decide +kernel
theorem dL_law_649 : decode cL_law 649 = .ok (.iload_n 3, 1) := by decide +kernel
theorem dL_law_650 : decode cL_law 650 = .ok (.iconst 2, 1) := by decide +kernel
theorem dL_law_651 : decode cL_law 651 = .ok (.iadd, 1) := by decide +kernel
theorem dL_law_652 : decode cL_law 652 = .ok (.iaload, 1) := by decide +kernel
theorem dL_law_653 : decode cL_law 653 = .ok (.invokevirtual 79, 3) := by decide +kernel
theorem dL_law_656 : decode cL_law 656 = .ok (.if_icmp .eq 108, 3) := by decide +kernel
theorem dL_law_659 : decode cL_law 659 = .ok (.iconst 0, 1) := by decide +kernel
theorem dL_law_660 : decode cL_law 660 = .ok (.ireturn, 1) := by decide +kernel
theorem dL_law_661 : decode cL_law 661 = .ok (.aload_n 1, 1) := by decide +kernel
theorem dL_law_662 : decode cL_law 662 = .ok (.aload_n 0, 1) := by decide +kernel
theorem dL_law_663 : decode cL_law 663 = .ok (.iload_n 3, 1) := by decide +kernel
theorem dL_law_664 : decode cL_law 664 = .ok (.iconst 1, 1) := by decide +kernel
theorem dL_law_665 : decode cL_law 665 = .ok (.iadd, 1) := by decide +kernel
theorem dL_law_666 : decode cL_law 666 = .ok (.iaload, 1) := by decide +kernel
theorem dL_law_667 : decode cL_law 667 = .ok (.aload_n 0, 1) := by decide +kernel
theorem dL_law_668 : decode cL_law 668 = .ok (.iload_n 3, 1) := by decide +kernel
theorem dL_law_669 : decode cL_law 669 = .ok (.iconst 2, 1) := by decide +kernel
theorem dL_law_670 : decode cL_law 670 = .ok (.iadd, 1) := by decide +kernel
theorem dL_law_671 : decode cL_law 671 = .ok (.iaload, 1) := by decide +kernel
theorem dL_law_672 : decode cL_law 672 = .ok (.invokevirtual 80, 3) := by decide +kernel
theorem dL_law_675 : decode cL_law 675 = .ok (.aload_n 2, 1) := by decide +kernel
theorem dL_law_676 : decode cL_law 676 = .ok (.aload_n 0, 1) := by decide +kernel
theorem dL_law_677 : decode cL_law 677 = .ok (.iload_n 3, 1) := by decide +kernel
theorem dL_law_678 : decode cL_law 678 = .ok (.iconst 1, 1) := by decide +kernel
theorem dL_law_679 : decode cL_law 679 = .ok (.iadd, 1) := by decide +kernel
theorem dL_law_680 : decode cL_law 680 = .ok (.iaload, 1) := by decide +kernel
theorem dL_law_681 : decode cL_law 681 = .ok (.aload_n 0, 1) := by decide +kernel
theorem dL_law_682 : decode cL_law 682 = .ok (.iload_n 3, 1) := by decide +kernel
theorem dL_law_683 : decode cL_law 683 = .ok (.iconst 2, 1) := by decide +kernel
theorem dL_law_684 : decode cL_law 684 = .ok (.iadd, 1) := by decide +kernel
theorem dL_law_685 : decode cL_law 685 = .ok (.iaload, 1) := by decide +kernel
theorem dL_law_686 : decode cL_law 686 = .ok (.invokevirtual 83, 3) := by decide +kernel
theorem dL_law_689 : decode cL_law 689 = .ok (.if_icmp .eq 75, 3) := by decide +kernel
theorem dL_law_692 : decode cL_law 692 = .ok (.iconst 0, 1) := by decide +kernel
theorem dL_law_693 : decode cL_law 693 = .ok (.ireturn, 1) := by decide +kernel
theorem dL_law_694 : decode cL_law 694 = .ok (.aload_n 1, 1) := by decide +kernel
theorem dL_law_695 : decode cL_law 695 = .ok (.aload_n 0, 1) := by decide +kernel
theorem dL_law_696 : decode cL_law 696 = .ok (.iload_n 3, 1) := by decide +kernel
theorem dL_law_697 : decode cL_law 697 = .ok (.iconst 1, 1) := by decide +kernel
theorem dL_law_698 : decode cL_law 698 = .ok (.iadd, 1) := by decide +kernel
theorem dL_law_699 : decode cL_law 699 = .ok (.iaload, 1) := by decide +kernel
theorem dL_law_700 : decode cL_law 700 = .ok (.aload_n 0, 1) := by decide +kernel
theorem dL_law_701 : decode cL_law 701 = .ok (.iload_n 3, 1) := by decide +kernel
theorem dL_law_702 : decode cL_law 702 = .ok (.iconst 2, 1) := by decide +kernel
theorem dL_law_703 : decode cL_law 703 = .ok (.iadd, 1) := by decide +kernel
theorem dL_law_704 : decode cL_law 704 = .ok (.iaload, 1) := by decide +kernel
theorem dL_law_705 : decode cL_law 705 = .ok (.invokevirtual 84, 3) := by decide +kernel
theorem dL_law_708 : decode cL_law 708 = .ok (.aload_n 2, 1) := by decide +kernel
theorem dL_law_709 : decode cL_law 709 = .ok (.aload_n 0, 1) := by decide +kernel
theorem dL_law_710 : decode cL_law 710 = .ok (.iload_n 3, 1) := by decide +kernel
theorem dL_law_711 : decode cL_law 711 = .ok (.iconst 1, 1) := by decide +kernel
theorem dL_law_712 : decode cL_law 712 = .ok (.iadd, 1) := by decide +kernel
theorem dL_law_713 : decode cL_law 713 = .ok (.iaload, 1) := by decide +kernel
theorem dL_law_714 : decode cL_law 714 = .ok (.aload_n 0, 1) := by decide +kernel
theorem dL_law_715 : decode cL_law 715 = .ok (.iload_n 3, 1) := by decide +kernel
theorem dL_law_716 : decode cL_law 716 = .ok (.iconst 2, 1) := by decide +kernel
theorem dL_law_717 : decode cL_law 717 = .ok (.iadd, 1) := by decide +kernel
theorem dL_law_718 : decode cL_law 718 = .ok (.iaload, 1) := by decide +kernel
theorem dL_law_719 : decode cL_law 719 = .ok (.invokevirtual 87, 3) := by decide +kernel
theorem dL_law_722 : decode cL_law 722 = .ok (.if_icmp .eq 42, 3) := by decide +kernel
theorem dL_law_725 : decode cL_law 725 = .ok (.iconst 0, 1) := by decide +kernel
theorem dL_law_726 : decode cL_law 726 = .ok (.ireturn, 1) := by decide +kernel
theorem dL_law_727 : decode cL_law 727 = .ok (.aload_n 1, 1) := by decide +kernel
theorem dL_law_728 : decode cL_law 728 = .ok (.aload_n 0, 1) := by decide +kernel
theorem dL_law_729 : decode cL_law 729 = .ok (.iload_n 3, 1) := by decide +kernel
theorem dL_law_730 : decode cL_law 730 = .ok (.iconst 1, 1) := by decide +kernel
theorem dL_law_731 : decode cL_law 731 = .ok (.iadd, 1) := by decide +kernel
theorem dL_law_732 : decode cL_law 732 = .ok (.iaload, 1) := by decide +kernel
theorem dL_law_733 : decode cL_law 733 = .ok (.invokevirtual 88, 3) := by decide +kernel
theorem dL_law_736 : decode cL_law 736 = .ok (.aload_n 2, 1) := by decide +kernel
theorem dL_law_737 : decode cL_law 737 = .ok (.aload_n 0, 1) := by decide +kernel
theorem dL_law_738 : decode cL_law 738 = .ok (.iload_n 3, 1) := by decide +kernel
theorem dL_law_739 : decode cL_law 739 = .ok (.iconst 1, 1) := by decide +kernel
theorem dL_law_740 : decode cL_law 740 = .ok (.iadd, 1) := by decide +kernel
theorem dL_law_741 : decode cL_law 741 = .ok (.iaload, 1) := by decide +kernel
theorem dL_law_742 : decode cL_law 742 = .ok (.invokevirtual 91, 3) := by decide +kernel
theorem dL_law_745 : decode cL_law 745 = .ok (.if_icmp .eq 19, 3) := by decide +kernel
theorem dL_law_748 : decode cL_law 748 = .ok (.iconst 0, 1) := by decide +kernel
theorem dL_law_749 : decode cL_law 749 = .ok (.ireturn, 1) := by decide +kernel
theorem dL_law_750 : decode cL_law 750 = .ok (.aload_n 1, 1) := by decide +kernel
theorem dL_law_751 : decode cL_law 751 = .ok (.invokevirtual 92, 3) := by decide +kernel
theorem dL_law_754 : decode cL_law 754 = .ok (.aload_n 2, 1) := by decide +kernel
theorem dL_law_755 : decode cL_law 755 = .ok (.invokevirtual 96, 3) := by decide +kernel
theorem dL_law_758 : decode cL_law 758 = .ok (.lcmp, 1) := by decide +kernel
theorem dL_law_759 : decode cL_law 759 = .ok (.ifCond .eq 5, 3) := by decide +kernel
theorem dL_law_762 : decode cL_law 762 = .ok (.iconst 0, 1) := by decide +kernel
theorem dL_law_763 : decode cL_law 763 = .ok (.ireturn, 1) := by decide +kernel
theorem dL_law_764 : decode cL_law 764 = .ok (.iinc 3 6, 3) := by decide +kernel
theorem dL_law_767 : decode cL_law 767 = .ok (.goto (-749), 3) := by decide +kernel
theorem dL_law_770 : decode cL_law 770 = .ok (.iconst 1, 1) := by decide +kernel
theorem dL_law_771 : decode cL_law 771 = .ok (.ireturn, 1) := by decide +kernel
end
section
/-! the pieces of the functions that stand for methods: what a run of a method answers, as a function that may have no answer -/
def jlet {α β : Type} (a : α) (f : α → β) : β := f a
theorem jlv {α β : Type} {a : α} {f : α → Option β} {r : β} (h : jlet a f = some r) {v : α} (e : v = a) : f v = some r := by
  subst e
  exact h
theorem jgd {β : Type} {c : Prop} [Decidable c] {t : Option β} {r : β} (h : (if c then t else none) = some r) : c ∧ t = some r := by
  by_cases hc : c
  · rw [if_pos hc] at h
    exact ⟨hc, h⟩
  · rw [if_neg hc] at h
    cases h
theorem jt {β : Type} {c : Prop} [Decidable c] {a b : Option β} {r : β} (h : (if c then a else b) = some r) (hc : c) : a = some r := by
  rwa [if_pos hc] at h
theorem jf {β : Type} {c : Prop} [Decidable c] {a b : Option β} {r : β} (h : (if c then a else b) = some r) (hc : ¬ c) : b = some r := by
  rwa [if_neg hc] at h
theorem jbd {α β : Type} {x : Option α} {f : α → Option β} {r : β} (h : x.bind f = some r) : ∃ o, x = some o ∧ f o = some r := Option.bind_eq_some_iff.mp h
theorem jsm {β : Type} {a r : β} (h : some a = some r) : r = a := (Option.some.inj h).symm
def jex {α ρ β : Type} (x : α ⊕ ρ) (f : α → Option β) (g : ρ → Option β) : Option β := match x with
  | .inl a => f a
  | .inr r => g r
theorem jin {i : Int32} {n : Nat} : vp_in i n ↔ 0 ≤ i ∧ i.toNatClampNeg < n := by
  unfold vp_in
  rw [not_or, Nat.not_le]
  refine and_congr_left (fun _ => ?_)
  rw [Int32.le_iff_toInt_le, Int32.lt_iff_toInt_lt, Int.not_lt]
def jok (i : Int32) (n : Nat) : Prop := vp_in i n
theorem jok_iff {i : Int32} {n : Nat} : jok i n ↔ 0 ≤ i ∧ i.toNatClampNeg < n := jin
/-! the frames of contracts -/
def jPre (D : va_G) (cl : List vw_C) (tys : List (ClassId × FieldType)) (w : va_W) (sz : Nat) : State → Prop := fun U => U.heap.size = sz ∧ va_P D cl w U.heap ∧ va_K D cl tys U ∧ va_D (fun _ => True) w
def jB (D : va_G) (cl : List vw_C) (tys : List (ClassId × FieldType)) (A : Nat → Prop) (w1 : va_W) : State → Prop := fun t => va_P D cl w1 t.heap ∧ va_K D cl tys t ∧ va_D A w1
def jQi (D : va_G) (cl : List vw_C) (tys : List (ClassId × FieldType)) (A : Nat → Prop) (w1 : va_W) (r : Int32) : Array Value → State → Outcome → State → Prop := va_Qi (fun x (_ : Unit) => x = r) (fun _ => jB D cl tys A w1) A
def jQl (D : va_G) (cl : List vw_C) (tys : List (ClassId × FieldType)) (A : Nat → Prop) (w1 : va_W) (r : Int64) : Array Value → State → Outcome → State → Prop := va_Ql (fun x (_ : Unit) => x = r) (fun _ => jB D cl tys A w1) A
def jQv (D : va_G) (cl : List vw_C) (tys : List (ClassId × FieldType)) (A : Nat → Prop) (w1 : va_W) : Array Value → State → Outcome → State → Prop := va_Qv (fun (_ : Unit) => True) (fun _ => jB D cl tys A w1) A
/-- a method over a world w that comes to the world w1 with the answer r -/
def JMi (l : Launch) (y : MethodName) (ws : List Cond) (rm : Room) (D : va_G) (cl : List vw_C) (tys : List (ClassId × FieldType)) (av : List Value) (w w1 : va_W) (r : Int32) : Prop := ∀ sz, Met l y ws rm (va_Pc av (jPre D cl tys w sz)) (jQi D cl tys (va_A w sz) w1 r) rm.cells rm.slots (va_A w sz)
def JMl (l : Launch) (y : MethodName) (ws : List Cond) (rm : Room) (D : va_G) (cl : List vw_C) (tys : List (ClassId × FieldType)) (av : List Value) (w w1 : va_W) (r : Int64) : Prop := ∀ sz, Met l y ws rm (va_Pc av (jPre D cl tys w sz)) (jQl D cl tys (va_A w sz) w1 r) rm.cells rm.slots (va_A w sz)
def JMv (l : Launch) (y : MethodName) (ws : List Cond) (rm : Room) (D : va_G) (cl : List vw_C) (tys : List (ClassId × FieldType)) (av : List Value) (w w1 : va_W) : Prop := ∀ sz, Met l y ws rm (va_Pc av (jPre D cl tys w sz)) (jQv D cl tys (va_A w sz) w1) rm.cells rm.slots (va_A w sz)
/-- a static method of numbers -/
def JSi (l : Launch) (y : MethodName) (ws : List Cond) (rm : Room) (av : List Value) (r : Int32) : Prop := Met l y ws rm (va_Pc av (fun _ => True)) (vp_Si (fun x => x = r)) 0 0 (fun _ => False)
def JSl (l : Launch) (y : MethodName) (ws : List Cond) (rm : Room) (av : List Value) (r : Int64) : Prop := Met l y ws rm (va_Pc av (fun _ => True)) (vp_Sl (fun x => x = r)) 0 0 (fun _ => False)
/-- what stays over a body -/
abbrev jC (p : Program) (s : State) (m : MethodId) (meth : Method) (c : Code) (cc : ByteArray) (nL : Nat) (args : Array Value) (Ts : List Cond) (y : MethodName) (ret : Option FieldType) : Prop := CallFix p m c cc nL s args Ts y.cls ∧ meth.sig.returnType = ret ∧ meth.locks = false ∧ meth.name = y.name
/-- what the heap is at a place of a body -/
def jS (D : va_G) (cl : List vw_C) (A : Nat → Prop) (w : va_W) (H0 H : Heap) (locs : List Loc) : Prop := va_P D cl w H ∧ va_D A w ∧ va_S A H0 H locs
section JENTRY
variable {l : Launch} {y : MethodName} {ws ws' : List Cond} {rm : Room} {D : va_G} {cl : List vw_C} {tys : List (ClassId × FieldType)} {av : List Value} {w w1 : va_W} {cc : ByteArray} {maxL : Nat} {rt : FieldType}
theorem JMi.of {r : Int32} (hy : plainName y.cls = true) (hw : ws = Cond.code y cc maxL (some rt) :: ws') (hle : (lg_sl av).length ≤ maxL)
    (body : ∀ (p : Program) (e : Env) (s : State) (m : MethodId) (below : List Frame) (meth : Method) (c : Code) (A : Nat → Prop) (ls : Array Slot), jC p s m meth c cc maxL av.toArray ws y (some rt) → va_K D cl tys s → (∀ q, s.heap.size ≤ q → A q) → jS D cl A w s.heap s.heap [] → lv_has ls maxL (lv_args 0 av) →
      W p l e rm s m av.toArray below meth c s.heap [] 0 0 (MQ below (jQi D cl tys A w1 r) av.toArray s rm.cells rm.slots A) (F0 m 0 ls [])) : JMi l y ws rm D cl tys av w w1 r := by
  intro sz
  refine Met.ofW (cc := cc) (maxL := maxL) (ret := some rt) hy hw ?_
  intro p e s m args below meth c s₁ B hml hv
  obtain ⟨rfl, hsz, hP, hK, hD0⟩ := hv
  subst hsz
  rw [lg_entry_eq]
  exact body p e s m below meth c (va_A w s.heap.size) _ ⟨⟨B.exec, B.bytes, hml, findClass_of_methodNamed B.named, atoms_spec (ws := ws) B.pre⟩, B.returns, B.notSynchronized, (name_of_methodNamed B.named B.method).1⟩ hK (fun q h => Or.inr h) ⟨hP, hD0.self (sz := s.heap.size), va_S.rf⟩ (lv_entry av hle)
theorem JMl.of {r : Int64} (hy : plainName y.cls = true) (hw : ws = Cond.code y cc maxL (some rt) :: ws') (hle : (lg_sl av).length ≤ maxL)
    (body : ∀ (p : Program) (e : Env) (s : State) (m : MethodId) (below : List Frame) (meth : Method) (c : Code) (A : Nat → Prop) (ls : Array Slot), jC p s m meth c cc maxL av.toArray ws y (some rt) → va_K D cl tys s → (∀ q, s.heap.size ≤ q → A q) → jS D cl A w s.heap s.heap [] → lv_has ls maxL (lv_args 0 av) →
      W p l e rm s m av.toArray below meth c s.heap [] 0 0 (MQ below (jQl D cl tys A w1 r) av.toArray s rm.cells rm.slots A) (F0 m 0 ls [])) : JMl l y ws rm D cl tys av w w1 r := by
  intro sz
  refine Met.ofW (cc := cc) (maxL := maxL) (ret := some rt) hy hw ?_
  intro p e s m args below meth c s₁ B hml hv
  obtain ⟨rfl, hsz, hP, hK, hD0⟩ := hv
  subst hsz
  rw [lg_entry_eq]
  exact body p e s m below meth c (va_A w s.heap.size) _ ⟨⟨B.exec, B.bytes, hml, findClass_of_methodNamed B.named, atoms_spec (ws := ws) B.pre⟩, B.returns, B.notSynchronized, (name_of_methodNamed B.named B.method).1⟩ hK (fun q h => Or.inr h) ⟨hP, hD0.self (sz := s.heap.size), va_S.rf⟩ (lv_entry av hle)
theorem JMv.of (hy : plainName y.cls = true) (hw : ws = Cond.code y cc maxL none :: ws') (hle : (lg_sl av).length ≤ maxL)
    (body : ∀ (p : Program) (e : Env) (s : State) (m : MethodId) (below : List Frame) (meth : Method) (c : Code) (A : Nat → Prop) (ls : Array Slot), jC p s m meth c cc maxL av.toArray ws y none → va_K D cl tys s → (∀ q, s.heap.size ≤ q → A q) → jS D cl A w s.heap s.heap [] → lv_has ls maxL (lv_args 0 av) →
      W p l e rm s m av.toArray below meth c s.heap [] 0 0 (MQ below (jQv D cl tys A w1) av.toArray s rm.cells rm.slots A) (F0 m 0 ls [])) : JMv l y ws rm D cl tys av w w1 := by
  intro sz
  refine Met.ofW (cc := cc) (maxL := maxL) (ret := none) hy hw ?_
  intro p e s m args below meth c s₁ B hml hv
  obtain ⟨rfl, hsz, hP, hK, hD0⟩ := hv
  subst hsz
  rw [lg_entry_eq]
  exact body p e s m below meth c (va_A w s.heap.size) _ ⟨⟨B.exec, B.bytes, hml, findClass_of_methodNamed B.named, atoms_spec (ws := ws) B.pre⟩, B.returns, B.notSynchronized, (name_of_methodNamed B.named B.method).1⟩ hK (fun q h => Or.inr h) ⟨hP, hD0.self (sz := s.heap.size), va_S.rf⟩ (lv_entry av hle)
theorem JSi.of {r : Int32} (hy : plainName y.cls = true) (hw : ws = Cond.code y cc maxL (some rt) :: ws') (hle : (lg_sl av).length ≤ maxL)
    (body : ∀ (p : Program) (e : Env) (s : State) (m : MethodId) (below : List Frame) (meth : Method) (c : Code) (ls : Array Slot), jC p s m meth c cc maxL av.toArray ws y (some rt) → lv_has ls maxL (lv_args 0 av) →
      W p l e rm s m av.toArray below meth c s.heap [] 0 0 (MQ below (vp_Si (fun x => x = r)) av.toArray s 0 0 (fun _ => False)) (F0 m 0 ls [])) : JSi l y ws rm av r := by
  refine Met.ofW (cc := cc) (maxL := maxL) (ret := some rt) hy hw ?_
  intro p e s m args below meth c s₁ B hml hv
  obtain ⟨rfl, -⟩ := hv
  rw [lg_entry_eq]
  exact body p e s m below meth c _ ⟨⟨B.exec, B.bytes, hml, findClass_of_methodNamed B.named, atoms_spec (ws := ws) B.pre⟩, B.returns, B.notSynchronized, (name_of_methodNamed B.named B.method).1⟩ (lv_entry av hle)
theorem JSl.of {r : Int64} (hy : plainName y.cls = true) (hw : ws = Cond.code y cc maxL (some rt) :: ws') (hle : (lg_sl av).length ≤ maxL)
    (body : ∀ (p : Program) (e : Env) (s : State) (m : MethodId) (below : List Frame) (meth : Method) (c : Code) (ls : Array Slot), jC p s m meth c cc maxL av.toArray ws y (some rt) → lv_has ls maxL (lv_args 0 av) →
      W p l e rm s m av.toArray below meth c s.heap [] 0 0 (MQ below (vp_Sl (fun x => x = r)) av.toArray s 0 0 (fun _ => False)) (F0 m 0 ls [])) : JSl l y ws rm av r := by
  refine Met.ofW (cc := cc) (maxL := maxL) (ret := some rt) hy hw ?_
  intro p e s m args below meth c s₁ B hml hv
  obtain ⟨rfl, -⟩ := hv
  rw [lg_entry_eq]
  exact body p e s m below meth c _ ⟨⟨B.exec, B.bytes, hml, findClass_of_methodNamed B.named, atoms_spec (ws := ws) B.pre⟩, B.returns, B.notSynchronized, (name_of_methodNamed B.named B.method).1⟩ (lv_entry av hle)
end JENTRY
section JBODY
variable {p : Program} {l : Launch} {e : Env} {R : Room} {s : State} {m : MethodId} {args : Array Value} {below : List Frame} {meth : Method} {c : Code} {H : Heap} {locs : List Loc} {cells slots : Nat} {Q : State → Prop}
variable {cc : ByteArray} {pc nL : Nat} {ls : Array Slot} {rest : List Value} {D : va_G} {cl : List vw_C} {A : Nat → Prop} {tys : List (ClassId × FieldType)} {w w1 : va_W} {Ts : List Cond} {y0 : MethodName} {rt : FieldType}
/-! ends -/
theorem j_iret {v r : Int32} (C : jC p s m meth c cc nL args Ts y0 (some rt)) (hn : narrow rt (.int v) = .int v) (hK : va_K D cl tys s) (hS : jS D cl A w1 s.heap H locs) (hv : v = r) (hdg : decode cc pc = .ok (.ireturn, 1)) :
    W p l e R s m args below meth c H locs cells slots (MQ below (jQi D cl tys A w1 r) args s cells slots A) (F0 m pc ls [.int v]) := by
  obtain ⟨⟨hx, hb, -⟩, hr, hlk, -⟩ := C
  subst hv
  exact W.zret hx hb hr hn (fun t ht hW => ⟨⟨v, (), rfl, rfl, by rw [ht]; exact hS.1, va_K.moved hW.alike hK, hS.2.1⟩, hS.2.2.F ht⟩) hS.2.2.2.2 hdg hlk
theorem j_lret {v r : Int64} (C : jC p s m meth c cc nL args Ts y0 (some .long)) (hK : va_K D cl tys s) (hS : jS D cl A w1 s.heap H locs) (hv : v = r) (hdg : decode cc pc = .ok (.lreturn, 1)) :
    W p l e R s m args below meth c H locs cells slots (MQ below (jQl D cl tys A w1 r) args s cells slots A) (F0 m pc ls [.long v]) := by
  obtain ⟨⟨hx, hb, -⟩, hr, hlk, -⟩ := C
  subst hv
  exact W.lret hx hb hr (fun t ht hW => ⟨⟨v, (), rfl, rfl, by rw [ht]; exact hS.1, va_K.moved hW.alike hK, hS.2.1⟩, hS.2.2.F ht⟩) hS.2.2.2.2 hdg hlk
theorem j_vret (C : jC p s m meth c cc nL args Ts y0 none) (hK : va_K D cl tys s) (hS : jS D cl A w1 s.heap H locs) (hdg : decode cc pc = .ok (.return_, 1)) :
    W p l e R s m args below meth c H locs cells slots (MQ below (jQv D cl tys A w1) args s cells slots A) (F0 m pc ls []) := by
  obtain ⟨⟨hx, hb, -⟩, hr, hlk, -⟩ := C
  exact W.vret hx hb hr (fun t ht hW => ⟨⟨(), rfl, trivial, by rw [ht]; exact hS.1, va_K.moved hW.alike hK, hS.2.1⟩, hS.2.2.F ht⟩) hS.2.2.2.2 hdg hlk
theorem j_sret {v r : Int32} (C : jC p s m meth c cc nL args Ts y0 (some rt)) (hn : narrow rt (.int v) = .int v) (hv : v = r) (hdg : decode cc pc = .ok (.ireturn, 1)) :
    W p l e R s m args below meth c s.heap [] cells slots (MQ below (vp_Si (fun x => x = r)) args s cells slots (fun _ => False)) (F0 m pc ls [.int v]) := by
  obtain ⟨⟨hx, hb, -⟩, hr, hlk, -⟩ := C
  subst hv
  exact W.zret hx hb hr hn (fun t ht hW => ⟨v, rfl, rfl, ht⟩) (fun q h => by cases h) hdg hlk
theorem j_slret {v r : Int64} (C : jC p s m meth c cc nL args Ts y0 (some .long)) (hv : v = r) (hdg : decode cc pc = .ok (.lreturn, 1)) :
    W p l e R s m args below meth c s.heap [] cells slots (MQ below (vp_Sl (fun x => x = r)) args s cells slots (fun _ => False)) (F0 m pc ls [.long v]) := by
  obtain ⟨⟨hx, hb, -⟩, hr, hlk, -⟩ := C
  subst hv
  exact W.lret hx hb hr (fun t ht hW => ⟨v, rfl, rfl, ht⟩) (fun q h => by cases h) hdg hlk
/-! compares of longs -/
theorem jl_eq (hx : p.tables.exec = Jvm.exec) (hb : c.code = cc) {x y : Int64} {off : Int} {tgt : Nat} (h1 : decode cc pc = .ok (.lcmp, 1)) (h2 : decode cc (pc + 1) = .ok (.ifCond .eq off, 3)) (ht : ((pc + 1 : Nat) : Int) + off = (tgt : Int)) (kt : x = y → W p l e R s m args below meth c H locs cells slots Q (F0 m tgt ls rest)) (kf : ¬ x = y → W p l e R s m args below meth c H locs cells slots Q (F0 m (pc + 1 + 3) ls rest)) : W p l e R s m args below meth c H locs cells slots Q (F0 m pc ls (.long y :: .long x :: rest)) :=
  W.lcmp hx hb h1 (lv_if_eq hx hb h2 ht (fun h => kt ((lg_cmp_eq x y).mp h)) (fun h => kf (fun q => h ((lg_cmp_eq x y).mpr q))))
theorem jl_ne (hx : p.tables.exec = Jvm.exec) (hb : c.code = cc) {x y : Int64} {off : Int} {tgt : Nat} (h1 : decode cc pc = .ok (.lcmp, 1)) (h2 : decode cc (pc + 1) = .ok (.ifCond .ne off, 3)) (ht : ((pc + 1 : Nat) : Int) + off = (tgt : Int)) (kt : ¬ x = y → W p l e R s m args below meth c H locs cells slots Q (F0 m tgt ls rest)) (kf : x = y → W p l e R s m args below meth c H locs cells slots Q (F0 m (pc + 1 + 3) ls rest)) : W p l e R s m args below meth c H locs cells slots Q (F0 m pc ls (.long y :: .long x :: rest)) :=
  W.lcmp hx hb h1 (lv_if_ne hx hb h2 ht (fun h => kt (fun q => h ((lg_cmp_eq x y).mpr q))) (fun h => kf ((lg_cmp_eq x y).mp h)))
theorem jl_lt (hx : p.tables.exec = Jvm.exec) (hb : c.code = cc) {x y : Int64} {off : Int} {tgt : Nat} (h1 : decode cc pc = .ok (.lcmp, 1)) (h2 : decode cc (pc + 1) = .ok (.ifCond .lt off, 3)) (ht : ((pc + 1 : Nat) : Int) + off = (tgt : Int)) (kt : x < y → W p l e R s m args below meth c H locs cells slots Q (F0 m tgt ls rest)) (kf : ¬ x < y → W p l e R s m args below meth c H locs cells slots Q (F0 m (pc + 1 + 3) ls rest)) : W p l e R s m args below meth c H locs cells slots Q (F0 m pc ls (.long y :: .long x :: rest)) :=
  W.lcmp hx hb h1 (lv_if_lt hx hb h2 ht (fun h => kt ((lg_cmp_lt x y).mp h)) (fun h => kf (fun q => h ((lg_cmp_lt x y).mpr q))))
theorem jl_ge (hx : p.tables.exec = Jvm.exec) (hb : c.code = cc) {x y : Int64} {off : Int} {tgt : Nat} (h1 : decode cc pc = .ok (.lcmp, 1)) (h2 : decode cc (pc + 1) = .ok (.ifCond .ge off, 3)) (ht : ((pc + 1 : Nat) : Int) + off = (tgt : Int)) (kt : y ≤ x → W p l e R s m args below meth c H locs cells slots Q (F0 m tgt ls rest)) (kf : ¬ y ≤ x → W p l e R s m args below meth c H locs cells slots Q (F0 m (pc + 1 + 3) ls rest)) : W p l e R s m args below meth c H locs cells slots Q (F0 m pc ls (.long y :: .long x :: rest)) :=
  W.lcmp hx hb h1 (lv_if_ge hx hb h2 ht (fun h => kt ((lg_cmp_ge x y).mp h)) (fun h => kf (fun q => h ((lg_cmp_ge x y).mpr q))))
theorem jl_gt (hx : p.tables.exec = Jvm.exec) (hb : c.code = cc) {x y : Int64} {off : Int} {tgt : Nat} (h1 : decode cc pc = .ok (.lcmp, 1)) (h2 : decode cc (pc + 1) = .ok (.ifCond .gt off, 3)) (ht : ((pc + 1 : Nat) : Int) + off = (tgt : Int)) (kt : y < x → W p l e R s m args below meth c H locs cells slots Q (F0 m tgt ls rest)) (kf : ¬ y < x → W p l e R s m args below meth c H locs cells slots Q (F0 m (pc + 1 + 3) ls rest)) : W p l e R s m args below meth c H locs cells slots Q (F0 m pc ls (.long y :: .long x :: rest)) :=
  W.lcmp hx hb h1 (lv_if_gt hx hb h2 ht (fun h => kt ((lg_cmp_gt x y).mp h)) (fun h => kf (fun q => h ((lg_cmp_gt x y).mpr q))))
theorem jl_le (hx : p.tables.exec = Jvm.exec) (hb : c.code = cc) {x y : Int64} {off : Int} {tgt : Nat} (h1 : decode cc pc = .ok (.lcmp, 1)) (h2 : decode cc (pc + 1) = .ok (.ifCond .le off, 3)) (ht : ((pc + 1 : Nat) : Int) + off = (tgt : Int)) (kt : x ≤ y → W p l e R s m args below meth c H locs cells slots Q (F0 m tgt ls rest)) (kf : ¬ x ≤ y → W p l e R s m args below meth c H locs cells slots Q (F0 m (pc + 1 + 3) ls rest)) : W p l e R s m args below meth c H locs cells slots Q (F0 m pc ls (.long y :: .long x :: rest)) :=
  W.lcmp hx hb h1 (lv_if_le hx hb h2 ht (fun h => kt ((lg_cmp_le x y).mp h)) (fun h => kf (fun q => h ((lg_cmp_le x y).mpr q))))
end JBODY
end
section
/-- what a call needs of the caller's world, and what it gives back: the callee has wc and leaves w1; the caller had w and has wf -/
def jCut (D : va_G) (cl : List vw_C) (A : Nat → Prop) (w wf : va_W) (H0 H : Heap) (locs : List Loc) (wc w1 : va_W) : Prop :=
  (va_P D cl wc H ∧ va_D (fun _ => True) wc) ∧ (∀ q, va_A wc H.size q → A q) ∧ ∀ (H1 : Heap) (locs1 : List Loc), (∀ q : Nat, q < H.size → ¬ va_A wc H.size q → H1[q]? = H[q]?) → va_P D cl w1 H1 → va_D (va_A wc H.size) w1 → va_S A H0 H1 locs1 → jS D cl A wf H0 H1 locs1
theorem jPre_blind {av : List Value} {D : va_G} {cl : List vw_C} {tys : List (ClassId × FieldType)} {w : va_W} {sz : Nat} : FrameBlind (va_Pc av (jPre D cl tys w sz)) := fun a U g mk q => by
  obtain ⟨q0, q1, qP, qK, qD⟩ := q
  exact ⟨q0, q1, qP, va_K.moved (u := U) (U := U.calling g mk a) (Vm.Alike.refl U.vm) qK, qD⟩
section JCUT
variable {D : va_G} {cl : List vw_C} {A : Nat → Prop} {w wc w1 : va_W} {H0 H : Heap} {locs : List Loc}
/-- the callee has the whole world -/
theorem jcut_all (hA : ∀ q, H0.size ≤ q → A q) (hS : jS D cl A w H0 H locs) : jCut D cl A w w1 H0 H locs w w1 := by
  obtain ⟨hP, hD, hS⟩ := hS
  have hF : ∀ q, va_A w H.size q → A q := fun q h => by
    rcases h with ⟨k, e, h⟩ | h
    · exact hD.2 k (q, e) h
    · exact hA q (Nat.le_trans hS.1 h)
  exact ⟨⟨hP, hD.weaken (fun _ _ _ _ => trivial)⟩, hF, fun H1 locs1 hk hP1 hD1 hS1 => ⟨hP1, hD1.weaken (fun _ _ _ h => hF _ h), hS1⟩⟩
/-- the callee has the cells at the places isC; isF says where the cells of the new world come from -/
theorem jcut_at {wr wf : va_W} (hA : ∀ q, H0.size ≤ q → A q) (hS : jS D cl A w H0 H locs) (isC isR isF : List Nat) (hC : isC.map (fun i => w[i]?) = wc.map some) (hR : isR.map (fun i => w[i]?) = wr.map some) (hF : isF.map (fun i => (wr ++ w1)[i]?) = wf.map some) (hn : va_nd isC = true ∧ va_nd isR = true ∧ va_nd isF = true ∧ ∀ i ∈ isR, i ∉ isC) : jCut D cl A w wf H0 H locs wc w1 := by
  obtain ⟨hP, hD, hS⟩ := hS
  obtain ⟨n1, n2, n3, n4⟩ := hn
  have hFr := va_free hD hS hA isC hC
  have hDc := hD.sub isC n1 hC
  refine ⟨⟨fun k q hk => ?_, hDc.weaken (fun _ _ _ _ => trivial)⟩, hFr, fun H1 locs1 hk hP1 hD1 hS1 => ?_⟩
  · have h1 : (isC.map (fun i => w[i]?))[k]? = some (some q) := by rw [hC, List.getElem?_map, hk]; rfl
    rw [List.getElem?_map] at h1
    cases hi : isC[k]? with
    | none => rw [hi] at h1; cases h1
    | some i => rw [hi] at h1; exact hP i q (Option.some.inj h1)
  · obtain ⟨g1, g2⟩ := va_join hP hD isC isR hC hR n2 n4 hk hFr hP1 hD1
    have hDf := g2.sub isF n3 hF
    refine ⟨fun k q hk => ?_, hDf, hS1⟩
    have h1 : (isF.map (fun i => (wr ++ w1)[i]?))[k]? = some (some q) := by rw [hF, List.getElem?_map, hk]; rfl
    rw [List.getElem?_map] at h1
    cases hi : isF[k]? with
    | none => rw [hi] at h1; cases h1
    | some i => rw [hi] at h1; exact g1 i q (Option.some.inj h1)
end JCUT
section JCALL
variable {p : Program} {l : Launch} {e : Env} {R : Room} {s : State} {m : MethodId} {args : Array Value} {below : List Frame} {meth : Method} {c : Code} {H : Heap} {locs : List Loc} {cells slots : Nat} {Q : State → Prop}
variable {cc : ByteArray} {pc nL : Nat} {ls : Array Slot} {rest : List Value} {D : va_G} {cl : List vw_C} {A : Nat → Prop} {tys : List (ClassId × FieldType)} {w wf wc w1 : va_W} {Ts : List Cond} {y0 : MethodName} {rtt : Option FieldType}
variable {index maxL n b q0 ci : Nat} {y : MethodName} {bytes : ByteArray} {ret : Option FieldType} {ws : List Cond} {rm : Room} {As st0 : List Value} {vc : vw_C} {fs : List Value}
theorem j_Vi {r : Int32} (C : jC p s m meth c cc nL args Ts y0 rtt) (hK : va_K D cl tys s) (hS : jS D cl A w s.heap H locs) (k : jCut D cl A w wf s.heap H locs wc w1) (hM : JMi l y ws rm D cl tys (.ref b :: As) wc w1 r)
    (cw : CallW R s args y0.cls vc.1 index y bytes maxL ret ws rm rm.cells rm.slots n) (hq : wc[q0]? = some (b, .inr (ci, fs))) (hc : cl[ci]? = some vc) (hn : As.length = n) (hsz : ls.size = nL) (hst : st0 = As.reverse ++ .ref b :: rest) (hW : (rest.map fun v => v.category).sum ≤ 8) (hdg : decode cc pc = .ok (.invokevirtual index, 3)) (hf : cells + rm.cells ≤ R.cells ∧ slots + rm.slots ≤ R.slots)
    (kk : ∀ (H1 : Heap) (locs1 : List Loc), jS D cl A wf s.heap H1 locs1 → W p l e R s m args below meth c H1 locs1 (cells + rm.cells) (slots + rm.slots) Q (F0 m (pc + 3) ls (.int r :: rest))) : W p l e R s m args below meth c H locs cells slots Q (F0 m pc ls st0) := by
  obtain ⟨⟨hPc, hDc⟩, hF, hJ⟩ := k
  subst hst
  refine va_calli (va_runV (As := As) (rest := rest) C.1 (hM H.size) cw ⟨jPre_blind, va_recv hK hPc hc hq, fun U hU hWm => ⟨rfl, by rw [hU], by rw [hU]; exact hPc, va_K.moved hWm.alike hK, hDc⟩⟩ rfl hn hsz rfl (lv_room hW) hdg hf) hS.2.2 (fun q _ h => hF q h) hF (fun r' u t H1 locs1 ht hvm hw hB hz hk hS1 => ?_)
  subst hw
  exact kk H1 locs1 (hJ H1 locs1 hk (by rw [← ht]; exact hB.1) hB.2.2 hS1)
theorem j_Vl {r : Int64} (C : jC p s m meth c cc nL args Ts y0 rtt) (hK : va_K D cl tys s) (hS : jS D cl A w s.heap H locs) (k : jCut D cl A w wf s.heap H locs wc w1) (hM : JMl l y ws rm D cl tys (.ref b :: As) wc w1 r)
    (cw : CallW R s args y0.cls vc.1 index y bytes maxL ret ws rm rm.cells rm.slots n) (hq : wc[q0]? = some (b, .inr (ci, fs))) (hc : cl[ci]? = some vc) (hn : As.length = n) (hsz : ls.size = nL) (hst : st0 = As.reverse ++ .ref b :: rest) (hW : (rest.map fun v => v.category).sum ≤ 8) (hdg : decode cc pc = .ok (.invokevirtual index, 3)) (hf : cells + rm.cells ≤ R.cells ∧ slots + rm.slots ≤ R.slots)
    (kk : ∀ (H1 : Heap) (locs1 : List Loc), jS D cl A wf s.heap H1 locs1 → W p l e R s m args below meth c H1 locs1 (cells + rm.cells) (slots + rm.slots) Q (F0 m (pc + 3) ls (.long r :: rest))) : W p l e R s m args below meth c H locs cells slots Q (F0 m pc ls st0) := by
  obtain ⟨⟨hPc, hDc⟩, hF, hJ⟩ := k
  subst hst
  refine va_calll (va_runV (As := As) (rest := rest) C.1 (hM H.size) cw ⟨jPre_blind, va_recv hK hPc hc hq, fun U hU hWm => ⟨rfl, by rw [hU], by rw [hU]; exact hPc, va_K.moved hWm.alike hK, hDc⟩⟩ rfl hn hsz rfl (lv_room hW) hdg hf) hS.2.2 (fun q _ h => hF q h) hF (fun r' u t H1 locs1 ht hvm hw hB hz hk hS1 => ?_)
  subst hw
  exact kk H1 locs1 (hJ H1 locs1 hk (by rw [← ht]; exact hB.1) hB.2.2 hS1)
theorem j_Vv (C : jC p s m meth c cc nL args Ts y0 rtt) (hK : va_K D cl tys s) (hS : jS D cl A w s.heap H locs) (k : jCut D cl A w wf s.heap H locs wc w1) (hM : JMv l y ws rm D cl tys (.ref b :: As) wc w1)
    (cw : CallW R s args y0.cls vc.1 index y bytes maxL ret ws rm rm.cells rm.slots n) (hq : wc[q0]? = some (b, .inr (ci, fs))) (hc : cl[ci]? = some vc) (hn : As.length = n) (hsz : ls.size = nL) (hst : st0 = As.reverse ++ .ref b :: rest) (hW : (rest.map fun v => v.category).sum ≤ 8) (hdg : decode cc pc = .ok (.invokevirtual index, 3)) (hf : cells + rm.cells ≤ R.cells ∧ slots + rm.slots ≤ R.slots)
    (kk : ∀ (H1 : Heap) (locs1 : List Loc), jS D cl A wf s.heap H1 locs1 → W p l e R s m args below meth c H1 locs1 (cells + rm.cells) (slots + rm.slots) Q (F0 m (pc + 3) ls rest)) : W p l e R s m args below meth c H locs cells slots Q (F0 m pc ls st0) := by
  obtain ⟨⟨hPc, hDc⟩, hF, hJ⟩ := k
  subst hst
  refine va_callv (va_runV (As := As) (rest := rest) C.1 (hM H.size) cw ⟨jPre_blind, va_recv hK hPc hc hq, fun U hU hWm => ⟨rfl, by rw [hU], by rw [hU]; exact hPc, va_K.moved hWm.alike hK, hDc⟩⟩ rfl hn hsz rfl (lv_room hW) hdg hf) hS.2.2 (fun q _ h => hF q h) hF (fun u t H1 locs1 ht hvm hw hB hz hk hS1 => ?_)
  exact kk H1 locs1 (hJ H1 locs1 hk (by rw [← ht]; exact hB.1) hB.2.2 hS1)
/-! a constructor, or a method of the class above, by invokespecial -/
theorem j_Iv (C : jC p s m meth c cc nL args Ts y0 rtt) (hK : va_K D cl tys s) (hS : jS D cl A w s.heap H locs) (k : jCut D cl A w wf s.heap H locs wc w1) (hM : JMv l y ws rm D cl tys (.ref b :: As) wc w1)
    (cw : CallB R s args y0.cls index y bytes maxL none ws rm rm.cells rm.slots n ∧ y.name = "<init>" ∧ (Cond.instanceMethod y).before args s = true) (hn : As.length = n) (hsz : ls.size = nL) (hst : st0 = As.reverse ++ .ref b :: rest) (hW : (rest.map fun v => v.category).sum ≤ 8) (hdg : decode cc pc = .ok (.invokespecial index, 3)) (hf : cells + rm.cells ≤ R.cells ∧ slots + rm.slots ≤ R.slots)
    (kk : ∀ (H1 : Heap) (locs1 : List Loc), jS D cl A wf s.heap H1 locs1 → W p l e R s m args below meth c H1 locs1 (cells + rm.cells) (slots + rm.slots) Q (F0 m (pc + 3) ls rest)) : W p l e R s m args below meth c H locs cells slots Q (F0 m pc ls st0) := by
  obtain ⟨⟨hPc, hDc⟩, hF, hJ⟩ := k
  subst hst
  refine va_callv (va_runI (As := As) (rest := rest) C.1 (hM H.size) cw ⟨jPre_blind, fun U hU hWm => ⟨rfl, by rw [hU], by rw [hU]; exact hPc, va_K.moved hWm.alike hK, hDc⟩⟩ rfl hn hsz rfl (lv_room hW) hdg hf) hS.2.2 (fun q _ h => hF q h) hF (fun u t H1 locs1 ht hvm hw hB hz hk hS1 => ?_)
  exact kk H1 locs1 (hJ H1 locs1 hk (by rw [← ht]; exact hB.1) hB.2.2 hS1)
/-! a static method that has a world -/
theorem j_Si {r : Int32} (C : jC p s m meth c cc nL args Ts y0 rtt) (hK : va_K D cl tys s) (hS : jS D cl A w s.heap H locs) (k : jCut D cl A w wf s.heap H locs wc w1) (hM : JMi l y ws rm D cl tys As wc w1 r)
    (cw : CallB R s args y0.cls index y bytes maxL ret ws rm rm.cells rm.slots n ∧ (Cond.static y).before args s = true) (hn : As.length = n) (hsz : ls.size = nL) (hst : st0 = As.reverse ++ rest) (hW : (rest.map fun v => v.category).sum ≤ 8) (hdg : decode cc pc = .ok (.invokestatic index, 3)) (hf : cells + rm.cells ≤ R.cells ∧ slots + rm.slots ≤ R.slots)
    (kk : ∀ (H1 : Heap) (locs1 : List Loc), jS D cl A wf s.heap H1 locs1 → W p l e R s m args below meth c H1 locs1 (cells + rm.cells) (slots + rm.slots) Q (F0 m (pc + 3) ls (.int r :: rest))) : W p l e R s m args below meth c H locs cells slots Q (F0 m pc ls st0) := by
  obtain ⟨⟨hPc, hDc⟩, hF, hJ⟩ := k
  subst hst
  refine va_calli (va_runS (As := As) (rest := rest) C.1 (hM H.size) cw ⟨jPre_blind, fun U hU hWm => ⟨rfl, by rw [hU], by rw [hU]; exact hPc, va_K.moved hWm.alike hK, hDc⟩⟩ rfl hn hsz rfl (lv_room hW) hdg hf) hS.2.2 (fun q _ h => hF q h) hF (fun r' u t H1 locs1 ht hvm hw hB hz hk hS1 => ?_)
  subst hw
  exact kk H1 locs1 (hJ H1 locs1 hk (by rw [← ht]; exact hB.1) hB.2.2 hS1)
theorem j_Sl {r : Int64} (C : jC p s m meth c cc nL args Ts y0 rtt) (hK : va_K D cl tys s) (hS : jS D cl A w s.heap H locs) (k : jCut D cl A w wf s.heap H locs wc w1) (hM : JMl l y ws rm D cl tys As wc w1 r)
    (cw : CallB R s args y0.cls index y bytes maxL ret ws rm rm.cells rm.slots n ∧ (Cond.static y).before args s = true) (hn : As.length = n) (hsz : ls.size = nL) (hst : st0 = As.reverse ++ rest) (hW : (rest.map fun v => v.category).sum ≤ 8) (hdg : decode cc pc = .ok (.invokestatic index, 3)) (hf : cells + rm.cells ≤ R.cells ∧ slots + rm.slots ≤ R.slots)
    (kk : ∀ (H1 : Heap) (locs1 : List Loc), jS D cl A wf s.heap H1 locs1 → W p l e R s m args below meth c H1 locs1 (cells + rm.cells) (slots + rm.slots) Q (F0 m (pc + 3) ls (.long r :: rest))) : W p l e R s m args below meth c H locs cells slots Q (F0 m pc ls st0) := by
  obtain ⟨⟨hPc, hDc⟩, hF, hJ⟩ := k
  subst hst
  refine va_calll (va_runS (As := As) (rest := rest) C.1 (hM H.size) cw ⟨jPre_blind, fun U hU hWm => ⟨rfl, by rw [hU], by rw [hU]; exact hPc, va_K.moved hWm.alike hK, hDc⟩⟩ rfl hn hsz rfl (lv_room hW) hdg hf) hS.2.2 (fun q _ h => hF q h) hF (fun r' u t H1 locs1 ht hvm hw hB hz hk hS1 => ?_)
  subst hw
  exact kk H1 locs1 (hJ H1 locs1 hk (by rw [← ht]; exact hB.1) hB.2.2 hS1)
/-! a static method of numbers -/
theorem j_Pi {r : Int32} (C : jC p s m meth c cc nL args Ts y0 rtt) (hM : JSi l y ws rm As r)
    (cw : CallB R s args y0.cls index y bytes maxL ret ws rm 0 0 n ∧ (Cond.static y).before args s = true) (hn : As.length = n) (hsz : ls.size = nL) (hst : st0 = As.reverse ++ rest) (hW : (rest.map fun v => v.category).sum ≤ 8) (hdg : decode cc pc = .ok (.invokestatic index, 3)) (hf : cells ≤ R.cells ∧ slots ≤ R.slots)
    (kk : W p l e R s m args below meth c H locs cells slots Q (F0 m (pc + 3) ls (.int r :: rest))) : W p l e R s m args below meth c H locs cells slots Q (F0 m pc ls st0) := by
  subst hst
  intro T hT X
  obtain ⟨v, st₀, t, T', L, h0, X', hL, e1, e2, ⟨r', hv, hp, hh⟩, st⟩ := va_runS (H := H) (locs := locs) (cells := cells) (slots := slots) (g := F0 m pc ls (As.reverse ++ rest)) (As := As) (rest := rest) C.1 hM cw ⟨fun a U g mk q => q, fun U hU hWm => ⟨rfl, trivial⟩⟩ rfl hn hsz rfl (lv_room hW) hdg hf T hT X
  cases hv
  have hL0 : L = [] := List.eq_nil_iff_forall_not_mem.mpr (fun q h => hL q h)
  subst hL0
  subst hp
  rw [List.append_nil] at X'
  obtain ⟨t2, a1, b1⟩ := kk T' (by rw [e1, hh, h0]) X'
  exact ⟨t2, st t2 a1, b1⟩
theorem j_Pl {r : Int64} (C : jC p s m meth c cc nL args Ts y0 rtt) (hM : JSl l y ws rm As r)
    (cw : CallB R s args y0.cls index y bytes maxL ret ws rm 0 0 n ∧ (Cond.static y).before args s = true) (hn : As.length = n) (hsz : ls.size = nL) (hst : st0 = As.reverse ++ rest) (hW : (rest.map fun v => v.category).sum ≤ 8) (hdg : decode cc pc = .ok (.invokestatic index, 3)) (hf : cells ≤ R.cells ∧ slots ≤ R.slots)
    (kk : W p l e R s m args below meth c H locs cells slots Q (F0 m (pc + 3) ls (.long r :: rest))) : W p l e R s m args below meth c H locs cells slots Q (F0 m pc ls st0) := by
  subst hst
  intro T hT X
  obtain ⟨v, st₀, t, T', L, h0, X', hL, e1, e2, ⟨r', hv, hp, hh⟩, st⟩ := va_runS (H := H) (locs := locs) (cells := cells) (slots := slots) (g := F0 m pc ls (As.reverse ++ rest)) (As := As) (rest := rest) C.1 hM cw ⟨fun a U g mk q => q, fun U hU hWm => ⟨rfl, trivial⟩⟩ rfl hn hsz rfl (lv_room hW) hdg hf T hT X
  cases hv
  have hL0 : L = [] := List.eq_nil_iff_forall_not_mem.mpr (fun q h => hL q h)
  subst hL0
  subst hp
  rw [List.append_nil] at X'
  obtain ⟨t2, a1, b1⟩ := kk T' (by rw [e1, hh, h0]) X'
  exact ⟨t2, st t2 a1, b1⟩
end JCALL
end
