def jAt (L : List Nat) (f : Nat → va_E) (cnt : Int32) (su sl s2 s3 s4 s5 : Nat → Int32) (i : Int32) (r : Option Nat) (v : va_W) : Prop := v = va_pl L f ∧ ((jok i cnt.toNatClampNeg ∧ ∃ a, r = some a ∧ a ∈ L ∧ f a = .inr (6, [.int (su i.toNatClampNeg), .int (sl i.toNatClampNeg), .int (s2 i.toNatClampNeg), .int (s3 i.toNatClampNeg), .int (s4 i.toNatClampNeg), .int (s5 i.toNatClampNeg)])) ∨ (¬ jok i cnt.toNatClampNeg ∧ r = none))
abbrev rmX6_at : Room := { frames := 3, cells := 0, slots := 0, locals := 64 }
set_option maxHeartbeats 4000000 in
set_option maxRecDepth 100000 in
theorem tX6_at (l : Launch) (D : va_G) (dd : Nat) (L : List Nat) (f : Nat → va_E) (sa : Nat) (cI cJ cZ cW cS cO cG : ClassId) (cnt : Int32) (su sl s2 s3 s4 s5 : Nat → Int32) (i : Int32) (hr : jSh cO dd L f sa cnt su sl s2 s3 s4 s5) : JQq l yX6_at wsX6_at rmX6_at D vwCl (TY cI cJ cZ cW cS cO cG) [.ref sa, .int i] (va_pl L f) (jAt L f cnt su sl s2 s3 s4 s5 i) := by
  obtain ⟨hsa, la, ea, cap, mc, g9, fsa, hla, fla, hcap, hea, hel⟩ := id hr
  refine JQq.of (cc := cX6_at) (maxL := 2) (by decide) rfl (Nat.le_of_ble_eq_true rfl) ?_
  intro p e s m args below meth c A ls Q C hK hA ret hS hl
  obtain ⟨⟨hx, hb, hml, hown, hts⟩, -⟩ := id C
  have hl : lv_has ls 2 [(0, .ref sa), (1, .int i)] := hl
  have inX6 : ∀ w ∈ u_ws RX6 TX6 1, w ∈ wsX6_at := by decide +kernel
  have k2 := hts (.fieldLink RX6 12 "OhmNets$Shares" "inOrder" "Ljava/util/ArrayList;") (by decide +kernel)
  refine lv_iload_n hx hb dX6_at_0 rfl (lv_at hl 1 rfl) ?_
  refine lv_if_lt (tgt := 15) hx hb dX6_at_1 (by decide) (fun c1 => ?_) (fun c1 => ?_)
  · refine lv_null hx hb dX6_at_15 ?_
    exact ret (r := none) ⟨rfl, Or.inr ⟨jok_not (Or.inl c1), rfl⟩⟩ hS (Or.inl ⟨_, rfl⟩) dX6_at_16
  · refine lv_iload_n hx hb dX6_at_4 rfl (lv_at hl 1 rfl) ?_
    refine lv_aload_n hx hb dX6_at_5 rfl (lv_at hl 0 rfl) ?_
    refine jp_get (X := []) (ci := 7) (v := .ref la) (C := RX6) (T := TX6) (N := 1) hx hb hts inX6 hown hK hS.1 hsa fsa rfl 0 (by decide) k2 (fun _ h => h) rfl dX6_at_6 ?_
    obtain ⟨q9, hq9⟩ := jp_at hla fla
    refine j_Vi (As := []) (rest := [.int i]) (wf := va_pl L f) (vc := (RJx4a65c, TJx4a65c, 3)) C hK hS (jcut_all hA hS) (tJx4a65c_size_8abf5 l D cI cJ cZ cW cS cO cG L f la ea mc cnt hla fla) (cwV 0 hts gX6_at_Jx4a65c_size_8abf5 rfl rfl rfl (by decide +kernel) ⟨Nat.le_of_ble_eq_true rfl, Nat.le_of_ble_eq_true rfl⟩) (q0 := q9) hq9 (ci := 0) rfl rfl hl.1 rfl (Nat.le_of_ble_eq_true rfl) dX6_at_9 ⟨Nat.zero_le _, Nat.zero_le _⟩ (fun H locs hS => ?_)
    refine lv_icmp_lt (tgt := 17) hx hb dX6_at_12 (by decide) (fun c2 => ?_) (fun c2 => ?_)
    · have hj := jok_lt c1 c2
      obtain ⟨a, e1, e2, e3⟩ := hel _ hj.2
      obtain ⟨h1, h2⟩ := hea.resolve_left (fun h => absurd (Nat.lt_of_lt_of_le hj.2 hcap) (by rw [h.1]; exact Nat.not_lt_zero _))
      refine lv_aload_n hx hb dX6_at_17 rfl (lv_at hl 0 rfl) ?_
      refine jp_get (X := []) (ci := 7) (v := .ref la) (C := RX6) (T := TX6) (N := 1) hx hb hts inX6 hown hK hS.1 hsa fsa rfl 0 (by decide) k2 (fun _ h => h) rfl dX6_at_18 ?_
      refine lv_iload_n hx hb dX6_at_21 rfl (lv_at hl 1 rfl) ?_
      refine j_QVq (As := [.int i]) (rest := []) (vc := (RJx4a65c, TJx4a65c, 3)) C hK hA hS (tJx4a65c_get_915e3 l D cI cJ cZ cW cS cO cG L f la ea cap a mc cnt i g9 hla fla h1 h2 c1 c2 ⟨hj.1, Nat.lt_of_lt_of_le hj.2 hcap⟩ e1) (cwV 1 hts gX6_at_Jx4a65c_get_915e3 rfl rfl rfl (by decide +kernel) ⟨Nat.le_of_ble_eq_true rfl, Nat.le_of_ble_eq_true rfl⟩) (q0 := q9) hq9 (ci := 0) rfl rfl hl.1 rfl (Nat.le_of_ble_eq_true rfl) dX6_at_22 ⟨Nat.zero_le _, Nat.zero_le _⟩ (fun r w H locs hp hS => ?_)
      obtain ⟨er, ew⟩ := hp
      subst er
      subst ew
      obtain ⟨q8, hq8⟩ := jp_at e2 e3
      refine va_castS (nm := RX5) hx hb hown (hts (.classLink RX6 26 "OhmNets$Share") (by decide +kernel)) (hK.1 6 _ rfl).2 (va_recv hK hS.1 (ci := 6) (q := (RX5, TX5, 6)) rfl hq8) dX6_at_25 ?_
      exact ret (r := some a) ⟨rfl, Or.inl ⟨hj, a, rfl, e2, e3⟩⟩ hS (Or.inl ⟨_, rfl⟩) dX6_at_28
    · refine lv_null hx hb dX6_at_15 ?_
      exact ret (r := none) ⟨rfl, Or.inr ⟨jok_not (Or.inr (by rw [Int32.le_iff_toInt_le]; rw [Int32.lt_iff_toInt_lt] at c2; omega)), rfl⟩⟩ hS (Or.inl ⟨_, rfl⟩) dX6_at_16
/-! LIKE PARTS -/
abbrev LX (lp b0 v0 : Nat) (cS : ClassId) (ba : Nat → Option Nat) (known : Int32) (vu vl : Int64) : va_W := [(lp, .inr (2, [.ref b0, .ref v0, .int known])), (b0, .inl (cS, 9, .inr (.inr (.inr (.inr ba))))), (v0, .inr (1, [.long vu, .long vl]))]
def fJoin (x y : SV) (how : Int32) : Int64 × Int64 := if how = 1 then ((x.1 * y.2.1 + y.1 * x.2.1).toInt64, (x.2.1 * y.2.1).toInt64) else ((x.1 * y.1).toInt64, (x.1 * y.2.1 + y.1 * x.2.1).toInt64)
abbrev rmX1_join : Room := { frames := 1, cells := 0, slots := 0, locals := 24 }
set_option maxHeartbeats 4000000 in
set_option maxRecDepth 100000 in
theorem tX1_join (l : Launch) (D : va_G) (cI cJ cZ cW cS cO cG : ClassId) (lp b0 v0 : Nat) (ba : Nat → Option Nat) (known : Int32) (vu vl : Int64) (L : List Nat) (f : Nat → va_E) (ax ay : Nat) (x y : SV) (how : Int32) (hax : ax ∈ L) (fax : f ax = shC x) (hay : ay ∈ L) (fay : f ay = shC y) : JMi l yX1_join wsX1_join rmX1_join D vwCl (TY cI cJ cZ cW cS cO cG) [.ref lp, .ref ax, .ref ay, .int how] (LX lp b0 v0 cS ba known vu vl ++ va_pl L f) (LX lp b0 v0 cS ba known (fJoin x y how).1 (fJoin x y how).2 ++ va_pl L f) 1 := by
  haveI hdec : DecidableEq (Nat × va_E) := Classical.typeDecidableEq _
  refine JMi.of (cc := cX1_join) (maxL := 5) (by decide) rfl (Nat.le_of_ble_eq_true rfl) ?_
  intro p e s m args below meth c A ls Q C hK hA ret hS hl
  obtain ⟨⟨hx, hb, hml, hown, hts⟩, -⟩ := id C
  have hl : lv_has ls 5 [(0, .ref lp), (1, .ref ax), (2, .ref ay), (3, .int how)] := hl
  have inX5 : ∀ w ∈ u_ws RX5 TX5 6, w ∈ wsX1_join := by decide +kernel
  have inX1 : ∀ w ∈ u_ws RX1 TX1 3, w ∈ wsX1_join := by decide +kernel
  have k0 := hts (.fieldLink RX1 20 "OhmNets$LikeParts" "value" "LOhmNets$Fraction;") (by decide +kernel)
  have k1 := hts (.fieldLink RX1 57 "OhmNets$Share" "upper" "I") (by decide +kernel)
  have k2 := hts (.fieldLink RX1 62 "OhmNets$Share" "lower" "I") (by decide +kernel)
  refine lv_aload_n hx hb dX1_join_0 rfl (lv_at hl 1 rfl) ?_
  refine lv_ifnull hx hb dX1_join_1 ?_
  refine lv_aload_n hx hb dX1_join_4 rfl (lv_at hl 2 rfl) ?_
  refine lv_ifnonnull (tgt := 10) hx hb dX1_join_5 (by decide) ?_
  refine lv_aload_n hx hb dX1_join_10 rfl (lv_at hl 1 rfl) ?_
  refine jp_get (X := LX lp b0 v0 cS ba known vu vl) (ci := 6) (v := .int x.1) (C := RX5) (T := TX5) (N := 6) hx hb hts inX5 hown hK hS.1 hax fax rfl 0 (by decide) k1 (fun _ h => h) rfl dX1_join_11 ?_
  refine lv_aload_n hx hb dX1_join_14 rfl (lv_at hl 2 rfl) ?_
  refine jp_get (X := LX lp b0 v0 cS ba known vu vl) (ci := 6) (v := .int y.2.1) (C := RX5) (T := TX5) (N := 6) hx hb hts inX5 hown hK hS.1 hay fay rfl 1 (by decide) k2 (fun _ h => h) rfl dX1_join_15 ?_
  refine lv_imul hx hb dX1_join_18 ?_
  refine lv_aload_n hx hb dX1_join_19 rfl (lv_at hl 2 rfl) ?_
  refine jp_get (X := LX lp b0 v0 cS ba known vu vl) (ci := 6) (v := .int y.1) (C := RX5) (T := TX5) (N := 6) hx hb hts inX5 hown hK hS.1 hay fay rfl 0 (by decide) k1 (fun _ h => h) rfl dX1_join_20 ?_
  refine lv_aload_n hx hb dX1_join_23 rfl (lv_at hl 1 rfl) ?_
  refine jp_get (X := LX lp b0 v0 cS ba known vu vl) (ci := 6) (v := .int x.2.1) (C := RX5) (T := TX5) (N := 6) hx hb hts inX5 hown hK hS.1 hax fax rfl 1 (by decide) k2 (fun _ h => h) rfl dX1_join_24 ?_
  refine lv_imul hx hb dX1_join_27 ?_
  refine lv_iadd hx hb dX1_join_28 ?_
  refine lv_istore (lv' := [(4, .int (x.1 * y.2.1 + y.1 * x.2.1)), (0, .ref lp), (1, .ref ax), (2, .ref ay), (3, .int how)]) hx hb dX1_join_29 hl (by decide) rfl (fun ls hl => ?_)
  refine lv_iload_n hx hb dX1_join_31 rfl (lv_at hl 4 rfl) ?_
  refine lv_iconst (v := (1 : Int32)) hx hb dX1_join_32 (by decide) ?_
  refine lv_icmp_ne (tgt := 59) hx hb dX1_join_33 (by decide) (fun c1 => ?_) (fun c1 => ?_)
  · have ej : fJoin x y how = ((x.1 * y.1).toInt64, (x.1 * y.2.1 + y.1 * x.2.1).toInt64) := if_neg c1
    rw [ej] at ret
    refine lv_aload_n hx hb dX1_join_59 rfl (lv_at hl 1 rfl) ?_
    refine va_get (D := D) (ci := 2) (v := .ref v0) (C := RX1) (T := TX1) (N := 3) hx hb hts inX1 hown hK hS.1 0 rfl rfl 1 (by decide) k0 (fun _ h => h) rfl dX1_join_60 ?_
    refine lv_aload_n hx hb dX1_join_63 rfl (lv_at hl 2 rfl) ?_
    refine jp_get (X := LX lp b0 v0 cS ba known vu vl) (ci := 6) (v := .int x.1) (C := RX5) (T := TX5) (N := 6) hx hb hts inX5 hown hK hS.1 hax fax rfl 0 (by decide) k1 (fun _ h => h) rfl dX1_join_64 ?_
    refine lv_aload_n hx hb dX1_join_67 rfl (lv_at hl 3 rfl) ?_
    refine jp_get (X := LX lp b0 v0 cS ba known vu vl) (ci := 6) (v := .int y.1) (C := RX5) (T := TX5) (N := 6) hx hb hts inX5 hown hK hS.1 hay fay rfl 0 (by decide) k1 (fun _ h => h) rfl dX1_join_68 ?_
    refine lv_imul hx hb dX1_join_71 ?_
    refine lv_i2l (v := (x.1 * y.1).toInt64) hx hb dX1_join_72 rfl ?_
    refine lv_iload hx hb dX1_join_73 (lv_at hl 0 rfl) ?_
    refine lv_i2l (v := (x.1 * y.2.1 + y.1 * x.2.1).toInt64) hx hb dX1_join_75 rfl ?_
    refine j_Vv (As := [.long (x.1 * y.1).toInt64, .long (x.1 * y.2.1 + y.1 * x.2.1).toInt64]) (rest := []) (wc := FRW v0 vu vl) (w1 := FRW v0 (x.1 * y.1).toInt64 (x.1 * y.2.1 + y.1 * x.2.1).toInt64) (wf := FRW v0 (x.1 * y.1).toInt64 (x.1 * y.2.1 + y.1 * x.2.1).toInt64 ++ ([(lp, .inr (2, [.ref b0, .ref v0, .int known])), (b0, .inl (cS, 9, .inr (.inr (.inr (.inr ba)))))] ++ va_pl L f)) (vc := (RX0, TX0, 2)) C hK hS (jcut_perm (wr := [(lp, .inr (2, [.ref b0, .ref v0, .int known])), (b0, .inl (cS, 9, .inr (.inr (.inr (.inr ba)))))] ++ va_pl L f) hA hS (List.perm_iff_count.mpr (fun z => by simp only [List.count_append, List.count_cons, List.count_nil]; ac_rfl))) (tX0_set l D v0 cI cJ cZ cW cS cO cG vu vl (x.1 * y.1).toInt64 (x.1 * y.2.1 + y.1 * x.2.1).toInt64 rfl) (cwV 2 hts gX1_join_X0_set rfl rfl rfl (by decide +kernel) ⟨Nat.le_of_ble_eq_true rfl, Nat.le_of_ble_eq_true rfl⟩) (q0 := 0) rfl (ci := 1) rfl rfl hl.1 rfl (Nat.le_of_ble_eq_true rfl) dX1_join_76 ⟨Nat.zero_le _, Nat.zero_le _⟩ (fun H locs hS => ?_)
    have hS : jS D vwCl A (LX lp b0 v0 cS ba known (x.1 * y.1).toInt64 (x.1 * y.2.1 + y.1 * x.2.1).toInt64 ++ va_pl L f) s.heap H locs := jS_perm (List.perm_iff_count.mpr (fun z => by simp only [List.count_append, List.count_cons, List.count_nil]; ac_rfl)) hS
    refine lv_iconst (v := (1 : Int32)) hx hb dX1_join_79 (by decide) ?_
    exact ret hS jb1 dX1_join_80
  · have ej : fJoin x y how = ((x.1 * y.2.1 + y.1 * x.2.1).toInt64, (x.2.1 * y.2.1).toInt64) := if_pos c1
    rw [ej] at ret
    refine lv_aload_n hx hb dX1_join_36 rfl (lv_at hl 1 rfl) ?_
    refine va_get (D := D) (ci := 2) (v := .ref v0) (C := RX1) (T := TX1) (N := 3) hx hb hts inX1 hown hK hS.1 0 rfl rfl 1 (by decide) k0 (fun _ h => h) rfl dX1_join_37 ?_
    refine lv_iload hx hb dX1_join_40 (lv_at hl 0 rfl) ?_
    refine lv_i2l (v := (x.1 * y.2.1 + y.1 * x.2.1).toInt64) hx hb dX1_join_42 rfl ?_
    refine lv_aload_n hx hb dX1_join_43 rfl (lv_at hl 2 rfl) ?_
    refine jp_get (X := LX lp b0 v0 cS ba known vu vl) (ci := 6) (v := .int x.2.1) (C := RX5) (T := TX5) (N := 6) hx hb hts inX5 hown hK hS.1 hax fax rfl 1 (by decide) k2 (fun _ h => h) rfl dX1_join_44 ?_
    refine lv_aload_n hx hb dX1_join_47 rfl (lv_at hl 3 rfl) ?_
    refine jp_get (X := LX lp b0 v0 cS ba known vu vl) (ci := 6) (v := .int y.2.1) (C := RX5) (T := TX5) (N := 6) hx hb hts inX5 hown hK hS.1 hay fay rfl 1 (by decide) k2 (fun _ h => h) rfl dX1_join_48 ?_
    refine lv_imul hx hb dX1_join_51 ?_
    refine lv_i2l (v := (x.2.1 * y.2.1).toInt64) hx hb dX1_join_52 rfl ?_
    refine j_Vv (As := [.long (x.1 * y.2.1 + y.1 * x.2.1).toInt64, .long (x.2.1 * y.2.1).toInt64]) (rest := []) (wc := FRW v0 vu vl) (w1 := FRW v0 (x.1 * y.2.1 + y.1 * x.2.1).toInt64 (x.2.1 * y.2.1).toInt64) (wf := FRW v0 (x.1 * y.2.1 + y.1 * x.2.1).toInt64 (x.2.1 * y.2.1).toInt64 ++ ([(lp, .inr (2, [.ref b0, .ref v0, .int known])), (b0, .inl (cS, 9, .inr (.inr (.inr (.inr ba)))))] ++ va_pl L f)) (vc := (RX0, TX0, 2)) C hK hS (jcut_perm (wr := [(lp, .inr (2, [.ref b0, .ref v0, .int known])), (b0, .inl (cS, 9, .inr (.inr (.inr (.inr ba)))))] ++ va_pl L f) hA hS (List.perm_iff_count.mpr (fun z => by simp only [List.count_append, List.count_cons, List.count_nil]; ac_rfl))) (tX0_set l D v0 cI cJ cZ cW cS cO cG vu vl (x.1 * y.2.1 + y.1 * x.2.1).toInt64 (x.2.1 * y.2.1).toInt64 rfl) (cwV 2 hts gX1_join_X0_set rfl rfl rfl (by decide +kernel) ⟨Nat.le_of_ble_eq_true rfl, Nat.le_of_ble_eq_true rfl⟩) (q0 := 0) rfl (ci := 1) rfl rfl hl.1 rfl (Nat.le_of_ble_eq_true rfl) dX1_join_53 ⟨Nat.zero_le _, Nat.zero_le _⟩ (fun H locs hS => ?_)
    have hS : jS D vwCl A (LX lp b0 v0 cS ba known (x.1 * y.2.1 + y.1 * x.2.1).toInt64 (x.2.1 * y.2.1).toInt64 ++ va_pl L f) s.heap H locs := jS_perm (List.perm_iff_count.mpr (fun z => by simp only [List.count_append, List.count_cons, List.count_nil]; ac_rfl)) hS
    refine lv_goto (tgt := 79) hx hb dX1_join_56 (by decide) ?_
    refine lv_iconst (v := (1 : Int32)) hx hb dX1_join_79 (by decide) ?_
    exact ret hS jb1 dX1_join_80
