def fX9_cut (size : Int32) : Option (Int32 × Int32) :=
  (fX3_size size).bind (fun o_1 => 
  if o_1 = 0 then
  some ((-2 : Int32), size)
  else
  if jok (size - 1) 12 then
  if (size - 1).toNatClampNeg ≤ size.toNatClampNeg then
  some ((size - 1), (size - 1))
  else none
  else none)
abbrev rmX9_cut : Room := { frames := 1, cells := 0, slots := 0, locals := 20 }
set_option maxHeartbeats 4000000 in
set_option maxRecDepth 100000 in
theorem tX9_cut (l : Launch) (D : va_G) (x0 lp an s0 s1 s2 s3 s4 n0 n1 n2 n3 n4 n5 n6 : Nat) (cI cJ cZ cW cS cO cG : ClassId) (size : Int32) (wk : Nat → Int32) (w1 : Nat → Int32) (w2 : Nat → Int32) (wq : Nat → Int32) (wm : Nat → Int32) (flows : Nat → Int64) (mu : Int64) (ml : Int64) (nb : Nat → Int32) (lines : Nat → Nat → Int64) (lineOf : Nat → Int32) (lc : Int32) (tr : Int64) (au : Int64) (al : Int64) (ss : Int32) (so : Nat → Int32) (sp : Nat → Int32) (tu : Int64) (tl : Int64) (ku : Int64) (kl : Int64) {o : Int32 × Int32} (hE : fX9_cut size = some o) {wN : va_W} (hw : NP n0 n1 n2 n3 n4 n5 n6 cI cJ cW cG size wk w1 w2 wq wm flows mu ml nb lines lineOf lc wN) : JQi l yX9_cut wsX9_cut rmX9_cut D vwCl (TY cI cJ cZ cW cS cO cG) [.ref x0] ([(x0, .inr (10, [.ref lp, .ref n0, .ref s0, .ref an, .long tr]))] ++ (wN ++ [(an, .inr (1, [.long au, .long al])), (s0, .inr (8, [.ref s1, .ref s2, .int ss, .ref s3, .ref s4])), (s1, .inl (cI, 6, .inl so)), (s2, .inl (cI, 6, .inl sp)), (s3, .inr (1, [.long tu, .long tl])), (s4, .inr (1, [.long ku, .long kl]))])) (fun x v => x = o.1 ∧ ∃ wM, NP n0 n1 n2 n3 n4 n5 n6 cI cJ cW cG o.2 wk w1 w2 wq wm flows mu ml nb lines lineOf lc wM ∧ v = [(x0, .inr (10, [.ref lp, .ref n0, .ref s0, .ref an, .long tr]))] ++ (wM ++ [(an, .inr (1, [.long au, .long al])), (s0, .inr (8, [.ref s1, .ref s2, .int ss, .ref s3, .ref s4])), (s1, .inl (cI, 6, .inl so)), (s2, .inl (cI, 6, .inl sp)), (s3, .inr (1, [.long tu, .long tl])), (s4, .inr (1, [.long ku, .long kl]))])) := by
  haveI hdec : DecidableEq (Nat × va_E) := Classical.typeDecidableEq _
  refine JQi.of (cc := cX9_cut) (maxL := 1) (by decide) rfl (Nat.le_of_ble_eq_true rfl) ?_
  intro p e s m args below meth c A ls Q C hK hA ret hS hl
  obtain ⟨⟨hx, hb, hml, hown, hts⟩, -⟩ := id C
  have hl : lv_has ls 1 [(0, .ref x0)] := hl
  have inX9 : ∀ w ∈ u_ws RX9 TX9 5, w ∈ wsX9_cut := by decide +kernel
  have k0 := hts (.fieldLink RX9 19 "OhmNets" "net" "LOhmNets$Net;") (by decide +kernel)
  refine lv_aload_n hx hb dX9_cut_0 rfl (lv_at hl 0 rfl) ?_
  refine va_get (D := D) (ci := 10) (v := .ref n0) (C := RX9) (T := TX9) (N := 5) hx hb hts inX9 hown hK hS.1 0 rfl rfl 1 (by decide) k0 (fun _ h => h) rfl dX9_cut_1 ?_
  obtain ⟨o_1, h_2, hE⟩ := jbd hE
  refine j_QVip (As := []) (rest := []) (vc := (RX3, TX3, 8)) C hK hA hS cperm (tX3_size l D n0 n1 n2 n3 n4 n5 n6 cI cJ cZ cW cS cO cG size wk w1 w2 wq wm flows mu ml nb lines lineOf lc h_2 hw) (cwV 0 hts gX9_cut_X3_size rfl rfl rfl (by decide +kernel) ⟨Nat.le_of_ble_eq_true rfl, Nat.le_of_ble_eq_true rfl⟩) (q0 := 0) (NP_head hw) (ci := 4) rfl rfl hl.1 rfl (Nat.le_of_ble_eq_true rfl) dX9_cut_4 ⟨Nat.zero_le _, Nat.zero_le _⟩ (fun r wN H locs hp hS => ?_)
  obtain ⟨er, hw⟩ := hp
  subst r
  have hS := jS_perm cperm.symm hS
  refine lv_if_ne (tgt := 13) hx hb dX9_cut_7 (by decide) (fun c_3 => ?_) (fun c_3 => ?_)
  · have hE := jf hE c_3
    refine lv_aload_n hx hb dX9_cut_13 rfl (lv_at hl 0 rfl) ?_
    refine va_get (D := D) (ci := 10) (v := .ref n0) (C := RX9) (T := TX9) (N := 5) hx hb hts inX9 hown hK hS.1 0 rfl rfl 1 (by decide) k0 (fun _ h => h) rfl dX9_cut_14 ?_
    obtain ⟨b_4, hE⟩ := jgd hE
    obtain ⟨b_5, hE⟩ := jgd hE
    refine j_QVip (As := []) (rest := []) (vc := (RX3, TX3, 8)) C hK hA hS cperm (tX3_removeLatest l D n0 n1 n2 n3 n4 n5 n6 cI cJ cZ cW cS cO cG size wk w1 w2 wq wm flows mu ml nb lines lineOf lc b_4 b_5 hw) (cwV 0 hts gX9_cut_X3_removeLatest rfl rfl rfl (by decide +kernel) ⟨Nat.le_of_ble_eq_true rfl, Nat.le_of_ble_eq_true rfl⟩) (q0 := 0) (NP_head hw) (ci := 4) rfl rfl hl.1 rfl (Nat.le_of_ble_eq_true rfl) dX9_cut_17 ⟨Nat.zero_le _, Nat.zero_le _⟩ (fun r wN H locs hp hS => ?_)
    obtain ⟨er, hw⟩ := hp
    subst r
    have hS := jS_perm cperm.symm hS
    obtain rfl := jsm hE
    exact ret ⟨rfl, _, hw, rfl⟩ hS rfl dX9_cut_20
  · have hE := jt hE c_3
    refine lv_bipush (v := (-2 : Int32)) hx hb dX9_cut_10 (by decide) ?_
    obtain rfl := jsm hE
    exact ret ⟨rfl, _, hw, rfl⟩ hS rfl dX9_cut_12
def fX9_ohms (a1 : Int32) (a2 : Int32) (size : Int32) (wk : Nat → Int32) (wq : Nat → Int32) (wm : Nat → Int32) (tr : Int64) (au : Int64) (al : Int64) : Option (Int32 × Int64 × Int64 × Int64) :=
  if jok a1 size.toNatClampNeg then
  (fX9_isWithin a2 (0 : Int32) (1 : Int32)).bind (fun o_3 => 
  if o_3 = 0 then
  some ((-1 : Int32), tr, au, al)
  else
  (fmeas (wk a1.toNatClampNeg) (wq a1.toNatClampNeg) (wm a1.toNatClampNeg)).bind (fun o_6 => 
  (fX0_reduce o_6.2.1 o_6.2.2).bind (fun o_8 => 
  (fX0_part a2 o_8.1 o_8.2).bind (fun o_10 => 
  some (o_10.toInt32, (tr + o_6.1.toInt64), o_8.1, o_8.2)))))
  else
  some ((-1 : Int32), tr, au, al)
abbrev rmX9_ohms : Room := { frames := 4, cells := 0, slots := 0, locals := 89 }
set_option maxHeartbeats 4000000 in
set_option maxRecDepth 100000 in
theorem tX9_ohms (l : Launch) (D : va_G) (x0 lp an s0 s1 s2 s3 s4 n0 n1 n2 n3 n4 n5 n6 : Nat) (cI cJ cZ cW cS cO cG : ClassId) (size : Int32) (wk : Nat → Int32) (w1 : Nat → Int32) (w2 : Nat → Int32) (wq : Nat → Int32) (wm : Nat → Int32) (flows : Nat → Int64) (mu : Int64) (ml : Int64) (nb : Nat → Int32) (lines : Nat → Nat → Int64) (lineOf : Nat → Int32) (lc : Int32) (tr : Int64) (au : Int64) (al : Int64) (ss : Int32) (so : Nat → Int32) (sp : Nat → Int32) (tu : Int64) (tl : Int64) (ku : Int64) (kl : Int64) (a1 : Int32) (a2 : Int32) {o : Int32 × Int64 × Int64 × Int64} (hE : fX9_ohms a1 a2 size wk wq wm tr au al = some o) {wN : va_W} (hw : NP n0 n1 n2 n3 n4 n5 n6 cI cJ cW cG size wk w1 w2 wq wm flows mu ml nb lines lineOf lc wN) : JQi l yX9_ohms wsX9_ohms rmX9_ohms D vwCl (TY cI cJ cZ cW cS cO cG) [.ref x0, .int a1, .int a2] ([(x0, .inr (10, [.ref lp, .ref n0, .ref s0, .ref an, .long tr]))] ++ (wN ++ [(an, .inr (1, [.long au, .long al])), (s0, .inr (8, [.ref s1, .ref s2, .int ss, .ref s3, .ref s4])), (s1, .inl (cI, 6, .inl so)), (s2, .inl (cI, 6, .inl sp)), (s3, .inr (1, [.long tu, .long tl])), (s4, .inr (1, [.long ku, .long kl]))])) (fun x v => x = o.1 ∧ ∃ wM, NP n0 n1 n2 n3 n4 n5 n6 cI cJ cW cG size wk w1 w2 wq wm flows mu ml nb lines lineOf lc wM ∧ v = [(x0, .inr (10, [.ref lp, .ref n0, .ref s0, .ref an, .long o.2.1]))] ++ (wM ++ [(an, .inr (1, [.long o.2.2.1, .long o.2.2.2])), (s0, .inr (8, [.ref s1, .ref s2, .int ss, .ref s3, .ref s4])), (s1, .inl (cI, 6, .inl so)), (s2, .inl (cI, 6, .inl sp)), (s3, .inr (1, [.long tu, .long tl])), (s4, .inr (1, [.long ku, .long kl]))])) := by
  haveI hdec : DecidableEq (Nat × va_E) := Classical.typeDecidableEq _
  refine JQi.of (cc := cX9_ohms) (maxL := 4) (by decide) rfl (Nat.le_of_ble_eq_true rfl) ?_
  intro p e s m args below meth c A ls Q C hK hA ret hS hl
  obtain ⟨⟨hx, hb, hml, hown, hts⟩, -⟩ := id C
  have hl : lv_has ls 4 [(0, .ref x0), (1, .int a1), (2, .int a2)] := hl
  have inX9 : ∀ w ∈ u_ws RX9 TX9 5, w ∈ wsX9_ohms := by decide +kernel
  have k0 := hts (.fieldLink RX9 19 "OhmNets" "net" "LOhmNets$Net;") (by decide +kernel)
  have k1 := hts (.fieldLink RX9 37 "OhmNets" "traced" "J") (by decide +kernel)
  have k2 := hts (.fieldLink RX9 33 "OhmNets" "answer" "LOhmNets$Fraction;") (by decide +kernel)
  refine lv_aload_n hx hb dX9_ohms_0 rfl (lv_at hl 0 rfl) ?_
  refine va_get (D := D) (ci := 10) (v := .ref n0) (C := RX9) (T := TX9) (N := 5) hx hb hts inX9 hown hK hS.1 0 rfl rfl 1 (by decide) k0 (fun _ h => h) rfl dX9_ohms_1 ?_
  refine lv_iload_n hx hb dX9_ohms_4 rfl (lv_at hl 1 rfl) ?_
  refine j_QVqp (As := [.int a1]) (rest := []) (vc := (RX3, TX3, 8)) C hK hA hS cperm (tX3_at l D n0 n1 n2 n3 n4 n5 n6 cI cJ cZ cW cS cO cG size wk w1 w2 wq wm flows mu ml nb lines lineOf lc a1 hw) (cwV 1 hts gX9_ohms_X3_at rfl rfl rfl (by decide +kernel) ⟨Nat.le_of_ble_eq_true rfl, Nat.le_of_ble_eq_true rfl⟩) (q0 := 0) (NP_head hw) (ci := 4) rfl rfl hl.1 rfl (Nat.le_of_ble_eq_true rfl) dX9_ohms_5 ⟨Nat.zero_le _, Nat.zero_le _⟩ (fun r wN H locs hp hS => ?_)
  obtain ⟨hN, L, wa, ga, f, hwN, hW, hG, hr⟩ := hp
  have hw : NP n0 n1 n2 n3 n4 n5 n6 cI cJ cW cG size wk w1 w2 wq wm flows mu ml nb lines lineOf lc wN := ⟨hN, L, wa, ga, f, hwN, hW, hG⟩
  have hS := jS_perm cperm.symm hS
  rcases hr with ⟨c_1, a_2, er, ma_2, fa_2⟩ | ⟨c_1, er⟩
  · subst er
    have hE := jt hE c_1
    refine lv_astore_n (lv' := [(3, .ref a_2), (0, .ref x0), (1, .int a1), (2, .int a2)]) hx hb dX9_ohms_8 rfl hl (by decide) rfl (fun ls hl => ?_)
    refine lv_aload_n hx hb dX9_ohms_9 rfl (lv_at hl 0 rfl) ?_
    refine lv_ifnull hx hb dX9_ohms_10 ?_
    refine lv_iload_n hx hb dX9_ohms_13 rfl (lv_at hl 3 rfl) ?_
    refine lv_iconst (v := (0 : Int32)) hx hb dX9_ohms_14 (by decide) ?_
    refine lv_iconst (v := (1 : Int32)) hx hb dX9_ohms_15 (by decide) ?_
    obtain ⟨o_3, h_4, hE⟩ := jbd hE
    refine j_Si (As := [.int a2, .int (0 : Int32), .int (1 : Int32)]) (rest := []) (wf := [(x0, .inr (10, [.ref lp, .ref n0, .ref s0, .ref an, .long tr]))] ++ (wN ++ [(an, .inr (1, [.long au, .long al])), (s0, .inr (8, [.ref s1, .ref s2, .int ss, .ref s3, .ref s4])), (s1, .inl (cI, 6, .inl so)), (s2, .inl (cI, 6, .inl sp)), (s3, .inr (1, [.long tu, .long tl])), (s4, .inr (1, [.long ku, .long kl]))])) C hK hS (jcut_nil hA hS) (tX9_isWithin l D cI cJ cZ cW cS cO cG a2 (0 : Int32) (1 : Int32) h_4) (va_cwS 3 hts gX9_ohms_X9_isWithin rfl rfl rfl (by decide +kernel) ⟨Nat.le_of_ble_eq_true rfl, Nat.le_of_ble_eq_true rfl⟩) rfl hl.1 rfl (Nat.le_of_ble_eq_true rfl) dX9_ohms_16 ⟨Nat.zero_le _, Nat.zero_le _⟩ (fun H locs hS => ?_)
    refine lv_if_ne (tgt := 24) hx hb dX9_ohms_19 (by decide) (fun c_5 => ?_) (fun c_5 => ?_)
    · have hE := jf hE c_5
      refine lv_aload_n hx hb dX9_ohms_24 rfl (lv_at hl 1 rfl) ?_
      refine lv_dup hx hb dX9_ohms_25 rfl ?_
      refine va_get (D := D) (ci := 10) (v := .long tr) (C := RX9) (T := TX9) (N := 5) hx hb hts inX9 hown hK hS.1 0 rfl rfl 4 (by decide) k1 (fun _ h => h) rfl dX9_ohms_26 ?_
      refine lv_aload_n hx hb dX9_ohms_29 rfl (lv_at hl 0 rfl) ?_
      refine lv_aload_n hx hb dX9_ohms_30 rfl (lv_at hl 1 rfl) ?_
      refine va_get (D := D) (ci := 10) (v := .ref an) (C := RX9) (T := TX9) (N := 5) hx hb hts inX9 hown hK hS.1 0 rfl rfl 3 (by decide) k2 (fun _ h => h) rfl dX9_ohms_31 ?_
      obtain ⟨o_6, h_7, hE⟩ := jbd hE
      have hS9 := hS
      rw [hwN] at hS9
      refine jn_meas (X := NWX n0 n1 n2 n3 n4 n5 n6 cI cJ cW cG wa ga size flows mu ml nb lineOf lc ++ ([(x0, .inr (10, [.ref lp, .ref n0, .ref s0, .ref an, .long tr]))] ++ [(an, .inr (1, [.long au, .long al])), (s0, .inr (8, [.ref s1, .ref s2, .int ss, .ref s3, .ref s4])), (s1, .inl (cI, 6, .inl so)), (s2, .inl (cI, 6, .inl sp)), (s3, .inr (1, [.long tu, .long tl])), (s4, .inr (1, [.long ku, .long kl]))])) (X1 := NWX n0 n1 n2 n3 n4 n5 n6 cI cJ cW cG wa ga size flows mu ml nb lineOf lc ++ ([(x0, .inr (10, [.ref lp, .ref n0, .ref s0, .ref an, .long tr]))] ++ [(an, .inr (1, [.long o_6.2.1, .long o_6.2.2])), (s0, .inr (8, [.ref s1, .ref s2, .int ss, .ref s3, .ref s4])), (s1, .inl (cI, 6, .inl so)), (s2, .inl (cI, 6, .inl sp)), (s3, .inr (1, [.long tu, .long tl])), (s4, .inr (1, [.long ku, .long kl]))])) (X' := NWX n0 n1 n2 n3 n4 n5 n6 cI cJ cW cG wa ga size flows mu ml nb lineOf lc ++ [(x0, .inr (10, [.ref lp, .ref n0, .ref s0, .ref an, .long tr])), (s0, .inr (8, [.ref s1, .ref s2, .int ss, .ref s3, .ref s4])), (s1, .inl (cI, 6, .inl so)), (s2, .inl (cI, 6, .inl sp)), (s3, .inr (1, [.long tu, .long tl])), (s4, .inr (1, [.long ku, .long kl]))]) (h := an) (rest := [.long tr, .ref x0]) C hK hA (jS_perm (List.perm_iff_count.mpr (fun z => by simp only [List.count_append, List.count_cons, List.count_nil]; ac_rfl)) hS9) ma_2 fa_2 h_7 (List.perm_iff_count.mpr (fun z => by simp only [List.count_append, List.count_cons, List.count_nil]; ac_rfl)) (List.perm_iff_count.mpr (fun z => by simp only [List.count_append, List.count_cons, List.count_nil]; ac_rfl)) (cwV 1 hts gX9_ohms_X4_measure rfl rfl rfl (by decide +kernel) ⟨Nat.le_of_ble_eq_true rfl, Nat.le_of_ble_eq_true rfl⟩) (va_cwO 1 hts gX9_ohms_X2_measure_u126X2 rfl rfl rfl (b0 := cX4_measure) (m0 := 2) (r0 := some .int) (by decide +kernel) (by decide +kernel) ⟨Nat.le_of_ble_eq_true rfl, Nat.le_of_ble_eq_true rfl⟩) (va_cwO 1 hts gX9_ohms_X8_measure_u126X8 rfl rfl rfl (b0 := cX4_measure) (m0 := 2) (r0 := some .int) (by decide +kernel) (by decide +kernel) ⟨Nat.le_of_ble_eq_true rfl, Nat.le_of_ble_eq_true rfl⟩) hl.1 rfl (Nat.le_of_ble_eq_true rfl) dX9_ohms_34 ⟨Nat.zero_le _, Nat.zero_le _⟩ (fun H locs hS => ?_)
      have hS : jS D vwCl A ([(x0, .inr (10, [.ref lp, .ref n0, .ref s0, .ref an, .long tr]))] ++ (wN ++ [(an, .inr (1, [.long o_6.2.1, .long o_6.2.2])), (s0, .inr (8, [.ref s1, .ref s2, .int ss, .ref s3, .ref s4])), (s1, .inl (cI, 6, .inl so)), (s2, .inl (cI, 6, .inl sp)), (s3, .inr (1, [.long tu, .long tl])), (s4, .inr (1, [.long ku, .long kl]))])) s.heap H locs := by
        rw [hwN]
        exact jS_perm (List.perm_iff_count.mpr (fun z => by simp only [List.count_append, List.count_cons, List.count_nil]; ac_rfl)) hS
      refine lv_i2l (v := o_6.1.toInt64) hx hb dX9_ohms_37 rfl ?_
      refine lv_ladd hx hb dX9_ohms_38 ?_
      refine j_put (ci := 10) (v := .long (tr + o_6.1.toInt64)) (ty := .long) (C := RX9) (T := TX9) (N := 5) (w' := [(x0, .inr (10, [.ref lp, .ref n0, .ref s0, .ref an, .long (tr + o_6.1.toInt64)]))] ++ (wN ++ [(an, .inr (1, [.long o_6.2.1, .long o_6.2.2])), (s0, .inr (8, [.ref s1, .ref s2, .int ss, .ref s3, .ref s4])), (s1, .inl (cI, 6, .inl so)), (s2, .inl (cI, 6, .inl sp)), (s3, .inr (1, [.long tu, .long tl])), (s4, .inr (1, [.long ku, .long kl]))])) hx hb hts inX9 tyX9 tyX9_ok nmX9 hown hK hS 0 rfl rfl 4 (by decide) k1 (fun _ h => h) rfl (by decide +kernel) rfl rfl (Nat.le_of_ble_eq_true rfl) rfl dX9_ohms_39 (fun H locs hS => ?_)
      refine lv_aload_n hx hb dX9_ohms_42 rfl (lv_at hl 1 rfl) ?_
      refine va_get (D := D) (ci := 10) (v := .ref an) (C := RX9) (T := TX9) (N := 5) hx hb hts inX9 hown hK hS.1 0 rfl rfl 3 (by decide) k2 (fun _ h => h) rfl dX9_ohms_43 ?_
      obtain ⟨o_8, h_9, hE⟩ := jbd hE
      refine j_Vv (As := []) (rest := []) (wc := [(an, .inr (1, [.long o_6.2.1, .long o_6.2.2]))]) (w1 := [(an, .inr (1, [.long o_8.1, .long o_8.2]))]) (wf := [(an, .inr (1, [.long o_8.1, .long o_8.2]))] ++ (wN ++ [(x0, .inr (10, [.ref lp, .ref n0, .ref s0, .ref an, .long (tr + o_6.1.toInt64)])), (s0, .inr (8, [.ref s1, .ref s2, .int ss, .ref s3, .ref s4])), (s1, .inl (cI, 6, .inl so)), (s2, .inl (cI, 6, .inl sp)), (s3, .inr (1, [.long tu, .long tl])), (s4, .inr (1, [.long ku, .long kl]))])) (vc := (RX0, TX0, 2)) C hK hS (jcut_perm (wr := wN ++ [(x0, .inr (10, [.ref lp, .ref n0, .ref s0, .ref an, .long (tr + o_6.1.toInt64)])), (s0, .inr (8, [.ref s1, .ref s2, .int ss, .ref s3, .ref s4])), (s1, .inl (cI, 6, .inl so)), (s2, .inl (cI, 6, .inl sp)), (s3, .inr (1, [.long tu, .long tl])), (s4, .inr (1, [.long ku, .long kl]))]) hA hS (List.perm_iff_count.mpr (fun z => by simp only [List.count_append, List.count_cons, List.count_nil]; ac_rfl))) (tX0_reduce l D an cI cJ cZ cW cS cO cG o_6.2.1 o_6.2.2 h_9) (cwV 0 hts gX9_ohms_X0_reduce rfl rfl rfl (by decide +kernel) ⟨Nat.le_of_ble_eq_true rfl, Nat.le_of_ble_eq_true rfl⟩) (q0 := 0) rfl (ci := 1) rfl rfl hl.1 rfl (Nat.le_of_ble_eq_true rfl) dX9_ohms_46 ⟨Nat.zero_le _, Nat.zero_le _⟩ (fun H locs hS => ?_)
      have hS : jS D vwCl A ([(x0, .inr (10, [.ref lp, .ref n0, .ref s0, .ref an, .long (tr + o_6.1.toInt64)]))] ++ (wN ++ [(an, .inr (1, [.long o_8.1, .long o_8.2])), (s0, .inr (8, [.ref s1, .ref s2, .int ss, .ref s3, .ref s4])), (s1, .inl (cI, 6, .inl so)), (s2, .inl (cI, 6, .inl sp)), (s3, .inr (1, [.long tu, .long tl])), (s4, .inr (1, [.long ku, .long kl]))])) s.heap H locs := jS_perm (List.perm_iff_count.mpr (fun z => by simp only [List.count_append, List.count_cons, List.count_nil]; ac_rfl)) hS
      refine lv_aload_n hx hb dX9_ohms_49 rfl (lv_at hl 1 rfl) ?_
      refine va_get (D := D) (ci := 10) (v := .ref an) (C := RX9) (T := TX9) (N := 5) hx hb hts inX9 hown hK hS.1 0 rfl rfl 3 (by decide) k2 (fun _ h => h) rfl dX9_ohms_50 ?_
      refine lv_iload_n hx hb dX9_ohms_53 rfl (lv_at hl 3 rfl) ?_
      obtain ⟨o_10, h_11, hE⟩ := jbd hE
      refine j_Vl (As := [.int a2]) (rest := []) (wc := [(an, .inr (1, [.long o_8.1, .long o_8.2]))]) (w1 := [(an, .inr (1, [.long o_8.1, .long o_8.2]))]) (wf := [(an, .inr (1, [.long o_8.1, .long o_8.2]))] ++ (wN ++ [(x0, .inr (10, [.ref lp, .ref n0, .ref s0, .ref an, .long (tr + o_6.1.toInt64)])), (s0, .inr (8, [.ref s1, .ref s2, .int ss, .ref s3, .ref s4])), (s1, .inl (cI, 6, .inl so)), (s2, .inl (cI, 6, .inl sp)), (s3, .inr (1, [.long tu, .long tl])), (s4, .inr (1, [.long ku, .long kl]))])) (vc := (RX0, TX0, 2)) C hK hS (jcut_perm (wr := wN ++ [(x0, .inr (10, [.ref lp, .ref n0, .ref s0, .ref an, .long (tr + o_6.1.toInt64)])), (s0, .inr (8, [.ref s1, .ref s2, .int ss, .ref s3, .ref s4])), (s1, .inl (cI, 6, .inl so)), (s2, .inl (cI, 6, .inl sp)), (s3, .inr (1, [.long tu, .long tl])), (s4, .inr (1, [.long ku, .long kl]))]) hA hS (List.perm_iff_count.mpr (fun z => by simp only [List.count_append, List.count_cons, List.count_nil]; ac_rfl))) (tX0_part l D an cI cJ cZ cW cS cO cG o_8.1 o_8.2 a2 h_11) (cwV 1 hts gX9_ohms_X0_part rfl rfl rfl (by decide +kernel) ⟨Nat.le_of_ble_eq_true rfl, Nat.le_of_ble_eq_true rfl⟩) (q0 := 0) rfl (ci := 1) rfl rfl hl.1 rfl (Nat.le_of_ble_eq_true rfl) dX9_ohms_54 ⟨Nat.zero_le _, Nat.zero_le _⟩ (fun H locs hS => ?_)
      have hS : jS D vwCl A ([(x0, .inr (10, [.ref lp, .ref n0, .ref s0, .ref an, .long (tr + o_6.1.toInt64)]))] ++ (wN ++ [(an, .inr (1, [.long o_8.1, .long o_8.2])), (s0, .inr (8, [.ref s1, .ref s2, .int ss, .ref s3, .ref s4])), (s1, .inl (cI, 6, .inl so)), (s2, .inl (cI, 6, .inl sp)), (s3, .inr (1, [.long tu, .long tl])), (s4, .inr (1, [.long ku, .long kl]))])) s.heap H locs := jS_perm (List.perm_iff_count.mpr (fun z => by simp only [List.count_append, List.count_cons, List.count_nil]; ac_rfl)) hS
      refine lv_l2i (v := o_10.toInt32) hx hb dX9_ohms_57 rfl ?_
      obtain rfl := jsm hE
      exact ret ⟨rfl, _, hw, rfl⟩ hS rfl dX9_ohms_58
    · have hE := jt hE c_5
      refine lv_iconst (v := (-1 : Int32)) hx hb dX9_ohms_22 (by decide) ?_
      obtain rfl := jsm hE
      exact ret ⟨rfl, _, hw, rfl⟩ hS rfl dX9_ohms_23
  · subst er
    have hE := jf hE c_1
    refine lv_astore_nN (lv' := [(3, .null), (0, .ref x0), (1, .int a1), (2, .int a2)]) hx hb dX9_ohms_8 rfl hl (by decide) rfl (fun ls hl => ?_)
    refine lv_aload_nN hx hb dX9_ohms_9 rfl (lv_at hl 0 rfl) ?_
    refine lv_ifnullN (tgt := 22) hx hb dX9_ohms_10 (by decide) ?_
    refine lv_iconst (v := (-1 : Int32)) hx hb dX9_ohms_22 (by decide) ?_
    obtain rfl := jsm hE
    exact ret ⟨rfl, _, hw, rfl⟩ hS rfl dX9_ohms_23
def fX9_about (a1 : Int32) (a2 : Int32) (size : Int32) (wk : Nat → Int32) (w1 : Nat → Int32) (w2 : Nat → Int32) : Option (Int32) :=
  if jok a1 size.toNatClampNeg then
  if a2 = (0 : Int32) then
  some (wk a1.toNatClampNeg)
  else
  if a2 = (1 : Int32) then
  some (w1 a1.toNatClampNeg)
  else
  if a2 = (2 : Int32) then
  some (w2 a1.toNatClampNeg)
  else
  some (-1 : Int32)
  else
  some (-1 : Int32)
abbrev rmX9_about : Room := { frames := 1, cells := 0, slots := 0, locals := 21 }
set_option maxHeartbeats 4000000 in
set_option maxRecDepth 100000 in
theorem tX9_about (l : Launch) (D : va_G) (x0 lp an s0 s1 s2 s3 s4 n0 n1 n2 n3 n4 n5 n6 : Nat) (cI cJ cZ cW cS cO cG : ClassId) (size : Int32) (wk : Nat → Int32) (w1 : Nat → Int32) (w2 : Nat → Int32) (wq : Nat → Int32) (wm : Nat → Int32) (flows : Nat → Int64) (mu : Int64) (ml : Int64) (nb : Nat → Int32) (lines : Nat → Nat → Int64) (lineOf : Nat → Int32) (lc : Int32) (tr : Int64) (au : Int64) (al : Int64) (ss : Int32) (so : Nat → Int32) (sp : Nat → Int32) (tu : Int64) (tl : Int64) (ku : Int64) (kl : Int64) (a1 : Int32) (a2 : Int32) {o : Int32} (hE : fX9_about a1 a2 size wk w1 w2 = some o) {wN : va_W} (hw : NP n0 n1 n2 n3 n4 n5 n6 cI cJ cW cG size wk w1 w2 wq wm flows mu ml nb lines lineOf lc wN) : JQi l yX9_about wsX9_about rmX9_about D vwCl (TY cI cJ cZ cW cS cO cG) [.ref x0, .int a1, .int a2] ([(x0, .inr (10, [.ref lp, .ref n0, .ref s0, .ref an, .long tr]))] ++ (wN ++ [(an, .inr (1, [.long au, .long al])), (s0, .inr (8, [.ref s1, .ref s2, .int ss, .ref s3, .ref s4])), (s1, .inl (cI, 6, .inl so)), (s2, .inl (cI, 6, .inl sp)), (s3, .inr (1, [.long tu, .long tl])), (s4, .inr (1, [.long ku, .long kl]))])) (fun x v => x = o ∧ ∃ wM, NP n0 n1 n2 n3 n4 n5 n6 cI cJ cW cG size wk w1 w2 wq wm flows mu ml nb lines lineOf lc wM ∧ v = [(x0, .inr (10, [.ref lp, .ref n0, .ref s0, .ref an, .long tr]))] ++ (wM ++ [(an, .inr (1, [.long au, .long al])), (s0, .inr (8, [.ref s1, .ref s2, .int ss, .ref s3, .ref s4])), (s1, .inl (cI, 6, .inl so)), (s2, .inl (cI, 6, .inl sp)), (s3, .inr (1, [.long tu, .long tl])), (s4, .inr (1, [.long ku, .long kl]))])) := by
  haveI hdec : DecidableEq (Nat × va_E) := Classical.typeDecidableEq _
  refine JQi.of (cc := cX9_about) (maxL := 4) (by decide) rfl (Nat.le_of_ble_eq_true rfl) ?_
  intro p e s m args below meth c A ls Q C hK hA ret hS hl
  obtain ⟨⟨hx, hb, hml, hown, hts⟩, -⟩ := id C
  have hl : lv_has ls 4 [(0, .ref x0), (1, .int a1), (2, .int a2)] := hl
  have inX9 : ∀ w ∈ u_ws RX9 TX9 5, w ∈ wsX9_about := by decide +kernel
  have inX4 : ∀ w ∈ u_ws RX4 TX4 3, w ∈ wsX9_about := by decide +kernel
  have inX2 : ∀ w ∈ u_ws RX2 TX2 4, w ∈ wsX9_about := by decide +kernel
  have inX8 : ∀ w ∈ u_ws RX8 TX8 5, w ∈ wsX9_about := by decide +kernel
  have k0 := hts (.fieldLink RX9 19 "OhmNets" "net" "LOhmNets$Net;") (by decide +kernel)
  have k1 := hts (.fieldLink RX9 137 "OhmNets$OneWire" "kind" "I") (by decide +kernel)
  have k2 := hts (.fieldLink RX9 140 "OhmNets$OneWire" "first" "I") (by decide +kernel)
  have k3 := hts (.fieldLink RX9 143 "OhmNets$OneWire" "second" "I") (by decide +kernel)
  refine lv_aload_n hx hb dX9_about_0 rfl (lv_at hl 0 rfl) ?_
  refine va_get (D := D) (ci := 10) (v := .ref n0) (C := RX9) (T := TX9) (N := 5) hx hb hts inX9 hown hK hS.1 0 rfl rfl 1 (by decide) k0 (fun _ h => h) rfl dX9_about_1 ?_
  refine lv_iload_n hx hb dX9_about_4 rfl (lv_at hl 1 rfl) ?_
  refine j_QVqp (As := [.int a1]) (rest := []) (vc := (RX3, TX3, 8)) C hK hA hS cperm (tX3_at l D n0 n1 n2 n3 n4 n5 n6 cI cJ cZ cW cS cO cG size wk w1 w2 wq wm flows mu ml nb lines lineOf lc a1 hw) (cwV 1 hts gX9_about_X3_at rfl rfl rfl (by decide +kernel) ⟨Nat.le_of_ble_eq_true rfl, Nat.le_of_ble_eq_true rfl⟩) (q0 := 0) (NP_head hw) (ci := 4) rfl rfl hl.1 rfl (Nat.le_of_ble_eq_true rfl) dX9_about_5 ⟨Nat.zero_le _, Nat.zero_le _⟩ (fun r wN H locs hp hS => ?_)
  obtain ⟨hN, L, wa, ga, f, hwN, hW, hG, hr⟩ := hp
  have hw : NP n0 n1 n2 n3 n4 n5 n6 cI cJ cW cG size wk w1 w2 wq wm flows mu ml nb lines lineOf lc wN := ⟨hN, L, wa, ga, f, hwN, hW, hG⟩
  have hS := jS_perm cperm.symm hS
  rcases hr with ⟨c_1, a_2, er, ma_2, fa_2⟩ | ⟨c_1, er⟩
  · subst er
    have hE := jt hE c_1
    refine lv_astore_n (lv' := [(3, .ref a_2), (0, .ref x0), (1, .int a1), (2, .int a2)]) hx hb dX9_about_8 rfl hl (by decide) rfl (fun ls hl => ?_)
    refine lv_aload_n hx hb dX9_about_9 rfl (lv_at hl 0 rfl) ?_
    refine lv_ifnonnull (tgt := 15) hx hb dX9_about_10 (by decide) ?_
    refine lv_iload_n hx hb dX9_about_15 rfl (lv_at hl 3 rfl) ?_
    by_cases c_3 : a2 = (0 : Int32)
    · have hE := jt hE c_3
      refine lv_tableIn (tgt := 44) hx hb dX9_about_16 (by rw [c_3]; decide) (by rw [c_3]; decide) (by rw [c_3]; rfl) (by decide) ?_
      refine lv_aload_n hx hb dX9_about_44 rfl (lv_at hl 0 rfl) ?_
      have hS9 := hS
      rw [hwN] at hS9
      refine jn_kind (X := NWX n0 n1 n2 n3 n4 n5 n6 cI cJ cW cG wa ga size flows mu ml nb lineOf lc ++ ([(x0, .inr (10, [.ref lp, .ref n0, .ref s0, .ref an, .long tr]))] ++ [(an, .inr (1, [.long au, .long al])), (s0, .inr (8, [.ref s1, .ref s2, .int ss, .ref s3, .ref s4])), (s1, .inl (cI, 6, .inl so)), (s2, .inl (cI, 6, .inl sp)), (s3, .inr (1, [.long tu, .long tl])), (s4, .inr (1, [.long ku, .long kl]))])) hx hb hts inX4 inX2 inX8 hown hK (jS_perm (List.perm_iff_count.mpr (fun z => by simp only [List.count_append, List.count_cons, List.count_nil]; ac_rfl)) hS9).1 ma_2 fa_2 k1 dX9_about_45 ?_
      obtain rfl := jsm hE
      exact ret ⟨rfl, _, hw, rfl⟩ hS rfl dX9_about_48
    · have hE := jf hE c_3
      by_cases c_4 : a2 = (1 : Int32)
      · have hE := jt hE c_4
        refine lv_tableIn (tgt := 49) hx hb dX9_about_16 (by rw [c_4]; decide) (by rw [c_4]; decide) (by rw [c_4]; rfl) (by decide) ?_
        refine lv_aload_n hx hb dX9_about_49 rfl (lv_at hl 0 rfl) ?_
        have hS9 := hS
        rw [hwN] at hS9
        refine jn_first (X := NWX n0 n1 n2 n3 n4 n5 n6 cI cJ cW cG wa ga size flows mu ml nb lineOf lc ++ ([(x0, .inr (10, [.ref lp, .ref n0, .ref s0, .ref an, .long tr]))] ++ [(an, .inr (1, [.long au, .long al])), (s0, .inr (8, [.ref s1, .ref s2, .int ss, .ref s3, .ref s4])), (s1, .inl (cI, 6, .inl so)), (s2, .inl (cI, 6, .inl sp)), (s3, .inr (1, [.long tu, .long tl])), (s4, .inr (1, [.long ku, .long kl]))])) hx hb hts inX4 inX2 inX8 hown hK (jS_perm (List.perm_iff_count.mpr (fun z => by simp only [List.count_append, List.count_cons, List.count_nil]; ac_rfl)) hS9).1 ma_2 fa_2 k2 dX9_about_50 ?_
        obtain rfl := jsm hE
        exact ret ⟨rfl, _, hw, rfl⟩ hS rfl dX9_about_53
      · have hE := jf hE c_4
        by_cases c_5 : a2 = (2 : Int32)
        · have hE := jt hE c_5
          refine lv_tableIn (tgt := 54) hx hb dX9_about_16 (by rw [c_5]; decide) (by rw [c_5]; decide) (by rw [c_5]; rfl) (by decide) ?_
          refine lv_aload_n hx hb dX9_about_54 rfl (lv_at hl 0 rfl) ?_
          have hS9 := hS
          rw [hwN] at hS9
          refine jn_second (X := NWX n0 n1 n2 n3 n4 n5 n6 cI cJ cW cG wa ga size flows mu ml nb lineOf lc ++ ([(x0, .inr (10, [.ref lp, .ref n0, .ref s0, .ref an, .long tr]))] ++ [(an, .inr (1, [.long au, .long al])), (s0, .inr (8, [.ref s1, .ref s2, .int ss, .ref s3, .ref s4])), (s1, .inl (cI, 6, .inl so)), (s2, .inl (cI, 6, .inl sp)), (s3, .inr (1, [.long tu, .long tl])), (s4, .inr (1, [.long ku, .long kl]))])) hx hb hts inX4 inX2 inX8 hown hK (jS_perm (List.perm_iff_count.mpr (fun z => by simp only [List.count_append, List.count_cons, List.count_nil]; ac_rfl)) hS9).1 ma_2 fa_2 k3 dX9_about_55 ?_
          obtain rfl := jsm hE
          exact ret ⟨rfl, _, hw, rfl⟩ hS rfl dX9_about_58
        · have hE := jf hE c_5
          refine lv_tableOut (tgt := 59) hx hb dX9_about_16 (jsw3 c_3 c_4 c_5) (by decide) ?_
          refine lv_iconst (v := (-1 : Int32)) hx hb dX9_about_59 (by decide) ?_
          obtain rfl := jsm hE
          exact ret ⟨rfl, _, hw, rfl⟩ hS rfl dX9_about_60
  · subst er
    have hE := jf hE c_1
    refine lv_astore_nN (lv' := [(3, .null), (0, .ref x0), (1, .int a1), (2, .int a2)]) hx hb dX9_about_8 rfl hl (by decide) rfl (fun ls hl => ?_)
    refine lv_aload_nN hx hb dX9_about_9 rfl (lv_at hl 0 rfl) ?_
    refine lv_ifnonnullN hx hb dX9_about_10 ?_
    refine lv_iconst (v := (-1 : Int32)) hx hb dX9_about_13 (by decide) ?_
    obtain rfl := jsm hE
    exact ret ⟨rfl, _, hw, rfl⟩ hS rfl dX9_about_14
def fX9_between (a1 : Int32) (a2 : Int32) (a3 : Int32) (size : Int32) (w1 : Nat → Int32) (w2 : Nat → Int32) (flows : Nat → Int64) (lines : Nat → Nat → Int64) (lineOf : Nat → Int32) (lc : Int32) (au : Int64) (al : Int64) : Option (Int64 × (Nat → Nat → Int64) × (Nat → Int32) × Int32 × Int64 × Int64) :=
  (fX9_isKnot a1).bind (fun o_1 => 
  if o_1 = 0 then
  some ((-1 : Int64), lines, lineOf, lc, au, al)
  else
  (fX9_isKnot a2).bind (fun o_4 => 
  if o_4 = 0 then
  some ((-1 : Int64), lines, lineOf, lc, au, al)
  else
  (fX9_isWithin a3 (0 : Int32) (1 : Int32)).bind (fun o_7 => 
  if o_7 = 0 then
  some ((-1 : Int64), lines, lineOf, lc, au, al)
  else
  (fX3_hangTogether a1 a2 size w1 w2).bind (fun o_10 => 
  if o_10 = 0 then
  some ((-2 : Int64), lines, lineOf, lc, au, al)
  else
  (fX3_solveBetween a1 a2 size w1 w2 flows lines lineOf lc).bind (fun o_13 => 
  (fX0_part a3 o_13.2.2.2.1 o_13.2.2.2.2).bind (fun o_15 => 
  some (o_15, o_13.1, o_13.2.1, o_13.2.2.1, o_13.2.2.2.1, o_13.2.2.2.2)))))))
abbrev rmX9_between : Room := { frames := 4, cells := 0, slots := 0, locals := 103 }
set_option maxHeartbeats 4000000 in
set_option maxRecDepth 100000 in
theorem tX9_between (l : Launch) (D : va_G) (x0 lp an s0 s1 s2 s3 s4 n0 n1 n2 n3 n4 n5 n6 : Nat) (cI cJ cZ cW cS cO cG : ClassId) (size : Int32) (wk : Nat → Int32) (w1 : Nat → Int32) (w2 : Nat → Int32) (wq : Nat → Int32) (wm : Nat → Int32) (flows : Nat → Int64) (mu : Int64) (ml : Int64) (nb : Nat → Int32) (lines : Nat → Nat → Int64) (lineOf : Nat → Int32) (lc : Int32) (tr : Int64) (au : Int64) (al : Int64) (ss : Int32) (so : Nat → Int32) (sp : Nat → Int32) (tu : Int64) (tl : Int64) (ku : Int64) (kl : Int64) (a1 : Int32) (a2 : Int32) (a3 : Int32) {o : Int64 × (Nat → Nat → Int64) × (Nat → Int32) × Int32 × Int64 × Int64} (hE : fX9_between a1 a2 a3 size w1 w2 flows lines lineOf lc au al = some o) {wN : va_W} (hw : NP n0 n1 n2 n3 n4 n5 n6 cI cJ cW cG size wk w1 w2 wq wm flows mu ml nb lines lineOf lc wN) : JQl l yX9_between wsX9_between rmX9_between D vwCl (TY cI cJ cZ cW cS cO cG) [.ref x0, .int a1, .int a2, .int a3] ([(x0, .inr (10, [.ref lp, .ref n0, .ref s0, .ref an, .long tr]))] ++ (wN ++ [(an, .inr (1, [.long au, .long al])), (s0, .inr (8, [.ref s1, .ref s2, .int ss, .ref s3, .ref s4])), (s1, .inl (cI, 6, .inl so)), (s2, .inl (cI, 6, .inl sp)), (s3, .inr (1, [.long tu, .long tl])), (s4, .inr (1, [.long ku, .long kl]))])) (fun x v => x = o.1 ∧ ∃ wM, NP n0 n1 n2 n3 n4 n5 n6 cI cJ cW cG size wk w1 w2 wq wm flows mu ml nb o.2.1 o.2.2.1 o.2.2.2.1 wM ∧ v = [(x0, .inr (10, [.ref lp, .ref n0, .ref s0, .ref an, .long tr]))] ++ (wM ++ [(an, .inr (1, [.long o.2.2.2.2.1, .long o.2.2.2.2.2])), (s0, .inr (8, [.ref s1, .ref s2, .int ss, .ref s3, .ref s4])), (s1, .inl (cI, 6, .inl so)), (s2, .inl (cI, 6, .inl sp)), (s3, .inr (1, [.long tu, .long tl])), (s4, .inr (1, [.long ku, .long kl]))])) := by
  haveI hdec : DecidableEq (Nat × va_E) := Classical.typeDecidableEq _
  refine JQl.of (cc := cX9_between) (maxL := 4) (by decide) rfl (Nat.le_of_ble_eq_true rfl) ?_
  intro p e s m args below meth c A ls Q C hK hA ret hS hl
  obtain ⟨⟨hx, hb, hml, hown, hts⟩, -⟩ := id C
  have hl : lv_has ls 4 [(0, .ref x0), (1, .int a1), (2, .int a2), (3, .int a3)] := hl
  have inX9 : ∀ w ∈ u_ws RX9 TX9 5, w ∈ wsX9_between := by decide +kernel
  have k0 := hts (.constantLong RX9 150 (-1)) (by decide +kernel)
  have k1 := hts (.fieldLink RX9 19 "OhmNets" "net" "LOhmNets$Net;") (by decide +kernel)
  have k2 := hts (.fieldLink RX9 33 "OhmNets" "answer" "LOhmNets$Fraction;") (by decide +kernel)
  have k3 := hts (.constantLong RX9 155 (-2)) (by decide +kernel)
  refine lv_iload_n hx hb dX9_between_0 rfl (lv_at hl 1 rfl) ?_
  obtain ⟨o_1, h_2, hE⟩ := jbd hE
  refine j_Si (As := [.int a1]) (rest := []) (wf := [(x0, .inr (10, [.ref lp, .ref n0, .ref s0, .ref an, .long tr]))] ++ (wN ++ [(an, .inr (1, [.long au, .long al])), (s0, .inr (8, [.ref s1, .ref s2, .int ss, .ref s3, .ref s4])), (s1, .inl (cI, 6, .inl so)), (s2, .inl (cI, 6, .inl sp)), (s3, .inr (1, [.long tu, .long tl])), (s4, .inr (1, [.long ku, .long kl]))])) C hK hS (jcut_nil hA hS) (tX9_isKnot l D cI cJ cZ cW cS cO cG a1 h_2) (va_cwS 1 hts gX9_between_X9_isKnot rfl rfl rfl (by decide +kernel) ⟨Nat.le_of_ble_eq_true rfl, Nat.le_of_ble_eq_true rfl⟩) rfl hl.1 rfl (Nat.le_of_ble_eq_true rfl) dX9_between_1 ⟨Nat.zero_le _, Nat.zero_le _⟩ (fun H locs hS => ?_)
  refine lv_if_eq (tgt := 23) hx hb dX9_between_4 (by decide) (fun c_3 => ?_) (fun c_3 => ?_)
  · have hE := jt hE c_3
    refine lv_ldc2 (v := (-1 : Int64)) hx hb hown k0 dX9_between_23 ?_
    obtain rfl := jsm hE
    exact ret ⟨rfl, _, hw, rfl⟩ hS dX9_between_26
  · have hE := jf hE c_3
    refine lv_iload_n hx hb dX9_between_7 rfl (lv_at hl 2 rfl) ?_
    obtain ⟨o_4, h_5, hE⟩ := jbd hE
    refine j_Si (As := [.int a2]) (rest := []) (wf := [(x0, .inr (10, [.ref lp, .ref n0, .ref s0, .ref an, .long tr]))] ++ (wN ++ [(an, .inr (1, [.long au, .long al])), (s0, .inr (8, [.ref s1, .ref s2, .int ss, .ref s3, .ref s4])), (s1, .inl (cI, 6, .inl so)), (s2, .inl (cI, 6, .inl sp)), (s3, .inr (1, [.long tu, .long tl])), (s4, .inr (1, [.long ku, .long kl]))])) C hK hS (jcut_nil hA hS) (tX9_isKnot l D cI cJ cZ cW cS cO cG a2 h_5) (va_cwS 1 hts gX9_between_X9_isKnot rfl rfl rfl (by decide +kernel) ⟨Nat.le_of_ble_eq_true rfl, Nat.le_of_ble_eq_true rfl⟩) rfl hl.1 rfl (Nat.le_of_ble_eq_true rfl) dX9_between_8 ⟨Nat.zero_le _, Nat.zero_le _⟩ (fun H locs hS => ?_)
    refine lv_if_eq (tgt := 23) hx hb dX9_between_11 (by decide) (fun c_6 => ?_) (fun c_6 => ?_)
    · have hE := jt hE c_6
      refine lv_ldc2 (v := (-1 : Int64)) hx hb hown k0 dX9_between_23 ?_
      obtain rfl := jsm hE
      exact ret ⟨rfl, _, hw, rfl⟩ hS dX9_between_26
    · have hE := jf hE c_6
      refine lv_iload_n hx hb dX9_between_14 rfl (lv_at hl 3 rfl) ?_
      refine lv_iconst (v := (0 : Int32)) hx hb dX9_between_15 (by decide) ?_
      refine lv_iconst (v := (1 : Int32)) hx hb dX9_between_16 (by decide) ?_
      obtain ⟨o_7, h_8, hE⟩ := jbd hE
      refine j_Si (As := [.int a3, .int (0 : Int32), .int (1 : Int32)]) (rest := []) (wf := [(x0, .inr (10, [.ref lp, .ref n0, .ref s0, .ref an, .long tr]))] ++ (wN ++ [(an, .inr (1, [.long au, .long al])), (s0, .inr (8, [.ref s1, .ref s2, .int ss, .ref s3, .ref s4])), (s1, .inl (cI, 6, .inl so)), (s2, .inl (cI, 6, .inl sp)), (s3, .inr (1, [.long tu, .long tl])), (s4, .inr (1, [.long ku, .long kl]))])) C hK hS (jcut_nil hA hS) (tX9_isWithin l D cI cJ cZ cW cS cO cG a3 (0 : Int32) (1 : Int32) h_8) (va_cwS 3 hts gX9_between_X9_isWithin rfl rfl rfl (by decide +kernel) ⟨Nat.le_of_ble_eq_true rfl, Nat.le_of_ble_eq_true rfl⟩) rfl hl.1 rfl (Nat.le_of_ble_eq_true rfl) dX9_between_17 ⟨Nat.zero_le _, Nat.zero_le _⟩ (fun H locs hS => ?_)
      refine lv_if_ne (tgt := 27) hx hb dX9_between_20 (by decide) (fun c_9 => ?_) (fun c_9 => ?_)
      · have hE := jf hE c_9
        refine lv_aload_n hx hb dX9_between_27 rfl (lv_at hl 0 rfl) ?_
        refine va_get (D := D) (ci := 10) (v := .ref n0) (C := RX9) (T := TX9) (N := 5) hx hb hts inX9 hown hK hS.1 0 rfl rfl 1 (by decide) k1 (fun _ h => h) rfl dX9_between_28 ?_
        refine lv_iload_n hx hb dX9_between_31 rfl (lv_at hl 1 rfl) ?_
        refine lv_iload_n hx hb dX9_between_32 rfl (lv_at hl 2 rfl) ?_
        obtain ⟨o_10, h_11, hE⟩ := jbd hE
        refine j_QVip (As := [.int a1, .int a2]) (rest := []) (vc := (RX3, TX3, 8)) C hK hA hS cperm (tX3_hangTogether l D n0 n1 n2 n3 n4 n5 n6 cI cJ cZ cW cS cO cG size wk w1 w2 wq wm flows mu ml nb lines lineOf lc a1 a2 h_11 hw) (cwV 2 hts gX9_between_X3_hangTogether rfl rfl rfl (by decide +kernel) ⟨Nat.le_of_ble_eq_true rfl, Nat.le_of_ble_eq_true rfl⟩) (q0 := 0) (NP_head hw) (ci := 4) rfl rfl hl.1 rfl (Nat.le_of_ble_eq_true rfl) dX9_between_33 ⟨Nat.zero_le _, Nat.zero_le _⟩ (fun r wN H locs hp hS => ?_)
        obtain ⟨er, hw⟩ := hp
        subst r
        have hS := jS_perm cperm.symm hS
        refine lv_if_ne (tgt := 43) hx hb dX9_between_36 (by decide) (fun c_12 => ?_) (fun c_12 => ?_)
        · have hE := jf hE c_12
          refine lv_aload_n hx hb dX9_between_43 rfl (lv_at hl 0 rfl) ?_
          refine va_get (D := D) (ci := 10) (v := .ref n0) (C := RX9) (T := TX9) (N := 5) hx hb hts inX9 hown hK hS.1 0 rfl rfl 1 (by decide) k1 (fun _ h => h) rfl dX9_between_44 ?_
          refine lv_iload_n hx hb dX9_between_47 rfl (lv_at hl 1 rfl) ?_
          refine lv_iload_n hx hb dX9_between_48 rfl (lv_at hl 2 rfl) ?_
          refine lv_aload_n hx hb dX9_between_49 rfl (lv_at hl 0 rfl) ?_
          refine va_get (D := D) (ci := 10) (v := .ref an) (C := RX9) (T := TX9) (N := 5) hx hb hts inX9 hown hK hS.1 0 rfl rfl 3 (by decide) k2 (fun _ h => h) rfl dX9_between_50 ?_
          obtain ⟨o_13, h_14, hE⟩ := jbd hE
          refine j_QVvp (wc := [] ++ (_ ++ [(an, .inr (1, [.long au, .long al]))])) (wr := [(x0, .inr (10, [.ref lp, .ref n0, .ref s0, .ref an, .long tr])), (s0, .inr (8, [.ref s1, .ref s2, .int ss, .ref s3, .ref s4])), (s1, .inl (cI, 6, .inl so)), (s2, .inl (cI, 6, .inl sp)), (s3, .inr (1, [.long tu, .long tl])), (s4, .inr (1, [.long ku, .long kl]))]) (As := [.int a1, .int a2, .ref an]) (rest := []) (vc := (RX3, TX3, 8)) C hK hA hS (List.perm_iff_count.mpr (fun z => by simp only [List.count_append, List.count_cons, List.count_nil]; ac_rfl)) (tX3_solveBetween l D n0 n1 n2 n3 n4 n5 n6 an cI cJ cZ cW cS cO cG size wk w1 w2 wq wm flows mu ml nb lines lineOf lc au al a1 a2 h_14 hw) (cwV 3 hts gX9_between_X3_solveBetween rfl rfl rfl (by decide +kernel) ⟨Nat.le_of_ble_eq_true rfl, Nat.le_of_ble_eq_true rfl⟩) (q0 := 0) (NP_head2 hw) (ci := 4) rfl rfl hl.1 rfl (Nat.le_of_ble_eq_true rfl) dX9_between_53 ⟨Nat.zero_le _, Nat.zero_le _⟩ (fun v H locs hp hS => ?_)
          obtain ⟨wN, hw, rfl⟩ := hp
          have hS : jS D vwCl A ([(x0, .inr (10, [.ref lp, .ref n0, .ref s0, .ref an, .long tr]))] ++ (wN ++ [(an, .inr (1, [.long o_13.2.2.2.1, .long o_13.2.2.2.2])), (s0, .inr (8, [.ref s1, .ref s2, .int ss, .ref s3, .ref s4])), (s1, .inl (cI, 6, .inl so)), (s2, .inl (cI, 6, .inl sp)), (s3, .inr (1, [.long tu, .long tl])), (s4, .inr (1, [.long ku, .long kl]))])) s.heap H locs := jS_perm (List.perm_iff_count.mpr (fun z => by simp only [List.count_append, List.count_cons, List.count_nil]; ac_rfl)) hS
          refine lv_aload_n hx hb dX9_between_56 rfl (lv_at hl 0 rfl) ?_
          refine va_get (D := D) (ci := 10) (v := .ref an) (C := RX9) (T := TX9) (N := 5) hx hb hts inX9 hown hK hS.1 0 rfl rfl 3 (by decide) k2 (fun _ h => h) rfl dX9_between_57 ?_
          refine lv_iload_n hx hb dX9_between_60 rfl (lv_at hl 3 rfl) ?_
          obtain ⟨o_15, h_16, hE⟩ := jbd hE
          refine j_Vl (As := [.int a3]) (rest := []) (wc := [(an, .inr (1, [.long o_13.2.2.2.1, .long o_13.2.2.2.2]))]) (w1 := [(an, .inr (1, [.long o_13.2.2.2.1, .long o_13.2.2.2.2]))]) (wf := [(an, .inr (1, [.long o_13.2.2.2.1, .long o_13.2.2.2.2]))] ++ (wN ++ [(x0, .inr (10, [.ref lp, .ref n0, .ref s0, .ref an, .long tr])), (s0, .inr (8, [.ref s1, .ref s2, .int ss, .ref s3, .ref s4])), (s1, .inl (cI, 6, .inl so)), (s2, .inl (cI, 6, .inl sp)), (s3, .inr (1, [.long tu, .long tl])), (s4, .inr (1, [.long ku, .long kl]))])) (vc := (RX0, TX0, 2)) C hK hS (jcut_perm (wr := wN ++ [(x0, .inr (10, [.ref lp, .ref n0, .ref s0, .ref an, .long tr])), (s0, .inr (8, [.ref s1, .ref s2, .int ss, .ref s3, .ref s4])), (s1, .inl (cI, 6, .inl so)), (s2, .inl (cI, 6, .inl sp)), (s3, .inr (1, [.long tu, .long tl])), (s4, .inr (1, [.long ku, .long kl]))]) hA hS (List.perm_iff_count.mpr (fun z => by simp only [List.count_append, List.count_cons, List.count_nil]; ac_rfl))) (tX0_part l D an cI cJ cZ cW cS cO cG o_13.2.2.2.1 o_13.2.2.2.2 a3 h_16) (cwV 1 hts gX9_between_X0_part rfl rfl rfl (by decide +kernel) ⟨Nat.le_of_ble_eq_true rfl, Nat.le_of_ble_eq_true rfl⟩) (q0 := 0) rfl (ci := 1) rfl rfl hl.1 rfl (Nat.le_of_ble_eq_true rfl) dX9_between_61 ⟨Nat.zero_le _, Nat.zero_le _⟩ (fun H locs hS => ?_)
          have hS : jS D vwCl A ([(x0, .inr (10, [.ref lp, .ref n0, .ref s0, .ref an, .long tr]))] ++ (wN ++ [(an, .inr (1, [.long o_13.2.2.2.1, .long o_13.2.2.2.2])), (s0, .inr (8, [.ref s1, .ref s2, .int ss, .ref s3, .ref s4])), (s1, .inl (cI, 6, .inl so)), (s2, .inl (cI, 6, .inl sp)), (s3, .inr (1, [.long tu, .long tl])), (s4, .inr (1, [.long ku, .long kl]))])) s.heap H locs := jS_perm (List.perm_iff_count.mpr (fun z => by simp only [List.count_append, List.count_cons, List.count_nil]; ac_rfl)) hS
          obtain rfl := jsm hE
          exact ret ⟨rfl, _, hw, rfl⟩ hS dX9_between_64
        · have hE := jt hE c_12
          refine lv_ldc2 (v := (-2 : Int64)) hx hb hown k3 dX9_between_39 ?_
          obtain rfl := jsm hE
          exact ret ⟨rfl, _, hw, rfl⟩ hS dX9_between_42
      · have hE := jt hE c_9
        refine lv_ldc2 (v := (-1 : Int64)) hx hb hown k0 dX9_between_23 ?_
        obtain rfl := jsm hE
        exact ret ⟨rfl, _, hw, rfl⟩ hS dX9_between_26
def fX9_through (a1 : Int32) (a2 : Int32) (a3 : Int32) (a4 : Int32) (size : Int32) (w1 : Nat → Int32) (w2 : Nat → Int32) (flows : Nat → Int64) (lines : Nat → Nat → Int64) (lineOf : Nat → Int32) (lc : Int32) (au : Int64) (al : Int64) : Option (Int64 × (Nat → Nat → Int64) × (Nat → Int32) × Int32 × Int64 × Int64) :=
  if jok a1 size.toNatClampNeg then
  (fX9_areTwoKnots a2 a3).bind (fun o_3 => 
  if o_3 = 0 then
  some ((-9223372036854775808 : Int64), lines, lineOf, lc, au, al)
  else
  (fX9_isWithin a4 (0 : Int32) (1 : Int32)).bind (fun o_6 => 
  if o_6 = 0 then
  some ((-9223372036854775808 : Int64), lines, lineOf, lc, au, al)
  else
  (fX3_hangTogether a2 a3 size w1 w2).bind (fun o_9 => 
  if o_9 = 0 then
  some ((-9223372036854775808 : Int64), lines, lineOf, lc, au, al)
  else
  (fX3_solveThrough a1 a2 a3 size w1 w2 flows lines lineOf).bind (fun o_12 => 
  (fX0_part a4 o_12.2.2.2.1 o_12.2.2.2.2).bind (fun o_14 => 
  some (o_14, o_12.1, o_12.2.1, o_12.2.2.1, o_12.2.2.2.1, o_12.2.2.2.2))))))
  else
  some ((-9223372036854775808 : Int64), lines, lineOf, lc, au, al)
abbrev rmX9_through : Room := { frames := 4, cells := 0, slots := 0, locals := 106 }
set_option maxHeartbeats 4000000 in
set_option maxRecDepth 100000 in
theorem tX9_through (l : Launch) (D : va_G) (x0 lp an s0 s1 s2 s3 s4 n0 n1 n2 n3 n4 n5 n6 : Nat) (cI cJ cZ cW cS cO cG : ClassId) (size : Int32) (wk : Nat → Int32) (w1 : Nat → Int32) (w2 : Nat → Int32) (wq : Nat → Int32) (wm : Nat → Int32) (flows : Nat → Int64) (mu : Int64) (ml : Int64) (nb : Nat → Int32) (lines : Nat → Nat → Int64) (lineOf : Nat → Int32) (lc : Int32) (tr : Int64) (au : Int64) (al : Int64) (ss : Int32) (so : Nat → Int32) (sp : Nat → Int32) (tu : Int64) (tl : Int64) (ku : Int64) (kl : Int64) (a1 : Int32) (a2 : Int32) (a3 : Int32) (a4 : Int32) {o : Int64 × (Nat → Nat → Int64) × (Nat → Int32) × Int32 × Int64 × Int64} (hE : fX9_through a1 a2 a3 a4 size w1 w2 flows lines lineOf lc au al = some o) {wN : va_W} (hw : NP n0 n1 n2 n3 n4 n5 n6 cI cJ cW cG size wk w1 w2 wq wm flows mu ml nb lines lineOf lc wN) : JQl l yX9_through wsX9_through rmX9_through D vwCl (TY cI cJ cZ cW cS cO cG) [.ref x0, .int a1, .int a2, .int a3, .int a4] ([(x0, .inr (10, [.ref lp, .ref n0, .ref s0, .ref an, .long tr]))] ++ (wN ++ [(an, .inr (1, [.long au, .long al])), (s0, .inr (8, [.ref s1, .ref s2, .int ss, .ref s3, .ref s4])), (s1, .inl (cI, 6, .inl so)), (s2, .inl (cI, 6, .inl sp)), (s3, .inr (1, [.long tu, .long tl])), (s4, .inr (1, [.long ku, .long kl]))])) (fun x v => x = o.1 ∧ ∃ wM, NP n0 n1 n2 n3 n4 n5 n6 cI cJ cW cG size wk w1 w2 wq wm flows mu ml nb o.2.1 o.2.2.1 o.2.2.2.1 wM ∧ v = [(x0, .inr (10, [.ref lp, .ref n0, .ref s0, .ref an, .long tr]))] ++ (wM ++ [(an, .inr (1, [.long o.2.2.2.2.1, .long o.2.2.2.2.2])), (s0, .inr (8, [.ref s1, .ref s2, .int ss, .ref s3, .ref s4])), (s1, .inl (cI, 6, .inl so)), (s2, .inl (cI, 6, .inl sp)), (s3, .inr (1, [.long tu, .long tl])), (s4, .inr (1, [.long ku, .long kl]))])) := by
  haveI hdec : DecidableEq (Nat × va_E) := Classical.typeDecidableEq _
  refine JQl.of (cc := cX9_through) (maxL := 5) (by decide) rfl (Nat.le_of_ble_eq_true rfl) ?_
  intro p e s m args below meth c A ls Q C hK hA ret hS hl
  obtain ⟨⟨hx, hb, hml, hown, hts⟩, -⟩ := id C
  have hl : lv_has ls 5 [(0, .ref x0), (1, .int a1), (2, .int a2), (3, .int a3), (4, .int a4)] := hl
  have inX9 : ∀ w ∈ u_ws RX9 TX9 5, w ∈ wsX9_through := by decide +kernel
  have k0 := hts (.fieldLink RX9 19 "OhmNets" "net" "LOhmNets$Net;") (by decide +kernel)
  have k1 := hts (.constantLong RX9 163 (-9223372036854775808)) (by decide +kernel)
  have k2 := hts (.fieldLink RX9 33 "OhmNets" "answer" "LOhmNets$Fraction;") (by decide +kernel)
  refine lv_aload_n hx hb dX9_through_0 rfl (lv_at hl 0 rfl) ?_
  refine va_get (D := D) (ci := 10) (v := .ref n0) (C := RX9) (T := TX9) (N := 5) hx hb hts inX9 hown hK hS.1 0 rfl rfl 1 (by decide) k0 (fun _ h => h) rfl dX9_through_1 ?_
  refine lv_iload_n hx hb dX9_through_4 rfl (lv_at hl 1 rfl) ?_
  refine j_QVqp (As := [.int a1]) (rest := []) (vc := (RX3, TX3, 8)) C hK hA hS cperm (tX3_at l D n0 n1 n2 n3 n4 n5 n6 cI cJ cZ cW cS cO cG size wk w1 w2 wq wm flows mu ml nb lines lineOf lc a1 hw) (cwV 1 hts gX9_through_X3_at rfl rfl rfl (by decide +kernel) ⟨Nat.le_of_ble_eq_true rfl, Nat.le_of_ble_eq_true rfl⟩) (q0 := 0) (NP_head hw) (ci := 4) rfl rfl hl.1 rfl (Nat.le_of_ble_eq_true rfl) dX9_through_5 ⟨Nat.zero_le _, Nat.zero_le _⟩ (fun r wN H locs hp hS => ?_)
  obtain ⟨hN, L, wa, ga, f, hwN, hW, hG, hr⟩ := hp
  have hw : NP n0 n1 n2 n3 n4 n5 n6 cI cJ cW cG size wk w1 w2 wq wm flows mu ml nb lines lineOf lc wN := ⟨hN, L, wa, ga, f, hwN, hW, hG⟩
  have hS := jS_perm cperm.symm hS
  rcases hr with ⟨c_1, a_2, er, ma_2, fa_2⟩ | ⟨c_1, er⟩
  · subst er
    have hE := jt hE c_1
    refine lv_ifnull hx hb dX9_through_8 ?_
    refine lv_iload_n hx hb dX9_through_11 rfl (lv_at hl 2 rfl) ?_
    refine lv_iload_n hx hb dX9_through_12 rfl (lv_at hl 3 rfl) ?_
    obtain ⟨o_3, h_4, hE⟩ := jbd hE
    refine j_Si (As := [.int a2, .int a3]) (rest := []) (wf := [(x0, .inr (10, [.ref lp, .ref n0, .ref s0, .ref an, .long tr]))] ++ (wN ++ [(an, .inr (1, [.long au, .long al])), (s0, .inr (8, [.ref s1, .ref s2, .int ss, .ref s3, .ref s4])), (s1, .inl (cI, 6, .inl so)), (s2, .inl (cI, 6, .inl sp)), (s3, .inr (1, [.long tu, .long tl])), (s4, .inr (1, [.long ku, .long kl]))])) C hK hS (jcut_nil hA hS) (tX9_areTwoKnots l D cI cJ cZ cW cS cO cG a2 a3 h_4) (va_cwS 2 hts gX9_through_X9_areTwoKnots rfl rfl rfl (by decide +kernel) ⟨Nat.le_of_ble_eq_true rfl, Nat.le_of_ble_eq_true rfl⟩) rfl hl.1 rfl (Nat.le_of_ble_eq_true rfl) dX9_through_13 ⟨Nat.zero_le _, Nat.zero_le _⟩ (fun H locs hS => ?_)
    refine lv_if_eq (tgt := 29) hx hb dX9_through_16 (by decide) (fun c_5 => ?_) (fun c_5 => ?_)
    · have hE := jt hE c_5
      refine lv_ldc2 (v := (-9223372036854775808 : Int64)) hx hb hown k1 dX9_through_29 ?_
      obtain rfl := jsm hE
      exact ret ⟨rfl, _, hw, rfl⟩ hS dX9_through_32
    · have hE := jf hE c_5
      refine lv_iload hx hb dX9_through_19 (lv_at hl 4 rfl) ?_
      refine lv_iconst (v := (0 : Int32)) hx hb dX9_through_21 (by decide) ?_
      refine lv_iconst (v := (1 : Int32)) hx hb dX9_through_22 (by decide) ?_
      obtain ⟨o_6, h_7, hE⟩ := jbd hE
      refine j_Si (As := [.int a4, .int (0 : Int32), .int (1 : Int32)]) (rest := []) (wf := [(x0, .inr (10, [.ref lp, .ref n0, .ref s0, .ref an, .long tr]))] ++ (wN ++ [(an, .inr (1, [.long au, .long al])), (s0, .inr (8, [.ref s1, .ref s2, .int ss, .ref s3, .ref s4])), (s1, .inl (cI, 6, .inl so)), (s2, .inl (cI, 6, .inl sp)), (s3, .inr (1, [.long tu, .long tl])), (s4, .inr (1, [.long ku, .long kl]))])) C hK hS (jcut_nil hA hS) (tX9_isWithin l D cI cJ cZ cW cS cO cG a4 (0 : Int32) (1 : Int32) h_7) (va_cwS 3 hts gX9_through_X9_isWithin rfl rfl rfl (by decide +kernel) ⟨Nat.le_of_ble_eq_true rfl, Nat.le_of_ble_eq_true rfl⟩) rfl hl.1 rfl (Nat.le_of_ble_eq_true rfl) dX9_through_23 ⟨Nat.zero_le _, Nat.zero_le _⟩ (fun H locs hS => ?_)
      refine lv_if_ne (tgt := 33) hx hb dX9_through_26 (by decide) (fun c_8 => ?_) (fun c_8 => ?_)
      · have hE := jf hE c_8
        refine lv_aload_n hx hb dX9_through_33 rfl (lv_at hl 0 rfl) ?_
        refine va_get (D := D) (ci := 10) (v := .ref n0) (C := RX9) (T := TX9) (N := 5) hx hb hts inX9 hown hK hS.1 0 rfl rfl 1 (by decide) k0 (fun _ h => h) rfl dX9_through_34 ?_
        refine lv_iload_n hx hb dX9_through_37 rfl (lv_at hl 2 rfl) ?_
        refine lv_iload_n hx hb dX9_through_38 rfl (lv_at hl 3 rfl) ?_
        obtain ⟨o_9, h_10, hE⟩ := jbd hE
        refine j_QVip (As := [.int a2, .int a3]) (rest := []) (vc := (RX3, TX3, 8)) C hK hA hS cperm (tX3_hangTogether l D n0 n1 n2 n3 n4 n5 n6 cI cJ cZ cW cS cO cG size wk w1 w2 wq wm flows mu ml nb lines lineOf lc a2 a3 h_10 hw) (cwV 2 hts gX9_through_X3_hangTogether rfl rfl rfl (by decide +kernel) ⟨Nat.le_of_ble_eq_true rfl, Nat.le_of_ble_eq_true rfl⟩) (q0 := 0) (NP_head hw) (ci := 4) rfl rfl hl.1 rfl (Nat.le_of_ble_eq_true rfl) dX9_through_39 ⟨Nat.zero_le _, Nat.zero_le _⟩ (fun r wN H locs hp hS => ?_)
        obtain ⟨er, hw⟩ := hp
        subst r
        have hS := jS_perm cperm.symm hS
        refine lv_if_ne (tgt := 49) hx hb dX9_through_42 (by decide) (fun c_11 => ?_) (fun c_11 => ?_)
        · have hE := jf hE c_11
          refine lv_aload_n hx hb dX9_through_49 rfl (lv_at hl 0 rfl) ?_
          refine va_get (D := D) (ci := 10) (v := .ref n0) (C := RX9) (T := TX9) (N := 5) hx hb hts inX9 hown hK hS.1 0 rfl rfl 1 (by decide) k0 (fun _ h => h) rfl dX9_through_50 ?_
          refine lv_iload_n hx hb dX9_through_53 rfl (lv_at hl 1 rfl) ?_
          refine lv_iload_n hx hb dX9_through_54 rfl (lv_at hl 2 rfl) ?_
          refine lv_iload_n hx hb dX9_through_55 rfl (lv_at hl 3 rfl) ?_
          refine lv_aload_n hx hb dX9_through_56 rfl (lv_at hl 0 rfl) ?_
          refine va_get (D := D) (ci := 10) (v := .ref an) (C := RX9) (T := TX9) (N := 5) hx hb hts inX9 hown hK hS.1 0 rfl rfl 3 (by decide) k2 (fun _ h => h) rfl dX9_through_57 ?_
          obtain ⟨o_12, h_13, hE⟩ := jbd hE
          refine j_QVvp (wc := [] ++ (_ ++ [(an, .inr (1, [.long au, .long al]))])) (wr := [(x0, .inr (10, [.ref lp, .ref n0, .ref s0, .ref an, .long tr])), (s0, .inr (8, [.ref s1, .ref s2, .int ss, .ref s3, .ref s4])), (s1, .inl (cI, 6, .inl so)), (s2, .inl (cI, 6, .inl sp)), (s3, .inr (1, [.long tu, .long tl])), (s4, .inr (1, [.long ku, .long kl]))]) (As := [.int a1, .int a2, .int a3, .ref an]) (rest := []) (vc := (RX3, TX3, 8)) C hK hA hS (List.perm_iff_count.mpr (fun z => by simp only [List.count_append, List.count_cons, List.count_nil]; ac_rfl)) (tX3_solveThrough l D n0 n1 n2 n3 n4 n5 n6 an cI cJ cZ cW cS cO cG size wk w1 w2 wq wm flows mu ml nb lines lineOf lc au al a1 a2 a3 h_13 hw) (cwV 4 hts gX9_through_X3_solveThrough rfl rfl rfl (by decide +kernel) ⟨Nat.le_of_ble_eq_true rfl, Nat.le_of_ble_eq_true rfl⟩) (q0 := 0) (NP_head2 hw) (ci := 4) rfl rfl hl.1 rfl (Nat.le_of_ble_eq_true rfl) dX9_through_60 ⟨Nat.zero_le _, Nat.zero_le _⟩ (fun v H locs hp hS => ?_)
          obtain ⟨wN, hw, rfl⟩ := hp
          have hS : jS D vwCl A ([(x0, .inr (10, [.ref lp, .ref n0, .ref s0, .ref an, .long tr]))] ++ (wN ++ [(an, .inr (1, [.long o_12.2.2.2.1, .long o_12.2.2.2.2])), (s0, .inr (8, [.ref s1, .ref s2, .int ss, .ref s3, .ref s4])), (s1, .inl (cI, 6, .inl so)), (s2, .inl (cI, 6, .inl sp)), (s3, .inr (1, [.long tu, .long tl])), (s4, .inr (1, [.long ku, .long kl]))])) s.heap H locs := jS_perm (List.perm_iff_count.mpr (fun z => by simp only [List.count_append, List.count_cons, List.count_nil]; ac_rfl)) hS
          refine lv_aload_n hx hb dX9_through_63 rfl (lv_at hl 0 rfl) ?_
          refine va_get (D := D) (ci := 10) (v := .ref an) (C := RX9) (T := TX9) (N := 5) hx hb hts inX9 hown hK hS.1 0 rfl rfl 3 (by decide) k2 (fun _ h => h) rfl dX9_through_64 ?_
          refine lv_iload hx hb dX9_through_67 (lv_at hl 4 rfl) ?_
          obtain ⟨o_14, h_15, hE⟩ := jbd hE
          refine j_Vl (As := [.int a4]) (rest := []) (wc := [(an, .inr (1, [.long o_12.2.2.2.1, .long o_12.2.2.2.2]))]) (w1 := [(an, .inr (1, [.long o_12.2.2.2.1, .long o_12.2.2.2.2]))]) (wf := [(an, .inr (1, [.long o_12.2.2.2.1, .long o_12.2.2.2.2]))] ++ (wN ++ [(x0, .inr (10, [.ref lp, .ref n0, .ref s0, .ref an, .long tr])), (s0, .inr (8, [.ref s1, .ref s2, .int ss, .ref s3, .ref s4])), (s1, .inl (cI, 6, .inl so)), (s2, .inl (cI, 6, .inl sp)), (s3, .inr (1, [.long tu, .long tl])), (s4, .inr (1, [.long ku, .long kl]))])) (vc := (RX0, TX0, 2)) C hK hS (jcut_perm (wr := wN ++ [(x0, .inr (10, [.ref lp, .ref n0, .ref s0, .ref an, .long tr])), (s0, .inr (8, [.ref s1, .ref s2, .int ss, .ref s3, .ref s4])), (s1, .inl (cI, 6, .inl so)), (s2, .inl (cI, 6, .inl sp)), (s3, .inr (1, [.long tu, .long tl])), (s4, .inr (1, [.long ku, .long kl]))]) hA hS (List.perm_iff_count.mpr (fun z => by simp only [List.count_append, List.count_cons, List.count_nil]; ac_rfl))) (tX0_part l D an cI cJ cZ cW cS cO cG o_12.2.2.2.1 o_12.2.2.2.2 a4 h_15) (cwV 1 hts gX9_through_X0_part rfl rfl rfl (by decide +kernel) ⟨Nat.le_of_ble_eq_true rfl, Nat.le_of_ble_eq_true rfl⟩) (q0 := 0) rfl (ci := 1) rfl rfl hl.1 rfl (Nat.le_of_ble_eq_true rfl) dX9_through_69 ⟨Nat.zero_le _, Nat.zero_le _⟩ (fun H locs hS => ?_)
          have hS : jS D vwCl A ([(x0, .inr (10, [.ref lp, .ref n0, .ref s0, .ref an, .long tr]))] ++ (wN ++ [(an, .inr (1, [.long o_12.2.2.2.1, .long o_12.2.2.2.2])), (s0, .inr (8, [.ref s1, .ref s2, .int ss, .ref s3, .ref s4])), (s1, .inl (cI, 6, .inl so)), (s2, .inl (cI, 6, .inl sp)), (s3, .inr (1, [.long tu, .long tl])), (s4, .inr (1, [.long ku, .long kl]))])) s.heap H locs := jS_perm (List.perm_iff_count.mpr (fun z => by simp only [List.count_append, List.count_cons, List.count_nil]; ac_rfl)) hS
          obtain rfl := jsm hE
          exact ret ⟨rfl, _, hw, rfl⟩ hS dX9_through_72
        · have hE := jt hE c_11
          refine lv_ldc2 (v := (-9223372036854775808 : Int64)) hx hb hown k1 dX9_through_45 ?_
          obtain rfl := jsm hE
          exact ret ⟨rfl, _, hw, rfl⟩ hS dX9_through_48
      · have hE := jt hE c_8
        refine lv_ldc2 (v := (-9223372036854775808 : Int64)) hx hb hown k1 dX9_through_29 ?_
        obtain rfl := jsm hE
        exact ret ⟨rfl, _, hw, rfl⟩ hS dX9_through_32
  · subst er
    have hE := jf hE c_1
    refine lv_ifnullN (tgt := 29) hx hb dX9_through_8 (by decide) ?_
    refine lv_ldc2 (v := (-9223372036854775808 : Int64)) hx hb hown k1 dX9_through_29 ?_
    obtain rfl := jsm hE
    exact ret ⟨rfl, _, hw, rfl⟩ hS dX9_through_32
def fX9_trees (size : Int32) (w1 : Nat → Int32) (w2 : Nat → Int32) (flows : Nat → Int64) (lines : Nat → Nat → Int64) (lineOf : Nat → Int32) (lc : Int32) : Option (Int32 × (Nat → Nat → Int64) × (Nat → Int32) × Int32) :=
  (fX3_countTrees size w1 w2 flows lines lineOf lc).bind (fun o_1 => 
  some (o_1.1, o_1.2.1, o_1.2.2.1, o_1.2.2.2))
abbrev rmX9_trees : Room := { frames := 3, cells := 0, slots := 0, locals := 76 }
set_option maxHeartbeats 4000000 in
set_option maxRecDepth 100000 in
theorem tX9_trees (l : Launch) (D : va_G) (x0 lp an s0 s1 s2 s3 s4 n0 n1 n2 n3 n4 n5 n6 : Nat) (cI cJ cZ cW cS cO cG : ClassId) (size : Int32) (wk : Nat → Int32) (w1 : Nat → Int32) (w2 : Nat → Int32) (wq : Nat → Int32) (wm : Nat → Int32) (flows : Nat → Int64) (mu : Int64) (ml : Int64) (nb : Nat → Int32) (lines : Nat → Nat → Int64) (lineOf : Nat → Int32) (lc : Int32) (tr : Int64) (au : Int64) (al : Int64) (ss : Int32) (so : Nat → Int32) (sp : Nat → Int32) (tu : Int64) (tl : Int64) (ku : Int64) (kl : Int64) {o : Int32 × (Nat → Nat → Int64) × (Nat → Int32) × Int32} (hE : fX9_trees size w1 w2 flows lines lineOf lc = some o) {wN : va_W} (hw : NP n0 n1 n2 n3 n4 n5 n6 cI cJ cW cG size wk w1 w2 wq wm flows mu ml nb lines lineOf lc wN) : JQi l yX9_trees wsX9_trees rmX9_trees D vwCl (TY cI cJ cZ cW cS cO cG) [.ref x0] ([(x0, .inr (10, [.ref lp, .ref n0, .ref s0, .ref an, .long tr]))] ++ (wN ++ [(an, .inr (1, [.long au, .long al])), (s0, .inr (8, [.ref s1, .ref s2, .int ss, .ref s3, .ref s4])), (s1, .inl (cI, 6, .inl so)), (s2, .inl (cI, 6, .inl sp)), (s3, .inr (1, [.long tu, .long tl])), (s4, .inr (1, [.long ku, .long kl]))])) (fun x v => x = o.1 ∧ ∃ wM, NP n0 n1 n2 n3 n4 n5 n6 cI cJ cW cG size wk w1 w2 wq wm flows mu ml nb o.2.1 o.2.2.1 o.2.2.2 wM ∧ v = [(x0, .inr (10, [.ref lp, .ref n0, .ref s0, .ref an, .long tr]))] ++ (wM ++ [(an, .inr (1, [.long au, .long al])), (s0, .inr (8, [.ref s1, .ref s2, .int ss, .ref s3, .ref s4])), (s1, .inl (cI, 6, .inl so)), (s2, .inl (cI, 6, .inl sp)), (s3, .inr (1, [.long tu, .long tl])), (s4, .inr (1, [.long ku, .long kl]))])) := by
  haveI hdec : DecidableEq (Nat × va_E) := Classical.typeDecidableEq _
  refine JQi.of (cc := cX9_trees) (maxL := 1) (by decide) rfl (Nat.le_of_ble_eq_true rfl) ?_
  intro p e s m args below meth c A ls Q C hK hA ret hS hl
  obtain ⟨⟨hx, hb, hml, hown, hts⟩, -⟩ := id C
  have hl : lv_has ls 1 [(0, .ref x0)] := hl
  have inX9 : ∀ w ∈ u_ws RX9 TX9 5, w ∈ wsX9_trees := by decide +kernel
  have k0 := hts (.fieldLink RX9 19 "OhmNets" "net" "LOhmNets$Net;") (by decide +kernel)
  refine lv_aload_n hx hb dX9_trees_0 rfl (lv_at hl 0 rfl) ?_
  refine va_get (D := D) (ci := 10) (v := .ref n0) (C := RX9) (T := TX9) (N := 5) hx hb hts inX9 hown hK hS.1 0 rfl rfl 1 (by decide) k0 (fun _ h => h) rfl dX9_trees_1 ?_
  obtain ⟨o_1, h_2, hE⟩ := jbd hE
  refine j_QVip (As := []) (rest := []) (vc := (RX3, TX3, 8)) C hK hA hS cperm (tX3_countTrees l D n0 n1 n2 n3 n4 n5 n6 cI cJ cZ cW cS cO cG size wk w1 w2 wq wm flows mu ml nb lines lineOf lc h_2 hw) (cwV 0 hts gX9_trees_X3_countTrees rfl rfl rfl (by decide +kernel) ⟨Nat.le_of_ble_eq_true rfl, Nat.le_of_ble_eq_true rfl⟩) (q0 := 0) (NP_head hw) (ci := 4) rfl rfl hl.1 rfl (Nat.le_of_ble_eq_true rfl) dX9_trees_4 ⟨Nat.zero_le _, Nat.zero_le _⟩ (fun r wN H locs hp hS => ?_)
  obtain ⟨er, hw⟩ := hp
  subst r
  have hS := jS_perm cperm.symm hS
  obtain rfl := jsm hE
  exact ret ⟨rfl, _, hw, rfl⟩ hS rfl dX9_trees_7
def fX9_falls (a1 : Int32) (a2 : Int32) (size : Int32) (w1 : Nat → Int32) (w2 : Nat → Int32) (nb : Nat → Int32) : Option (Int32 × (Nat → Int32)) :=
  (fX9_areTwoKnots a1 a2).bind (fun o_1 => 
  if o_1 = 0 then
  some ((-1 : Int32), nb)
  else
  (fX3_hangTogether a1 a2 size w1 w2).bind (fun o_4 => 
  if o_4 = 0 then
  some ((-2 : Int32), nb)
  else
  (fX3_fallsTogether a1 a2 size w1 w2 nb).bind (fun o_7 => 
  if o_7.1 = 0 then
  some ((0 : Int32), o_7.2)
  else
  some ((1 : Int32), o_7.2))))
abbrev rmX9_falls : Room := { frames := 3, cells := 0, slots := 0, locals := 71 }
set_option maxHeartbeats 4000000 in
set_option maxRecDepth 100000 in
theorem tX9_falls (l : Launch) (D : va_G) (x0 lp an s0 s1 s2 s3 s4 n0 n1 n2 n3 n4 n5 n6 : Nat) (cI cJ cZ cW cS cO cG : ClassId) (size : Int32) (wk : Nat → Int32) (w1 : Nat → Int32) (w2 : Nat → Int32) (wq : Nat → Int32) (wm : Nat → Int32) (flows : Nat → Int64) (mu : Int64) (ml : Int64) (nb : Nat → Int32) (lines : Nat → Nat → Int64) (lineOf : Nat → Int32) (lc : Int32) (tr : Int64) (au : Int64) (al : Int64) (ss : Int32) (so : Nat → Int32) (sp : Nat → Int32) (tu : Int64) (tl : Int64) (ku : Int64) (kl : Int64) (a1 : Int32) (a2 : Int32) {o : Int32 × (Nat → Int32)} (hE : fX9_falls a1 a2 size w1 w2 nb = some o) {wN : va_W} (hw : NP n0 n1 n2 n3 n4 n5 n6 cI cJ cW cG size wk w1 w2 wq wm flows mu ml nb lines lineOf lc wN) : JQi l yX9_falls wsX9_falls rmX9_falls D vwCl (TY cI cJ cZ cW cS cO cG) [.ref x0, .int a1, .int a2] ([(x0, .inr (10, [.ref lp, .ref n0, .ref s0, .ref an, .long tr]))] ++ (wN ++ [(an, .inr (1, [.long au, .long al])), (s0, .inr (8, [.ref s1, .ref s2, .int ss, .ref s3, .ref s4])), (s1, .inl (cI, 6, .inl so)), (s2, .inl (cI, 6, .inl sp)), (s3, .inr (1, [.long tu, .long tl])), (s4, .inr (1, [.long ku, .long kl]))])) (fun x v => x = o.1 ∧ ∃ wM, NP n0 n1 n2 n3 n4 n5 n6 cI cJ cW cG size wk w1 w2 wq wm flows mu ml o.2 lines lineOf lc wM ∧ v = [(x0, .inr (10, [.ref lp, .ref n0, .ref s0, .ref an, .long tr]))] ++ (wM ++ [(an, .inr (1, [.long au, .long al])), (s0, .inr (8, [.ref s1, .ref s2, .int ss, .ref s3, .ref s4])), (s1, .inl (cI, 6, .inl so)), (s2, .inl (cI, 6, .inl sp)), (s3, .inr (1, [.long tu, .long tl])), (s4, .inr (1, [.long ku, .long kl]))])) := by
  haveI hdec : DecidableEq (Nat × va_E) := Classical.typeDecidableEq _
  refine JQi.of (cc := cX9_falls) (maxL := 3) (by decide) rfl (Nat.le_of_ble_eq_true rfl) ?_
  intro p e s m args below meth c A ls Q C hK hA ret hS hl
  obtain ⟨⟨hx, hb, hml, hown, hts⟩, -⟩ := id C
  have hl : lv_has ls 3 [(0, .ref x0), (1, .int a1), (2, .int a2)] := hl
  have inX9 : ∀ w ∈ u_ws RX9 TX9 5, w ∈ wsX9_falls := by decide +kernel
  have k0 := hts (.fieldLink RX9 19 "OhmNets" "net" "LOhmNets$Net;") (by decide +kernel)
  refine lv_iload_n hx hb dX9_falls_0 rfl (lv_at hl 1 rfl) ?_
  refine lv_iload_n hx hb dX9_falls_1 rfl (lv_at hl 2 rfl) ?_
  obtain ⟨o_1, h_2, hE⟩ := jbd hE
  refine j_Si (As := [.int a1, .int a2]) (rest := []) (wf := [(x0, .inr (10, [.ref lp, .ref n0, .ref s0, .ref an, .long tr]))] ++ (wN ++ [(an, .inr (1, [.long au, .long al])), (s0, .inr (8, [.ref s1, .ref s2, .int ss, .ref s3, .ref s4])), (s1, .inl (cI, 6, .inl so)), (s2, .inl (cI, 6, .inl sp)), (s3, .inr (1, [.long tu, .long tl])), (s4, .inr (1, [.long ku, .long kl]))])) C hK hS (jcut_nil hA hS) (tX9_areTwoKnots l D cI cJ cZ cW cS cO cG a1 a2 h_2) (va_cwS 2 hts gX9_falls_X9_areTwoKnots rfl rfl rfl (by decide +kernel) ⟨Nat.le_of_ble_eq_true rfl, Nat.le_of_ble_eq_true rfl⟩) rfl hl.1 rfl (Nat.le_of_ble_eq_true rfl) dX9_falls_2 ⟨Nat.zero_le _, Nat.zero_le _⟩ (fun H locs hS => ?_)
  refine lv_if_ne (tgt := 10) hx hb dX9_falls_5 (by decide) (fun c_3 => ?_) (fun c_3 => ?_)
  · have hE := jf hE c_3
    refine lv_aload_n hx hb dX9_falls_10 rfl (lv_at hl 0 rfl) ?_
    refine va_get (D := D) (ci := 10) (v := .ref n0) (C := RX9) (T := TX9) (N := 5) hx hb hts inX9 hown hK hS.1 0 rfl rfl 1 (by decide) k0 (fun _ h => h) rfl dX9_falls_11 ?_
    refine lv_iload_n hx hb dX9_falls_14 rfl (lv_at hl 1 rfl) ?_
    refine lv_iload_n hx hb dX9_falls_15 rfl (lv_at hl 2 rfl) ?_
    obtain ⟨o_4, h_5, hE⟩ := jbd hE
    refine j_QVip (As := [.int a1, .int a2]) (rest := []) (vc := (RX3, TX3, 8)) C hK hA hS cperm (tX3_hangTogether l D n0 n1 n2 n3 n4 n5 n6 cI cJ cZ cW cS cO cG size wk w1 w2 wq wm flows mu ml nb lines lineOf lc a1 a2 h_5 hw) (cwV 2 hts gX9_falls_X3_hangTogether rfl rfl rfl (by decide +kernel) ⟨Nat.le_of_ble_eq_true rfl, Nat.le_of_ble_eq_true rfl⟩) (q0 := 0) (NP_head hw) (ci := 4) rfl rfl hl.1 rfl (Nat.le_of_ble_eq_true rfl) dX9_falls_16 ⟨Nat.zero_le _, Nat.zero_le _⟩ (fun r wN H locs hp hS => ?_)
    obtain ⟨er, hw⟩ := hp
    subst r
    have hS := jS_perm cperm.symm hS
    refine lv_if_ne (tgt := 25) hx hb dX9_falls_19 (by decide) (fun c_6 => ?_) (fun c_6 => ?_)
    · have hE := jf hE c_6
      refine lv_aload_n hx hb dX9_falls_25 rfl (lv_at hl 0 rfl) ?_
      refine va_get (D := D) (ci := 10) (v := .ref n0) (C := RX9) (T := TX9) (N := 5) hx hb hts inX9 hown hK hS.1 0 rfl rfl 1 (by decide) k0 (fun _ h => h) rfl dX9_falls_26 ?_
      refine lv_iload_n hx hb dX9_falls_29 rfl (lv_at hl 1 rfl) ?_
      refine lv_iload_n hx hb dX9_falls_30 rfl (lv_at hl 2 rfl) ?_
      obtain ⟨o_7, h_8, hE⟩ := jbd hE
      refine j_QVip (As := [.int a1, .int a2]) (rest := []) (vc := (RX3, TX3, 8)) C hK hA hS cperm (tX3_fallsTogether l D n0 n1 n2 n3 n4 n5 n6 cI cJ cZ cW cS cO cG size wk w1 w2 wq wm flows mu ml nb lines lineOf lc a1 a2 h_8 hw) (cwV 2 hts gX9_falls_X3_fallsTogether rfl rfl rfl (by decide +kernel) ⟨Nat.le_of_ble_eq_true rfl, Nat.le_of_ble_eq_true rfl⟩) (q0 := 0) (NP_head hw) (ci := 4) rfl rfl hl.1 rfl (Nat.le_of_ble_eq_true rfl) dX9_falls_31 ⟨Nat.zero_le _, Nat.zero_le _⟩ (fun r wN H locs hp hS => ?_)
      obtain ⟨er, hw⟩ := hp
      subst r
      have hS := jS_perm cperm.symm hS
      refine lv_if_eq (tgt := 41) hx hb dX9_falls_34 (by decide) (fun c_9 => ?_) (fun c_9 => ?_)
      · have hE := jt hE c_9
        refine lv_iconst (v := (0 : Int32)) hx hb dX9_falls_41 (by decide) ?_
        obtain rfl := jsm hE
        exact ret ⟨rfl, _, hw, rfl⟩ hS rfl dX9_falls_42
      · have hE := jf hE c_9
        refine lv_iconst (v := (1 : Int32)) hx hb dX9_falls_37 (by decide) ?_
        refine lv_goto (tgt := 42) hx hb dX9_falls_38 (by decide) ?_
        obtain rfl := jsm hE
        exact ret ⟨rfl, _, hw, rfl⟩ hS rfl dX9_falls_42
    · have hE := jt hE c_6
      refine lv_bipush (v := (-2 : Int32)) hx hb dX9_falls_22 (by decide) ?_
      obtain rfl := jsm hE
      exact ret ⟨rfl, _, hw, rfl⟩ hS rfl dX9_falls_24
  · have hE := jt hE c_3
    refine lv_iconst (v := (-1 : Int32)) hx hb dX9_falls_8 (by decide) ?_
    obtain rfl := jsm hE
    exact ret ⟨rfl, _, hw, rfl⟩ hS rfl dX9_falls_9
def fX9_sort (a1 : Int32) (a2 : Int32) (ss : Int32) (so : Nat → Int32) (sp : Nat → Int32) : Option (Int32 × Int32 × (Nat → Int32) × (Nat → Int32)) :=
  (fX9_isWithin a1 (1 : Int32) (100 : Int32)).bind (fun o_1 => 
  if o_1 = 0 then
  some ((-1 : Int32), ss, so, sp)
  else
  (fX9_isWithin a2 (1 : Int32) (50 : Int32)).bind (fun o_4 => 
  if o_4 = 0 then
  some ((-1 : Int32), ss, so, sp)
  else
  (fX7_size ss).bind (fun o_7 => 
  if o_7 < (6 : Int32) then
  (fX7_add a1 a2 ss so sp).bind (fun o_10 => 
  some (o_10.1, o_10.2.1, o_10.2.2.1, o_10.2.2.2))
  else
  some ((-3 : Int32), ss, so, sp))))
abbrev rmX9_sort : Room := { frames := 1, cells := 0, slots := 0, locals := 22 }
set_option maxHeartbeats 4000000 in
set_option maxRecDepth 100000 in
theorem tX9_sort (l : Launch) (D : va_G) (x0 lp an s0 s1 s2 s3 s4 n0 n1 n2 n3 n4 n5 n6 : Nat) (cI cJ cZ cW cS cO cG : ClassId) (size : Int32) (wk : Nat → Int32) (w1 : Nat → Int32) (w2 : Nat → Int32) (wq : Nat → Int32) (wm : Nat → Int32) (flows : Nat → Int64) (mu : Int64) (ml : Int64) (nb : Nat → Int32) (lines : Nat → Nat → Int64) (lineOf : Nat → Int32) (lc : Int32) (tr : Int64) (au : Int64) (al : Int64) (ss : Int32) (so : Nat → Int32) (sp : Nat → Int32) (tu : Int64) (tl : Int64) (ku : Int64) (kl : Int64) (a1 : Int32) (a2 : Int32) {o : Int32 × Int32 × (Nat → Int32) × (Nat → Int32)} (hE : fX9_sort a1 a2 ss so sp = some o) {wN : va_W} (hw : NP n0 n1 n2 n3 n4 n5 n6 cI cJ cW cG size wk w1 w2 wq wm flows mu ml nb lines lineOf lc wN) : JQi l yX9_sort wsX9_sort rmX9_sort D vwCl (TY cI cJ cZ cW cS cO cG) [.ref x0, .int a1, .int a2] ([(x0, .inr (10, [.ref lp, .ref n0, .ref s0, .ref an, .long tr]))] ++ (wN ++ [(an, .inr (1, [.long au, .long al])), (s0, .inr (8, [.ref s1, .ref s2, .int ss, .ref s3, .ref s4])), (s1, .inl (cI, 6, .inl so)), (s2, .inl (cI, 6, .inl sp)), (s3, .inr (1, [.long tu, .long tl])), (s4, .inr (1, [.long ku, .long kl]))])) (fun x v => x = o.1 ∧ ∃ wM, NP n0 n1 n2 n3 n4 n5 n6 cI cJ cW cG size wk w1 w2 wq wm flows mu ml nb lines lineOf lc wM ∧ v = [(x0, .inr (10, [.ref lp, .ref n0, .ref s0, .ref an, .long tr]))] ++ (wM ++ [(an, .inr (1, [.long au, .long al])), (s0, .inr (8, [.ref s1, .ref s2, .int o.2.1, .ref s3, .ref s4])), (s1, .inl (cI, 6, .inl o.2.2.1)), (s2, .inl (cI, 6, .inl o.2.2.2)), (s3, .inr (1, [.long tu, .long tl])), (s4, .inr (1, [.long ku, .long kl]))])) := by
  haveI hdec : DecidableEq (Nat × va_E) := Classical.typeDecidableEq _
  refine JQi.of (cc := cX9_sort) (maxL := 3) (by decide) rfl (Nat.le_of_ble_eq_true rfl) ?_
  intro p e s m args below meth c A ls Q C hK hA ret hS hl
  obtain ⟨⟨hx, hb, hml, hown, hts⟩, -⟩ := id C
  have hl : lv_has ls 3 [(0, .ref x0), (1, .int a1), (2, .int a2)] := hl
  have inX9 : ∀ w ∈ u_ws RX9 TX9 5, w ∈ wsX9_sort := by decide +kernel
  have k0 := hts (.fieldLink RX9 26 "OhmNets" "shop" "LOhmNets$Shop;") (by decide +kernel)
  refine lv_iload_n hx hb dX9_sort_0 rfl (lv_at hl 1 rfl) ?_
  refine lv_iconst (v := (1 : Int32)) hx hb dX9_sort_1 (by decide) ?_
  refine lv_bipush (v := (100 : Int32)) hx hb dX9_sort_2 (by decide) ?_
  obtain ⟨o_1, h_2, hE⟩ := jbd hE
  refine j_Si (As := [.int a1, .int (1 : Int32), .int (100 : Int32)]) (rest := []) (wf := [(x0, .inr (10, [.ref lp, .ref n0, .ref s0, .ref an, .long tr]))] ++ (wN ++ [(an, .inr (1, [.long au, .long al])), (s0, .inr (8, [.ref s1, .ref s2, .int ss, .ref s3, .ref s4])), (s1, .inl (cI, 6, .inl so)), (s2, .inl (cI, 6, .inl sp)), (s3, .inr (1, [.long tu, .long tl])), (s4, .inr (1, [.long ku, .long kl]))])) C hK hS (jcut_nil hA hS) (tX9_isWithin l D cI cJ cZ cW cS cO cG a1 (1 : Int32) (100 : Int32) h_2) (va_cwS 3 hts gX9_sort_X9_isWithin rfl rfl rfl (by decide +kernel) ⟨Nat.le_of_ble_eq_true rfl, Nat.le_of_ble_eq_true rfl⟩) rfl hl.1 rfl (Nat.le_of_ble_eq_true rfl) dX9_sort_4 ⟨Nat.zero_le _, Nat.zero_le _⟩ (fun H locs hS => ?_)
  refine lv_if_eq (tgt := 20) hx hb dX9_sort_7 (by decide) (fun c_3 => ?_) (fun c_3 => ?_)
  · have hE := jt hE c_3
    refine lv_iconst (v := (-1 : Int32)) hx hb dX9_sort_20 (by decide) ?_
    obtain rfl := jsm hE
    exact ret ⟨rfl, _, hw, rfl⟩ hS rfl dX9_sort_21
  · have hE := jf hE c_3
    refine lv_iload_n hx hb dX9_sort_10 rfl (lv_at hl 2 rfl) ?_
    refine lv_iconst (v := (1 : Int32)) hx hb dX9_sort_11 (by decide) ?_
    refine lv_bipush (v := (50 : Int32)) hx hb dX9_sort_12 (by decide) ?_
    obtain ⟨o_4, h_5, hE⟩ := jbd hE
    refine j_Si (As := [.int a2, .int (1 : Int32), .int (50 : Int32)]) (rest := []) (wf := [(x0, .inr (10, [.ref lp, .ref n0, .ref s0, .ref an, .long tr]))] ++ (wN ++ [(an, .inr (1, [.long au, .long al])), (s0, .inr (8, [.ref s1, .ref s2, .int ss, .ref s3, .ref s4])), (s1, .inl (cI, 6, .inl so)), (s2, .inl (cI, 6, .inl sp)), (s3, .inr (1, [.long tu, .long tl])), (s4, .inr (1, [.long ku, .long kl]))])) C hK hS (jcut_nil hA hS) (tX9_isWithin l D cI cJ cZ cW cS cO cG a2 (1 : Int32) (50 : Int32) h_5) (va_cwS 3 hts gX9_sort_X9_isWithin rfl rfl rfl (by decide +kernel) ⟨Nat.le_of_ble_eq_true rfl, Nat.le_of_ble_eq_true rfl⟩) rfl hl.1 rfl (Nat.le_of_ble_eq_true rfl) dX9_sort_14 ⟨Nat.zero_le _, Nat.zero_le _⟩ (fun H locs hS => ?_)
    refine lv_if_ne (tgt := 22) hx hb dX9_sort_17 (by decide) (fun c_6 => ?_) (fun c_6 => ?_)
    · have hE := jf hE c_6
      refine lv_aload_n hx hb dX9_sort_22 rfl (lv_at hl 0 rfl) ?_
      refine va_get (D := D) (ci := 10) (v := .ref s0) (C := RX9) (T := TX9) (N := 5) hx hb hts inX9 hown hK hS.1 0 rfl rfl 2 (by decide) k0 (fun _ h => h) rfl dX9_sort_23 ?_
      obtain ⟨o_7, h_8, hE⟩ := jbd hE
      refine j_Vi (As := []) (rest := []) (wc := [(s0, .inr (8, [.ref s1, .ref s2, .int ss, .ref s3, .ref s4])), (s1, .inl (cI, 6, .inl so)), (s2, .inl (cI, 6, .inl sp)), (s3, .inr (1, [.long tu, .long tl])), (s4, .inr (1, [.long ku, .long kl]))]) (w1 := [(s0, .inr (8, [.ref s1, .ref s2, .int ss, .ref s3, .ref s4])), (s1, .inl (cI, 6, .inl so)), (s2, .inl (cI, 6, .inl sp)), (s3, .inr (1, [.long tu, .long tl])), (s4, .inr (1, [.long ku, .long kl]))]) (wf := [(s0, .inr (8, [.ref s1, .ref s2, .int ss, .ref s3, .ref s4])), (s1, .inl (cI, 6, .inl so)), (s2, .inl (cI, 6, .inl sp)), (s3, .inr (1, [.long tu, .long tl])), (s4, .inr (1, [.long ku, .long kl]))] ++ (wN ++ [(x0, .inr (10, [.ref lp, .ref n0, .ref s0, .ref an, .long tr])), (an, .inr (1, [.long au, .long al]))])) (vc := (RX7, TX7, 5)) C hK hS (jcut_perm (wr := wN ++ [(x0, .inr (10, [.ref lp, .ref n0, .ref s0, .ref an, .long tr])), (an, .inr (1, [.long au, .long al]))]) hA hS (List.perm_iff_count.mpr (fun z => by simp only [List.count_append, List.count_cons, List.count_nil]; ac_rfl))) (tX7_size l D s0 s1 s2 s3 s4 cI cJ cZ cW cS cO cG ss so sp tu tl ku kl h_8) (cwV 0 hts gX9_sort_X7_size rfl rfl rfl (by decide +kernel) ⟨Nat.le_of_ble_eq_true rfl, Nat.le_of_ble_eq_true rfl⟩) (q0 := 0) rfl (ci := 8) rfl rfl hl.1 rfl (Nat.le_of_ble_eq_true rfl) dX9_sort_26 ⟨Nat.zero_le _, Nat.zero_le _⟩ (fun H locs hS => ?_)
      have hS : jS D vwCl A ([(x0, .inr (10, [.ref lp, .ref n0, .ref s0, .ref an, .long tr]))] ++ (wN ++ [(an, .inr (1, [.long au, .long al])), (s0, .inr (8, [.ref s1, .ref s2, .int ss, .ref s3, .ref s4])), (s1, .inl (cI, 6, .inl so)), (s2, .inl (cI, 6, .inl sp)), (s3, .inr (1, [.long tu, .long tl])), (s4, .inr (1, [.long ku, .long kl]))])) s.heap H locs := jS_perm (List.perm_iff_count.mpr (fun z => by simp only [List.count_append, List.count_cons, List.count_nil]; ac_rfl)) hS
      refine lv_bipush (v := (6 : Int32)) hx hb dX9_sort_29 (by decide) ?_
      refine lv_icmp_lt (tgt := 37) hx hb dX9_sort_31 (by decide) (fun c_9 => ?_) (fun c_9 => ?_)
      · have hE := jt hE c_9
        refine lv_aload_n hx hb dX9_sort_37 rfl (lv_at hl 0 rfl) ?_
        refine va_get (D := D) (ci := 10) (v := .ref s0) (C := RX9) (T := TX9) (N := 5) hx hb hts inX9 hown hK hS.1 0 rfl rfl 2 (by decide) k0 (fun _ h => h) rfl dX9_sort_38 ?_
        refine lv_iload_n hx hb dX9_sort_41 rfl (lv_at hl 1 rfl) ?_
        refine lv_iload_n hx hb dX9_sort_42 rfl (lv_at hl 2 rfl) ?_
        obtain ⟨o_10, h_11, hE⟩ := jbd hE
        refine j_Vi (As := [.int a1, .int a2]) (rest := []) (wc := [(s0, .inr (8, [.ref s1, .ref s2, .int ss, .ref s3, .ref s4])), (s1, .inl (cI, 6, .inl so)), (s2, .inl (cI, 6, .inl sp)), (s3, .inr (1, [.long tu, .long tl])), (s4, .inr (1, [.long ku, .long kl]))]) (w1 := [(s0, .inr (8, [.ref s1, .ref s2, .int o_10.2.1, .ref s3, .ref s4])), (s1, .inl (cI, 6, .inl o_10.2.2.1)), (s2, .inl (cI, 6, .inl o_10.2.2.2)), (s3, .inr (1, [.long tu, .long tl])), (s4, .inr (1, [.long ku, .long kl]))]) (wf := [(s0, .inr (8, [.ref s1, .ref s2, .int o_10.2.1, .ref s3, .ref s4])), (s1, .inl (cI, 6, .inl o_10.2.2.1)), (s2, .inl (cI, 6, .inl o_10.2.2.2)), (s3, .inr (1, [.long tu, .long tl])), (s4, .inr (1, [.long ku, .long kl]))] ++ (wN ++ [(x0, .inr (10, [.ref lp, .ref n0, .ref s0, .ref an, .long tr])), (an, .inr (1, [.long au, .long al]))])) (vc := (RX7, TX7, 5)) C hK hS (jcut_perm (wr := wN ++ [(x0, .inr (10, [.ref lp, .ref n0, .ref s0, .ref an, .long tr])), (an, .inr (1, [.long au, .long al]))]) hA hS (List.perm_iff_count.mpr (fun z => by simp only [List.count_append, List.count_cons, List.count_nil]; ac_rfl))) (tX7_add l D s0 s1 s2 s3 s4 cI cJ cZ cW cS cO cG ss so sp tu tl ku kl a1 a2 h_11) (cwV 2 hts gX9_sort_X7_add rfl rfl rfl (by decide +kernel) ⟨Nat.le_of_ble_eq_true rfl, Nat.le_of_ble_eq_true rfl⟩) (q0 := 0) rfl (ci := 8) rfl rfl hl.1 rfl (Nat.le_of_ble_eq_true rfl) dX9_sort_43 ⟨Nat.zero_le _, Nat.zero_le _⟩ (fun H locs hS => ?_)
        have hS : jS D vwCl A ([(x0, .inr (10, [.ref lp, .ref n0, .ref s0, .ref an, .long tr]))] ++ (wN ++ [(an, .inr (1, [.long au, .long al])), (s0, .inr (8, [.ref s1, .ref s2, .int o_10.2.1, .ref s3, .ref s4])), (s1, .inl (cI, 6, .inl o_10.2.2.1)), (s2, .inl (cI, 6, .inl o_10.2.2.2)), (s3, .inr (1, [.long tu, .long tl])), (s4, .inr (1, [.long ku, .long kl]))])) s.heap H locs := jS_perm (List.perm_iff_count.mpr (fun z => by simp only [List.count_append, List.count_cons, List.count_nil]; ac_rfl)) hS
        obtain rfl := jsm hE
        exact ret ⟨rfl, _, hw, rfl⟩ hS rfl dX9_sort_46
      · have hE := jf hE c_9
        refine lv_bipush (v := (-3 : Int32)) hx hb dX9_sort_34 (by decide) ?_
        obtain rfl := jsm hE
        exact ret ⟨rfl, _, hw, rfl⟩ hS rfl dX9_sort_36
    · have hE := jt hE c_6
      refine lv_iconst (v := (-1 : Int32)) hx hb dX9_sort_20 (by decide) ?_
      obtain rfl := jsm hE
      exact ret ⟨rfl, _, hw, rfl⟩ hS rfl dX9_sort_21
def fX9_nearest (a1 : Int32) (a2 : Int32) (ss : Int32) (so : Nat → Int32) (sp : Nat → Int32) (tu : Int64) (tl : Int64) (ku : Int64) (kl : Int64) : Option (Int32 × Int64 × Int64 × Int64 × Int64) :=
  (fX9_isTold a1 a2 (1000 : Int32)).bind (fun o_1 => 
  if o_1 = 0 then
  some ((-1 : Int32), tu, tl, ku, kl)
  else
  (fX7_size ss).bind (fun o_4 => 
  if o_4 = 0 then
  some ((-2 : Int32), tu, tl, ku, kl)
  else
  (fX7_nearestTo a1 a2 ss so sp tu tl ku kl).bind (fun o_7 => 
  some (o_7.1, o_7.2.1, o_7.2.2.1, o_7.2.2.2.1, o_7.2.2.2.2))))
abbrev rmX9_nearest : Room := { frames := 5, cells := 0, slots := 0, locals := 114 }
set_option maxHeartbeats 4000000 in
set_option maxRecDepth 100000 in
theorem tX9_nearest (l : Launch) (D : va_G) (x0 lp an s0 s1 s2 s3 s4 n0 n1 n2 n3 n4 n5 n6 : Nat) (cI cJ cZ cW cS cO cG : ClassId) (size : Int32) (wk : Nat → Int32) (w1 : Nat → Int32) (w2 : Nat → Int32) (wq : Nat → Int32) (wm : Nat → Int32) (flows : Nat → Int64) (mu : Int64) (ml : Int64) (nb : Nat → Int32) (lines : Nat → Nat → Int64) (lineOf : Nat → Int32) (lc : Int32) (tr : Int64) (au : Int64) (al : Int64) (ss : Int32) (so : Nat → Int32) (sp : Nat → Int32) (tu : Int64) (tl : Int64) (ku : Int64) (kl : Int64) (a1 : Int32) (a2 : Int32) {o : Int32 × Int64 × Int64 × Int64 × Int64} (hE : fX9_nearest a1 a2 ss so sp tu tl ku kl = some o) {wN : va_W} (hw : NP n0 n1 n2 n3 n4 n5 n6 cI cJ cW cG size wk w1 w2 wq wm flows mu ml nb lines lineOf lc wN) : JQi l yX9_nearest wsX9_nearest rmX9_nearest D vwCl (TY cI cJ cZ cW cS cO cG) [.ref x0, .int a1, .int a2] ([(x0, .inr (10, [.ref lp, .ref n0, .ref s0, .ref an, .long tr]))] ++ (wN ++ [(an, .inr (1, [.long au, .long al])), (s0, .inr (8, [.ref s1, .ref s2, .int ss, .ref s3, .ref s4])), (s1, .inl (cI, 6, .inl so)), (s2, .inl (cI, 6, .inl sp)), (s3, .inr (1, [.long tu, .long tl])), (s4, .inr (1, [.long ku, .long kl]))])) (fun x v => x = o.1 ∧ ∃ wM, NP n0 n1 n2 n3 n4 n5 n6 cI cJ cW cG size wk w1 w2 wq wm flows mu ml nb lines lineOf lc wM ∧ v = [(x0, .inr (10, [.ref lp, .ref n0, .ref s0, .ref an, .long tr]))] ++ (wM ++ [(an, .inr (1, [.long au, .long al])), (s0, .inr (8, [.ref s1, .ref s2, .int ss, .ref s3, .ref s4])), (s1, .inl (cI, 6, .inl so)), (s2, .inl (cI, 6, .inl sp)), (s3, .inr (1, [.long o.2.1, .long o.2.2.1])), (s4, .inr (1, [.long o.2.2.2.1, .long o.2.2.2.2]))])) := by
  haveI hdec : DecidableEq (Nat × va_E) := Classical.typeDecidableEq _
  refine JQi.of (cc := cX9_nearest) (maxL := 3) (by decide) rfl (Nat.le_of_ble_eq_true rfl) ?_
  intro p e s m args below meth c A ls Q C hK hA ret hS hl
  obtain ⟨⟨hx, hb, hml, hown, hts⟩, -⟩ := id C
  have hl : lv_has ls 3 [(0, .ref x0), (1, .int a1), (2, .int a2)] := hl
  have inX9 : ∀ w ∈ u_ws RX9 TX9 5, w ∈ wsX9_nearest := by decide +kernel
  have k0 := hts (.fieldLink RX9 26 "OhmNets" "shop" "LOhmNets$Shop;") (by decide +kernel)
  refine lv_iload_n hx hb dX9_nearest_0 rfl (lv_at hl 1 rfl) ?_
  refine lv_iload_n hx hb dX9_nearest_1 rfl (lv_at hl 2 rfl) ?_
  refine lv_sipush (v := (1000 : Int32)) hx hb dX9_nearest_2 (by decide) ?_
  obtain ⟨o_1, h_2, hE⟩ := jbd hE
  refine j_Si (As := [.int a1, .int a2, .int (1000 : Int32)]) (rest := []) (wf := [(x0, .inr (10, [.ref lp, .ref n0, .ref s0, .ref an, .long tr]))] ++ (wN ++ [(an, .inr (1, [.long au, .long al])), (s0, .inr (8, [.ref s1, .ref s2, .int ss, .ref s3, .ref s4])), (s1, .inl (cI, 6, .inl so)), (s2, .inl (cI, 6, .inl sp)), (s3, .inr (1, [.long tu, .long tl])), (s4, .inr (1, [.long ku, .long kl]))])) C hK hS (jcut_nil hA hS) (tX9_isTold l D cI cJ cZ cW cS cO cG a1 a2 (1000 : Int32) h_2) (va_cwS 3 hts gX9_nearest_X9_isTold rfl rfl rfl (by decide +kernel) ⟨Nat.le_of_ble_eq_true rfl, Nat.le_of_ble_eq_true rfl⟩) rfl hl.1 rfl (Nat.le_of_ble_eq_true rfl) dX9_nearest_5 ⟨Nat.zero_le _, Nat.zero_le _⟩ (fun H locs hS => ?_)
  refine lv_if_ne (tgt := 13) hx hb dX9_nearest_8 (by decide) (fun c_3 => ?_) (fun c_3 => ?_)
  · have hE := jf hE c_3
    refine lv_aload_n hx hb dX9_nearest_13 rfl (lv_at hl 0 rfl) ?_
    refine va_get (D := D) (ci := 10) (v := .ref s0) (C := RX9) (T := TX9) (N := 5) hx hb hts inX9 hown hK hS.1 0 rfl rfl 2 (by decide) k0 (fun _ h => h) rfl dX9_nearest_14 ?_
    obtain ⟨o_4, h_5, hE⟩ := jbd hE
    refine j_Vi (As := []) (rest := []) (wc := [(s0, .inr (8, [.ref s1, .ref s2, .int ss, .ref s3, .ref s4])), (s1, .inl (cI, 6, .inl so)), (s2, .inl (cI, 6, .inl sp)), (s3, .inr (1, [.long tu, .long tl])), (s4, .inr (1, [.long ku, .long kl]))]) (w1 := [(s0, .inr (8, [.ref s1, .ref s2, .int ss, .ref s3, .ref s4])), (s1, .inl (cI, 6, .inl so)), (s2, .inl (cI, 6, .inl sp)), (s3, .inr (1, [.long tu, .long tl])), (s4, .inr (1, [.long ku, .long kl]))]) (wf := [(s0, .inr (8, [.ref s1, .ref s2, .int ss, .ref s3, .ref s4])), (s1, .inl (cI, 6, .inl so)), (s2, .inl (cI, 6, .inl sp)), (s3, .inr (1, [.long tu, .long tl])), (s4, .inr (1, [.long ku, .long kl]))] ++ (wN ++ [(x0, .inr (10, [.ref lp, .ref n0, .ref s0, .ref an, .long tr])), (an, .inr (1, [.long au, .long al]))])) (vc := (RX7, TX7, 5)) C hK hS (jcut_perm (wr := wN ++ [(x0, .inr (10, [.ref lp, .ref n0, .ref s0, .ref an, .long tr])), (an, .inr (1, [.long au, .long al]))]) hA hS (List.perm_iff_count.mpr (fun z => by simp only [List.count_append, List.count_cons, List.count_nil]; ac_rfl))) (tX7_size l D s0 s1 s2 s3 s4 cI cJ cZ cW cS cO cG ss so sp tu tl ku kl h_5) (cwV 0 hts gX9_nearest_X7_size rfl rfl rfl (by decide +kernel) ⟨Nat.le_of_ble_eq_true rfl, Nat.le_of_ble_eq_true rfl⟩) (q0 := 0) rfl (ci := 8) rfl rfl hl.1 rfl (Nat.le_of_ble_eq_true rfl) dX9_nearest_17 ⟨Nat.zero_le _, Nat.zero_le _⟩ (fun H locs hS => ?_)
    have hS : jS D vwCl A ([(x0, .inr (10, [.ref lp, .ref n0, .ref s0, .ref an, .long tr]))] ++ (wN ++ [(an, .inr (1, [.long au, .long al])), (s0, .inr (8, [.ref s1, .ref s2, .int ss, .ref s3, .ref s4])), (s1, .inl (cI, 6, .inl so)), (s2, .inl (cI, 6, .inl sp)), (s3, .inr (1, [.long tu, .long tl])), (s4, .inr (1, [.long ku, .long kl]))])) s.heap H locs := jS_perm (List.perm_iff_count.mpr (fun z => by simp only [List.count_append, List.count_cons, List.count_nil]; ac_rfl)) hS
    refine lv_if_ne (tgt := 26) hx hb dX9_nearest_20 (by decide) (fun c_6 => ?_) (fun c_6 => ?_)
    · have hE := jf hE c_6
      refine lv_aload_n hx hb dX9_nearest_26 rfl (lv_at hl 0 rfl) ?_
      refine va_get (D := D) (ci := 10) (v := .ref s0) (C := RX9) (T := TX9) (N := 5) hx hb hts inX9 hown hK hS.1 0 rfl rfl 2 (by decide) k0 (fun _ h => h) rfl dX9_nearest_27 ?_
      refine lv_iload_n hx hb dX9_nearest_30 rfl (lv_at hl 1 rfl) ?_
      refine lv_iload_n hx hb dX9_nearest_31 rfl (lv_at hl 2 rfl) ?_
      obtain ⟨o_7, h_8, hE⟩ := jbd hE
      refine j_Vi (As := [.int a1, .int a2]) (rest := []) (wc := [(s0, .inr (8, [.ref s1, .ref s2, .int ss, .ref s3, .ref s4])), (s1, .inl (cI, 6, .inl so)), (s2, .inl (cI, 6, .inl sp)), (s3, .inr (1, [.long tu, .long tl])), (s4, .inr (1, [.long ku, .long kl]))]) (w1 := [(s0, .inr (8, [.ref s1, .ref s2, .int ss, .ref s3, .ref s4])), (s1, .inl (cI, 6, .inl so)), (s2, .inl (cI, 6, .inl sp)), (s3, .inr (1, [.long o_7.2.1, .long o_7.2.2.1])), (s4, .inr (1, [.long o_7.2.2.2.1, .long o_7.2.2.2.2]))]) (wf := [(s0, .inr (8, [.ref s1, .ref s2, .int ss, .ref s3, .ref s4])), (s1, .inl (cI, 6, .inl so)), (s2, .inl (cI, 6, .inl sp)), (s3, .inr (1, [.long o_7.2.1, .long o_7.2.2.1])), (s4, .inr (1, [.long o_7.2.2.2.1, .long o_7.2.2.2.2]))] ++ (wN ++ [(x0, .inr (10, [.ref lp, .ref n0, .ref s0, .ref an, .long tr])), (an, .inr (1, [.long au, .long al]))])) (vc := (RX7, TX7, 5)) C hK hS (jcut_perm (wr := wN ++ [(x0, .inr (10, [.ref lp, .ref n0, .ref s0, .ref an, .long tr])), (an, .inr (1, [.long au, .long al]))]) hA hS (List.perm_iff_count.mpr (fun z => by simp only [List.count_append, List.count_cons, List.count_nil]; ac_rfl))) (tX7_nearestTo l D s0 s1 s2 s3 s4 cI cJ cZ cW cS cO cG ss so sp tu tl ku kl a1 a2 h_8) (cwV 2 hts gX9_nearest_X7_nearestTo rfl rfl rfl (by decide +kernel) ⟨Nat.le_of_ble_eq_true rfl, Nat.le_of_ble_eq_true rfl⟩) (q0 := 0) rfl (ci := 8) rfl rfl hl.1 rfl (Nat.le_of_ble_eq_true rfl) dX9_nearest_32 ⟨Nat.zero_le _, Nat.zero_le _⟩ (fun H locs hS => ?_)
      have hS : jS D vwCl A ([(x0, .inr (10, [.ref lp, .ref n0, .ref s0, .ref an, .long tr]))] ++ (wN ++ [(an, .inr (1, [.long au, .long al])), (s0, .inr (8, [.ref s1, .ref s2, .int ss, .ref s3, .ref s4])), (s1, .inl (cI, 6, .inl so)), (s2, .inl (cI, 6, .inl sp)), (s3, .inr (1, [.long o_7.2.1, .long o_7.2.2.1])), (s4, .inr (1, [.long o_7.2.2.2.1, .long o_7.2.2.2.2]))])) s.heap H locs := jS_perm (List.perm_iff_count.mpr (fun z => by simp only [List.count_append, List.count_cons, List.count_nil]; ac_rfl)) hS
      obtain rfl := jsm hE
      exact ret ⟨rfl, _, hw, rfl⟩ hS rfl dX9_nearest_35
    · have hE := jt hE c_6
      refine lv_bipush (v := (-2 : Int32)) hx hb dX9_nearest_23 (by decide) ?_
      obtain rfl := jsm hE
      exact ret ⟨rfl, _, hw, rfl⟩ hS rfl dX9_nearest_25
  · have hE := jt hE c_3
    refine lv_iconst (v := (-1 : Int32)) hx hb dX9_nearest_11 (by decide) ?_
    obtain rfl := jsm hE
    exact ret ⟨rfl, _, hw, rfl⟩ hS rfl dX9_nearest_12
def fX9_choice (a1 : Int32) (a2 : Int32) (au : Int64) (al : Int64) (ss : Int32) (so : Nat → Int32) (sp : Nat → Int32) : Option (Int32 × Int64 × Int64) :=
  (fX7_has a1 ss).bind (fun o_1 => 
  if o_1 = 0 then
  some ((-1 : Int32), au, al)
  else
  (fX9_isWithin a2 (0 : Int32) (2 : Int32)).bind (fun o_4 => 
  if o_4 = 0 then
  some ((-1 : Int32), au, al)
  else
  if a2 = (2 : Int32) then
  (fX7_priceOf a1 sp).bind (fun o_14 => 
  some (o_14, au, al))
  else
  (fX7_measure a1 so).bind (fun o_8 => 
  (fX0_reduce o_8.1 o_8.2).bind (fun o_10 => 
  (fX0_part a2 o_10.1 o_10.2).bind (fun o_12 => 
  some (o_12.toInt32, o_10.1, o_10.2))))))
abbrev rmX9_choice : Room := { frames := 3, cells := 0, slots := 0, locals := 64 }
set_option maxHeartbeats 4000000 in
set_option maxRecDepth 100000 in
theorem tX9_choice (l : Launch) (D : va_G) (x0 lp an s0 s1 s2 s3 s4 n0 n1 n2 n3 n4 n5 n6 : Nat) (cI cJ cZ cW cS cO cG : ClassId) (size : Int32) (wk : Nat → Int32) (w1 : Nat → Int32) (w2 : Nat → Int32) (wq : Nat → Int32) (wm : Nat → Int32) (flows : Nat → Int64) (mu : Int64) (ml : Int64) (nb : Nat → Int32) (lines : Nat → Nat → Int64) (lineOf : Nat → Int32) (lc : Int32) (tr : Int64) (au : Int64) (al : Int64) (ss : Int32) (so : Nat → Int32) (sp : Nat → Int32) (tu : Int64) (tl : Int64) (ku : Int64) (kl : Int64) (a1 : Int32) (a2 : Int32) {o : Int32 × Int64 × Int64} (hE : fX9_choice a1 a2 au al ss so sp = some o) {wN : va_W} (hw : NP n0 n1 n2 n3 n4 n5 n6 cI cJ cW cG size wk w1 w2 wq wm flows mu ml nb lines lineOf lc wN) : JQi l yX9_choice wsX9_choice rmX9_choice D vwCl (TY cI cJ cZ cW cS cO cG) [.ref x0, .int a1, .int a2] ([(x0, .inr (10, [.ref lp, .ref n0, .ref s0, .ref an, .long tr]))] ++ (wN ++ [(an, .inr (1, [.long au, .long al])), (s0, .inr (8, [.ref s1, .ref s2, .int ss, .ref s3, .ref s4])), (s1, .inl (cI, 6, .inl so)), (s2, .inl (cI, 6, .inl sp)), (s3, .inr (1, [.long tu, .long tl])), (s4, .inr (1, [.long ku, .long kl]))])) (fun x v => x = o.1 ∧ ∃ wM, NP n0 n1 n2 n3 n4 n5 n6 cI cJ cW cG size wk w1 w2 wq wm flows mu ml nb lines lineOf lc wM ∧ v = [(x0, .inr (10, [.ref lp, .ref n0, .ref s0, .ref an, .long tr]))] ++ (wM ++ [(an, .inr (1, [.long o.2.1, .long o.2.2])), (s0, .inr (8, [.ref s1, .ref s2, .int ss, .ref s3, .ref s4])), (s1, .inl (cI, 6, .inl so)), (s2, .inl (cI, 6, .inl sp)), (s3, .inr (1, [.long tu, .long tl])), (s4, .inr (1, [.long ku, .long kl]))])) := by
  haveI hdec : DecidableEq (Nat × va_E) := Classical.typeDecidableEq _
  refine JQi.of (cc := cX9_choice) (maxL := 3) (by decide) rfl (Nat.le_of_ble_eq_true rfl) ?_
  intro p e s m args below meth c A ls Q C hK hA ret hS hl
  obtain ⟨⟨hx, hb, hml, hown, hts⟩, -⟩ := id C
  have hl : lv_has ls 3 [(0, .ref x0), (1, .int a1), (2, .int a2)] := hl
  have inX9 : ∀ w ∈ u_ws RX9 TX9 5, w ∈ wsX9_choice := by decide +kernel
  have k0 := hts (.fieldLink RX9 26 "OhmNets" "shop" "LOhmNets$Shop;") (by decide +kernel)
  have k1 := hts (.fieldLink RX9 33 "OhmNets" "answer" "LOhmNets$Fraction;") (by decide +kernel)
  refine lv_aload_n hx hb dX9_choice_0 rfl (lv_at hl 0 rfl) ?_
  refine va_get (D := D) (ci := 10) (v := .ref s0) (C := RX9) (T := TX9) (N := 5) hx hb hts inX9 hown hK hS.1 0 rfl rfl 2 (by decide) k0 (fun _ h => h) rfl dX9_choice_1 ?_
  refine lv_iload_n hx hb dX9_choice_4 rfl (lv_at hl 1 rfl) ?_
  obtain ⟨o_1, h_2, hE⟩ := jbd hE
  refine j_Vi (As := [.int a1]) (rest := []) (wc := [(s0, .inr (8, [.ref s1, .ref s2, .int ss, .ref s3, .ref s4])), (s1, .inl (cI, 6, .inl so)), (s2, .inl (cI, 6, .inl sp)), (s3, .inr (1, [.long tu, .long tl])), (s4, .inr (1, [.long ku, .long kl]))]) (w1 := [(s0, .inr (8, [.ref s1, .ref s2, .int ss, .ref s3, .ref s4])), (s1, .inl (cI, 6, .inl so)), (s2, .inl (cI, 6, .inl sp)), (s3, .inr (1, [.long tu, .long tl])), (s4, .inr (1, [.long ku, .long kl]))]) (wf := [(s0, .inr (8, [.ref s1, .ref s2, .int ss, .ref s3, .ref s4])), (s1, .inl (cI, 6, .inl so)), (s2, .inl (cI, 6, .inl sp)), (s3, .inr (1, [.long tu, .long tl])), (s4, .inr (1, [.long ku, .long kl]))] ++ (wN ++ [(x0, .inr (10, [.ref lp, .ref n0, .ref s0, .ref an, .long tr])), (an, .inr (1, [.long au, .long al]))])) (vc := (RX7, TX7, 5)) C hK hS (jcut_perm (wr := wN ++ [(x0, .inr (10, [.ref lp, .ref n0, .ref s0, .ref an, .long tr])), (an, .inr (1, [.long au, .long al]))]) hA hS (List.perm_iff_count.mpr (fun z => by simp only [List.count_append, List.count_cons, List.count_nil]; ac_rfl))) (tX7_has l D s0 s1 s2 s3 s4 cI cJ cZ cW cS cO cG ss so sp tu tl ku kl a1 h_2) (cwV 1 hts gX9_choice_X7_has rfl rfl rfl (by decide +kernel) ⟨Nat.le_of_ble_eq_true rfl, Nat.le_of_ble_eq_true rfl⟩) (q0 := 0) rfl (ci := 8) rfl rfl hl.1 rfl (Nat.le_of_ble_eq_true rfl) dX9_choice_5 ⟨Nat.zero_le _, Nat.zero_le _⟩ (fun H locs hS => ?_)
  have hS : jS D vwCl A ([(x0, .inr (10, [.ref lp, .ref n0, .ref s0, .ref an, .long tr]))] ++ (wN ++ [(an, .inr (1, [.long au, .long al])), (s0, .inr (8, [.ref s1, .ref s2, .int ss, .ref s3, .ref s4])), (s1, .inl (cI, 6, .inl so)), (s2, .inl (cI, 6, .inl sp)), (s3, .inr (1, [.long tu, .long tl])), (s4, .inr (1, [.long ku, .long kl]))])) s.heap H locs := jS_perm (List.perm_iff_count.mpr (fun z => by simp only [List.count_append, List.count_cons, List.count_nil]; ac_rfl)) hS
  refine lv_if_eq (tgt := 20) hx hb dX9_choice_8 (by decide) (fun c_3 => ?_) (fun c_3 => ?_)
  · have hE := jt hE c_3
    refine lv_iconst (v := (-1 : Int32)) hx hb dX9_choice_20 (by decide) ?_
    obtain rfl := jsm hE
    exact ret ⟨rfl, _, hw, rfl⟩ hS rfl dX9_choice_21
  · have hE := jf hE c_3
    refine lv_iload_n hx hb dX9_choice_11 rfl (lv_at hl 2 rfl) ?_
    refine lv_iconst (v := (0 : Int32)) hx hb dX9_choice_12 (by decide) ?_
    refine lv_iconst (v := (2 : Int32)) hx hb dX9_choice_13 (by decide) ?_
    obtain ⟨o_4, h_5, hE⟩ := jbd hE
    refine j_Si (As := [.int a2, .int (0 : Int32), .int (2 : Int32)]) (rest := []) (wf := [(x0, .inr (10, [.ref lp, .ref n0, .ref s0, .ref an, .long tr]))] ++ (wN ++ [(an, .inr (1, [.long au, .long al])), (s0, .inr (8, [.ref s1, .ref s2, .int ss, .ref s3, .ref s4])), (s1, .inl (cI, 6, .inl so)), (s2, .inl (cI, 6, .inl sp)), (s3, .inr (1, [.long tu, .long tl])), (s4, .inr (1, [.long ku, .long kl]))])) C hK hS (jcut_nil hA hS) (tX9_isWithin l D cI cJ cZ cW cS cO cG a2 (0 : Int32) (2 : Int32) h_5) (va_cwS 3 hts gX9_choice_X9_isWithin rfl rfl rfl (by decide +kernel) ⟨Nat.le_of_ble_eq_true rfl, Nat.le_of_ble_eq_true rfl⟩) rfl hl.1 rfl (Nat.le_of_ble_eq_true rfl) dX9_choice_14 ⟨Nat.zero_le _, Nat.zero_le _⟩ (fun H locs hS => ?_)
    refine lv_if_ne (tgt := 22) hx hb dX9_choice_17 (by decide) (fun c_6 => ?_) (fun c_6 => ?_)
    · have hE := jf hE c_6
      refine lv_iload_n hx hb dX9_choice_22 rfl (lv_at hl 2 rfl) ?_
      refine lv_iconst (v := (2 : Int32)) hx hb dX9_choice_23 (by decide) ?_
      refine lv_icmp_ne (tgt := 36) hx hb dX9_choice_24 (by decide) (fun c_7 => ?_) (fun c_7 => ?_)
      · have hE := jf hE c_7
        refine lv_aload_n hx hb dX9_choice_36 rfl (lv_at hl 0 rfl) ?_
        refine va_get (D := D) (ci := 10) (v := .ref s0) (C := RX9) (T := TX9) (N := 5) hx hb hts inX9 hown hK hS.1 0 rfl rfl 2 (by decide) k0 (fun _ h => h) rfl dX9_choice_37 ?_
        refine lv_iload_n hx hb dX9_choice_40 rfl (lv_at hl 1 rfl) ?_
        refine lv_aload_n hx hb dX9_choice_41 rfl (lv_at hl 0 rfl) ?_
        refine va_get (D := D) (ci := 10) (v := .ref an) (C := RX9) (T := TX9) (N := 5) hx hb hts inX9 hown hK hS.1 0 rfl rfl 3 (by decide) k1 (fun _ h => h) rfl dX9_choice_42 ?_
        obtain ⟨o_8, h_9, hE⟩ := jbd hE
        refine j_Vv (As := [.int a1, .ref an]) (rest := []) (wc := [(s0, .inr (8, [.ref s1, .ref s2, .int ss, .ref s3, .ref s4])), (s1, .inl (cI, 6, .inl so)), (an, .inr (1, [.long au, .long al]))]) (w1 := [(s0, .inr (8, [.ref s1, .ref s2, .int ss, .ref s3, .ref s4])), (s1, .inl (cI, 6, .inl so)), (an, .inr (1, [.long o_8.1, .long o_8.2]))]) (wf := [(s0, .inr (8, [.ref s1, .ref s2, .int ss, .ref s3, .ref s4])), (s1, .inl (cI, 6, .inl so)), (an, .inr (1, [.long o_8.1, .long o_8.2]))] ++ (wN ++ [(x0, .inr (10, [.ref lp, .ref n0, .ref s0, .ref an, .long tr])), (s2, .inl (cI, 6, .inl sp)), (s3, .inr (1, [.long tu, .long tl])), (s4, .inr (1, [.long ku, .long kl]))])) (vc := (RX7, TX7, 5)) C hK hS (jcut_perm (wr := wN ++ [(x0, .inr (10, [.ref lp, .ref n0, .ref s0, .ref an, .long tr])), (s2, .inl (cI, 6, .inl sp)), (s3, .inr (1, [.long tu, .long tl])), (s4, .inr (1, [.long ku, .long kl]))]) hA hS (List.perm_iff_count.mpr (fun z => by simp only [List.count_append, List.count_cons, List.count_nil]; ac_rfl))) (tX7_measure l D s0 s1 s2 s3 s4 an cI cJ cZ cW cS cO cG ss so au al a1 h_9) (cwV 2 hts gX9_choice_X7_measure rfl rfl rfl (by decide +kernel) ⟨Nat.le_of_ble_eq_true rfl, Nat.le_of_ble_eq_true rfl⟩) (q0 := 0) rfl (ci := 8) rfl rfl hl.1 rfl (Nat.le_of_ble_eq_true rfl) dX9_choice_45 ⟨Nat.zero_le _, Nat.zero_le _⟩ (fun H locs hS => ?_)
        have hS : jS D vwCl A ([(x0, .inr (10, [.ref lp, .ref n0, .ref s0, .ref an, .long tr]))] ++ (wN ++ [(an, .inr (1, [.long o_8.1, .long o_8.2])), (s0, .inr (8, [.ref s1, .ref s2, .int ss, .ref s3, .ref s4])), (s1, .inl (cI, 6, .inl so)), (s2, .inl (cI, 6, .inl sp)), (s3, .inr (1, [.long tu, .long tl])), (s4, .inr (1, [.long ku, .long kl]))])) s.heap H locs := jS_perm (List.perm_iff_count.mpr (fun z => by simp only [List.count_append, List.count_cons, List.count_nil]; ac_rfl)) hS
        refine lv_aload_n hx hb dX9_choice_48 rfl (lv_at hl 0 rfl) ?_
        refine va_get (D := D) (ci := 10) (v := .ref an) (C := RX9) (T := TX9) (N := 5) hx hb hts inX9 hown hK hS.1 0 rfl rfl 3 (by decide) k1 (fun _ h => h) rfl dX9_choice_49 ?_
        obtain ⟨o_10, h_11, hE⟩ := jbd hE
        refine j_Vv (As := []) (rest := []) (wc := [(an, .inr (1, [.long o_8.1, .long o_8.2]))]) (w1 := [(an, .inr (1, [.long o_10.1, .long o_10.2]))]) (wf := [(an, .inr (1, [.long o_10.1, .long o_10.2]))] ++ (wN ++ [(x0, .inr (10, [.ref lp, .ref n0, .ref s0, .ref an, .long tr])), (s0, .inr (8, [.ref s1, .ref s2, .int ss, .ref s3, .ref s4])), (s1, .inl (cI, 6, .inl so)), (s2, .inl (cI, 6, .inl sp)), (s3, .inr (1, [.long tu, .long tl])), (s4, .inr (1, [.long ku, .long kl]))])) (vc := (RX0, TX0, 2)) C hK hS (jcut_perm (wr := wN ++ [(x0, .inr (10, [.ref lp, .ref n0, .ref s0, .ref an, .long tr])), (s0, .inr (8, [.ref s1, .ref s2, .int ss, .ref s3, .ref s4])), (s1, .inl (cI, 6, .inl so)), (s2, .inl (cI, 6, .inl sp)), (s3, .inr (1, [.long tu, .long tl])), (s4, .inr (1, [.long ku, .long kl]))]) hA hS (List.perm_iff_count.mpr (fun z => by simp only [List.count_append, List.count_cons, List.count_nil]; ac_rfl))) (tX0_reduce l D an cI cJ cZ cW cS cO cG o_8.1 o_8.2 h_11) (cwV 0 hts gX9_choice_X0_reduce rfl rfl rfl (by decide +kernel) ⟨Nat.le_of_ble_eq_true rfl, Nat.le_of_ble_eq_true rfl⟩) (q0 := 0) rfl (ci := 1) rfl rfl hl.1 rfl (Nat.le_of_ble_eq_true rfl) dX9_choice_52 ⟨Nat.zero_le _, Nat.zero_le _⟩ (fun H locs hS => ?_)
        have hS : jS D vwCl A ([(x0, .inr (10, [.ref lp, .ref n0, .ref s0, .ref an, .long tr]))] ++ (wN ++ [(an, .inr (1, [.long o_10.1, .long o_10.2])), (s0, .inr (8, [.ref s1, .ref s2, .int ss, .ref s3, .ref s4])), (s1, .inl (cI, 6, .inl so)), (s2, .inl (cI, 6, .inl sp)), (s3, .inr (1, [.long tu, .long tl])), (s4, .inr (1, [.long ku, .long kl]))])) s.heap H locs := jS_perm (List.perm_iff_count.mpr (fun z => by simp only [List.count_append, List.count_cons, List.count_nil]; ac_rfl)) hS
        refine lv_aload_n hx hb dX9_choice_55 rfl (lv_at hl 0 rfl) ?_
        refine va_get (D := D) (ci := 10) (v := .ref an) (C := RX9) (T := TX9) (N := 5) hx hb hts inX9 hown hK hS.1 0 rfl rfl 3 (by decide) k1 (fun _ h => h) rfl dX9_choice_56 ?_
        refine lv_iload_n hx hb dX9_choice_59 rfl (lv_at hl 2 rfl) ?_
        obtain ⟨o_12, h_13, hE⟩ := jbd hE
        refine j_Vl (As := [.int a2]) (rest := []) (wc := [(an, .inr (1, [.long o_10.1, .long o_10.2]))]) (w1 := [(an, .inr (1, [.long o_10.1, .long o_10.2]))]) (wf := [(an, .inr (1, [.long o_10.1, .long o_10.2]))] ++ (wN ++ [(x0, .inr (10, [.ref lp, .ref n0, .ref s0, .ref an, .long tr])), (s0, .inr (8, [.ref s1, .ref s2, .int ss, .ref s3, .ref s4])), (s1, .inl (cI, 6, .inl so)), (s2, .inl (cI, 6, .inl sp)), (s3, .inr (1, [.long tu, .long tl])), (s4, .inr (1, [.long ku, .long kl]))])) (vc := (RX0, TX0, 2)) C hK hS (jcut_perm (wr := wN ++ [(x0, .inr (10, [.ref lp, .ref n0, .ref s0, .ref an, .long tr])), (s0, .inr (8, [.ref s1, .ref s2, .int ss, .ref s3, .ref s4])), (s1, .inl (cI, 6, .inl so)), (s2, .inl (cI, 6, .inl sp)), (s3, .inr (1, [.long tu, .long tl])), (s4, .inr (1, [.long ku, .long kl]))]) hA hS (List.perm_iff_count.mpr (fun z => by simp only [List.count_append, List.count_cons, List.count_nil]; ac_rfl))) (tX0_part l D an cI cJ cZ cW cS cO cG o_10.1 o_10.2 a2 h_13) (cwV 1 hts gX9_choice_X0_part rfl rfl rfl (by decide +kernel) ⟨Nat.le_of_ble_eq_true rfl, Nat.le_of_ble_eq_true rfl⟩) (q0 := 0) rfl (ci := 1) rfl rfl hl.1 rfl (Nat.le_of_ble_eq_true rfl) dX9_choice_60 ⟨Nat.zero_le _, Nat.zero_le _⟩ (fun H locs hS => ?_)
        have hS : jS D vwCl A ([(x0, .inr (10, [.ref lp, .ref n0, .ref s0, .ref an, .long tr]))] ++ (wN ++ [(an, .inr (1, [.long o_10.1, .long o_10.2])), (s0, .inr (8, [.ref s1, .ref s2, .int ss, .ref s3, .ref s4])), (s1, .inl (cI, 6, .inl so)), (s2, .inl (cI, 6, .inl sp)), (s3, .inr (1, [.long tu, .long tl])), (s4, .inr (1, [.long ku, .long kl]))])) s.heap H locs := jS_perm (List.perm_iff_count.mpr (fun z => by simp only [List.count_append, List.count_cons, List.count_nil]; ac_rfl)) hS
        refine lv_l2i (v := o_12.toInt32) hx hb dX9_choice_63 rfl ?_
        obtain rfl := jsm hE
        exact ret ⟨rfl, _, hw, rfl⟩ hS rfl dX9_choice_64
      · have hE := jt hE c_7
        refine lv_aload_n hx hb dX9_choice_27 rfl (lv_at hl 0 rfl) ?_
        refine va_get (D := D) (ci := 10) (v := .ref s0) (C := RX9) (T := TX9) (N := 5) hx hb hts inX9 hown hK hS.1 0 rfl rfl 2 (by decide) k0 (fun _ h => h) rfl dX9_choice_28 ?_
        refine lv_iload_n hx hb dX9_choice_31 rfl (lv_at hl 1 rfl) ?_
        obtain ⟨o_14, h_15, hE⟩ := jbd hE
        refine j_Vi (As := [.int a1]) (rest := []) (wc := [(s0, .inr (8, [.ref s1, .ref s2, .int ss, .ref s3, .ref s4])), (s1, .inl (cI, 6, .inl so)), (s2, .inl (cI, 6, .inl sp)), (s3, .inr (1, [.long tu, .long tl])), (s4, .inr (1, [.long ku, .long kl]))]) (w1 := [(s0, .inr (8, [.ref s1, .ref s2, .int ss, .ref s3, .ref s4])), (s1, .inl (cI, 6, .inl so)), (s2, .inl (cI, 6, .inl sp)), (s3, .inr (1, [.long tu, .long tl])), (s4, .inr (1, [.long ku, .long kl]))]) (wf := [(s0, .inr (8, [.ref s1, .ref s2, .int ss, .ref s3, .ref s4])), (s1, .inl (cI, 6, .inl so)), (s2, .inl (cI, 6, .inl sp)), (s3, .inr (1, [.long tu, .long tl])), (s4, .inr (1, [.long ku, .long kl]))] ++ (wN ++ [(x0, .inr (10, [.ref lp, .ref n0, .ref s0, .ref an, .long tr])), (an, .inr (1, [.long au, .long al]))])) (vc := (RX7, TX7, 5)) C hK hS (jcut_perm (wr := wN ++ [(x0, .inr (10, [.ref lp, .ref n0, .ref s0, .ref an, .long tr])), (an, .inr (1, [.long au, .long al]))]) hA hS (List.perm_iff_count.mpr (fun z => by simp only [List.count_append, List.count_cons, List.count_nil]; ac_rfl))) (tX7_priceOf l D s0 s1 s2 s3 s4 cI cJ cZ cW cS cO cG ss so sp tu tl ku kl a1 h_15) (cwV 1 hts gX9_choice_X7_priceOf rfl rfl rfl (by decide +kernel) ⟨Nat.le_of_ble_eq_true rfl, Nat.le_of_ble_eq_true rfl⟩) (q0 := 0) rfl (ci := 8) rfl rfl hl.1 rfl (Nat.le_of_ble_eq_true rfl) dX9_choice_32 ⟨Nat.zero_le _, Nat.zero_le _⟩ (fun H locs hS => ?_)
        have hS : jS D vwCl A ([(x0, .inr (10, [.ref lp, .ref n0, .ref s0, .ref an, .long tr]))] ++ (wN ++ [(an, .inr (1, [.long au, .long al])), (s0, .inr (8, [.ref s1, .ref s2, .int ss, .ref s3, .ref s4])), (s1, .inl (cI, 6, .inl so)), (s2, .inl (cI, 6, .inl sp)), (s3, .inr (1, [.long tu, .long tl])), (s4, .inr (1, [.long ku, .long kl]))])) s.heap H locs := jS_perm (List.perm_iff_count.mpr (fun z => by simp only [List.count_append, List.count_cons, List.count_nil]; ac_rfl)) hS
        obtain rfl := jsm hE
        exact ret ⟨rfl, _, hw, rfl⟩ hS rfl dX9_choice_35
    · have hE := jt hE c_6
      refine lv_iconst (v := (-1 : Int32)) hx hb dX9_choice_20 (by decide) ?_
      obtain rfl := jsm hE
      exact ret ⟨rfl, _, hw, rfl⟩ hS rfl dX9_choice_21
def fX9_count (a1 : Int32) (size : Int32) (w1 : Nat → Int32) (w2 : Nat → Int32) (ss : Int32) : Option (Int32) :=
  if a1 = (0 : Int32) then
  (fX3_size size).bind (fun o_2 => 
  some o_2)
  else
  if a1 = (1 : Int32) then
  (fX7_size ss).bind (fun o_5 => 
  some o_5)
  else
  if a1 = (2 : Int32) then
  (fX3_knotsWithWires size w1 w2).bind (fun o_8 => 
  (fJ6_bitCount_0f7a4 o_8).bind (fun o_10 => 
  some o_10))
  else
  some (-1 : Int32)
abbrev rmX9_count : Room := { frames := 1, cells := 0, slots := 0, locals := 22 }
set_option maxHeartbeats 4000000 in
set_option maxRecDepth 100000 in
theorem tX9_count (l : Launch) (D : va_G) (x0 lp an s0 s1 s2 s3 s4 n0 n1 n2 n3 n4 n5 n6 : Nat) (cI cJ cZ cW cS cO cG : ClassId) (size : Int32) (wk : Nat → Int32) (w1 : Nat → Int32) (w2 : Nat → Int32) (wq : Nat → Int32) (wm : Nat → Int32) (flows : Nat → Int64) (mu : Int64) (ml : Int64) (nb : Nat → Int32) (lines : Nat → Nat → Int64) (lineOf : Nat → Int32) (lc : Int32) (tr : Int64) (au : Int64) (al : Int64) (ss : Int32) (so : Nat → Int32) (sp : Nat → Int32) (tu : Int64) (tl : Int64) (ku : Int64) (kl : Int64) (a1 : Int32) {o : Int32} (hE : fX9_count a1 size w1 w2 ss = some o) {wN : va_W} (hw : NP n0 n1 n2 n3 n4 n5 n6 cI cJ cW cG size wk w1 w2 wq wm flows mu ml nb lines lineOf lc wN) : JQi l yX9_count wsX9_count rmX9_count D vwCl (TY cI cJ cZ cW cS cO cG) [.ref x0, .int a1] ([(x0, .inr (10, [.ref lp, .ref n0, .ref s0, .ref an, .long tr]))] ++ (wN ++ [(an, .inr (1, [.long au, .long al])), (s0, .inr (8, [.ref s1, .ref s2, .int ss, .ref s3, .ref s4])), (s1, .inl (cI, 6, .inl so)), (s2, .inl (cI, 6, .inl sp)), (s3, .inr (1, [.long tu, .long tl])), (s4, .inr (1, [.long ku, .long kl]))])) (fun x v => x = o ∧ ∃ wM, NP n0 n1 n2 n3 n4 n5 n6 cI cJ cW cG size wk w1 w2 wq wm flows mu ml nb lines lineOf lc wM ∧ v = [(x0, .inr (10, [.ref lp, .ref n0, .ref s0, .ref an, .long tr]))] ++ (wM ++ [(an, .inr (1, [.long au, .long al])), (s0, .inr (8, [.ref s1, .ref s2, .int ss, .ref s3, .ref s4])), (s1, .inl (cI, 6, .inl so)), (s2, .inl (cI, 6, .inl sp)), (s3, .inr (1, [.long tu, .long tl])), (s4, .inr (1, [.long ku, .long kl]))])) := by
  haveI hdec : DecidableEq (Nat × va_E) := Classical.typeDecidableEq _
  refine JQi.of (cc := cX9_count) (maxL := 2) (by decide) rfl (Nat.le_of_ble_eq_true rfl) ?_
  intro p e s m args below meth c A ls Q C hK hA ret hS hl
  obtain ⟨⟨hx, hb, hml, hown, hts⟩, -⟩ := id C
  have hl : lv_has ls 2 [(0, .ref x0), (1, .int a1)] := hl
  have inX9 : ∀ w ∈ u_ws RX9 TX9 5, w ∈ wsX9_count := by decide +kernel
  have k0 := hts (.fieldLink RX9 19 "OhmNets" "net" "LOhmNets$Net;") (by decide +kernel)
  have k1 := hts (.fieldLink RX9 26 "OhmNets" "shop" "LOhmNets$Shop;") (by decide +kernel)
  refine lv_iload_n hx hb dX9_count_0 rfl (lv_at hl 1 rfl) ?_
  by_cases c_1 : a1 = (0 : Int32)
  · have hE := jt hE c_1
    refine lv_tableIn (tgt := 28) hx hb dX9_count_1 (by rw [c_1]; decide) (by rw [c_1]; decide) (by rw [c_1]; rfl) (by decide) ?_
    refine lv_aload_n hx hb dX9_count_28 rfl (lv_at hl 0 rfl) ?_
    refine va_get (D := D) (ci := 10) (v := .ref n0) (C := RX9) (T := TX9) (N := 5) hx hb hts inX9 hown hK hS.1 0 rfl rfl 1 (by decide) k0 (fun _ h => h) rfl dX9_count_29 ?_
    obtain ⟨o_2, h_3, hE⟩ := jbd hE
    refine j_QVip (As := []) (rest := []) (vc := (RX3, TX3, 8)) C hK hA hS cperm (tX3_size l D n0 n1 n2 n3 n4 n5 n6 cI cJ cZ cW cS cO cG size wk w1 w2 wq wm flows mu ml nb lines lineOf lc h_3 hw) (cwV 0 hts gX9_count_X3_size rfl rfl rfl (by decide +kernel) ⟨Nat.le_of_ble_eq_true rfl, Nat.le_of_ble_eq_true rfl⟩) (q0 := 0) (NP_head hw) (ci := 4) rfl rfl hl.1 rfl (Nat.le_of_ble_eq_true rfl) dX9_count_32 ⟨Nat.zero_le _, Nat.zero_le _⟩ (fun r wN H locs hp hS => ?_)
    obtain ⟨er, hw⟩ := hp
    subst r
    have hS := jS_perm cperm.symm hS
    obtain rfl := jsm hE
    exact ret ⟨rfl, _, hw, rfl⟩ hS rfl dX9_count_35
  · have hE := jf hE c_1
    by_cases c_4 : a1 = (1 : Int32)
    · have hE := jt hE c_4
      refine lv_tableIn (tgt := 36) hx hb dX9_count_1 (by rw [c_4]; decide) (by rw [c_4]; decide) (by rw [c_4]; rfl) (by decide) ?_
      refine lv_aload_n hx hb dX9_count_36 rfl (lv_at hl 0 rfl) ?_
      refine va_get (D := D) (ci := 10) (v := .ref s0) (C := RX9) (T := TX9) (N := 5) hx hb hts inX9 hown hK hS.1 0 rfl rfl 2 (by decide) k1 (fun _ h => h) rfl dX9_count_37 ?_
      obtain ⟨o_5, h_6, hE⟩ := jbd hE
      refine j_Vi (As := []) (rest := []) (wc := [(s0, .inr (8, [.ref s1, .ref s2, .int ss, .ref s3, .ref s4])), (s1, .inl (cI, 6, .inl so)), (s2, .inl (cI, 6, .inl sp)), (s3, .inr (1, [.long tu, .long tl])), (s4, .inr (1, [.long ku, .long kl]))]) (w1 := [(s0, .inr (8, [.ref s1, .ref s2, .int ss, .ref s3, .ref s4])), (s1, .inl (cI, 6, .inl so)), (s2, .inl (cI, 6, .inl sp)), (s3, .inr (1, [.long tu, .long tl])), (s4, .inr (1, [.long ku, .long kl]))]) (wf := [(s0, .inr (8, [.ref s1, .ref s2, .int ss, .ref s3, .ref s4])), (s1, .inl (cI, 6, .inl so)), (s2, .inl (cI, 6, .inl sp)), (s3, .inr (1, [.long tu, .long tl])), (s4, .inr (1, [.long ku, .long kl]))] ++ (wN ++ [(x0, .inr (10, [.ref lp, .ref n0, .ref s0, .ref an, .long tr])), (an, .inr (1, [.long au, .long al]))])) (vc := (RX7, TX7, 5)) C hK hS (jcut_perm (wr := wN ++ [(x0, .inr (10, [.ref lp, .ref n0, .ref s0, .ref an, .long tr])), (an, .inr (1, [.long au, .long al]))]) hA hS (List.perm_iff_count.mpr (fun z => by simp only [List.count_append, List.count_cons, List.count_nil]; ac_rfl))) (tX7_size l D s0 s1 s2 s3 s4 cI cJ cZ cW cS cO cG ss so sp tu tl ku kl h_6) (cwV 0 hts gX9_count_X7_size rfl rfl rfl (by decide +kernel) ⟨Nat.le_of_ble_eq_true rfl, Nat.le_of_ble_eq_true rfl⟩) (q0 := 0) rfl (ci := 8) rfl rfl hl.1 rfl (Nat.le_of_ble_eq_true rfl) dX9_count_40 ⟨Nat.zero_le _, Nat.zero_le _⟩ (fun H locs hS => ?_)
      have hS : jS D vwCl A ([(x0, .inr (10, [.ref lp, .ref n0, .ref s0, .ref an, .long tr]))] ++ (wN ++ [(an, .inr (1, [.long au, .long al])), (s0, .inr (8, [.ref s1, .ref s2, .int ss, .ref s3, .ref s4])), (s1, .inl (cI, 6, .inl so)), (s2, .inl (cI, 6, .inl sp)), (s3, .inr (1, [.long tu, .long tl])), (s4, .inr (1, [.long ku, .long kl]))])) s.heap H locs := jS_perm (List.perm_iff_count.mpr (fun z => by simp only [List.count_append, List.count_cons, List.count_nil]; ac_rfl)) hS
      obtain rfl := jsm hE
      exact ret ⟨rfl, _, hw, rfl⟩ hS rfl dX9_count_43
    · have hE := jf hE c_4
      by_cases c_7 : a1 = (2 : Int32)
      · have hE := jt hE c_7
        refine lv_tableIn (tgt := 44) hx hb dX9_count_1 (by rw [c_7]; decide) (by rw [c_7]; decide) (by rw [c_7]; rfl) (by decide) ?_
        refine lv_aload_n hx hb dX9_count_44 rfl (lv_at hl 0 rfl) ?_
        refine va_get (D := D) (ci := 10) (v := .ref n0) (C := RX9) (T := TX9) (N := 5) hx hb hts inX9 hown hK hS.1 0 rfl rfl 1 (by decide) k0 (fun _ h => h) rfl dX9_count_45 ?_
        obtain ⟨o_8, h_9, hE⟩ := jbd hE
        refine j_QVip (As := []) (rest := []) (vc := (RX3, TX3, 8)) C hK hA hS cperm (tX3_knotsWithWires l D n0 n1 n2 n3 n4 n5 n6 cI cJ cZ cW cS cO cG size wk w1 w2 wq wm flows mu ml nb lines lineOf lc h_9 hw) (cwV 0 hts gX9_count_X3_knotsWithWires rfl rfl rfl (by decide +kernel) ⟨Nat.le_of_ble_eq_true rfl, Nat.le_of_ble_eq_true rfl⟩) (q0 := 0) (NP_head hw) (ci := 4) rfl rfl hl.1 rfl (Nat.le_of_ble_eq_true rfl) dX9_count_48 ⟨Nat.zero_le _, Nat.zero_le _⟩ (fun r wN H locs hp hS => ?_)
        obtain ⟨er, hw⟩ := hp
        subst r
        have hS := jS_perm cperm.symm hS
        obtain ⟨o_10, h_11, hE⟩ := jbd hE
        refine j_Si (As := [.int o_8]) (rest := []) (wf := [(x0, .inr (10, [.ref lp, .ref n0, .ref s0, .ref an, .long tr]))] ++ (wN ++ [(an, .inr (1, [.long au, .long al])), (s0, .inr (8, [.ref s1, .ref s2, .int ss, .ref s3, .ref s4])), (s1, .inl (cI, 6, .inl so)), (s2, .inl (cI, 6, .inl sp)), (s3, .inr (1, [.long tu, .long tl])), (s4, .inr (1, [.long ku, .long kl]))])) C hK hS (jcut_nil hA hS) (tJ6_bitCount_0f7a4 l D cI cJ cZ cW cS cO cG o_8 h_11) (va_cwS 1 hts gX9_count_J6_bitCount_0f7a4 rfl rfl rfl (by decide +kernel) ⟨Nat.le_of_ble_eq_true rfl, Nat.le_of_ble_eq_true rfl⟩) rfl hl.1 rfl (Nat.le_of_ble_eq_true rfl) dX9_count_51 ⟨Nat.zero_le _, Nat.zero_le _⟩ (fun H locs hS => ?_)
        obtain rfl := jsm hE
        exact ret ⟨rfl, _, hw, rfl⟩ hS rfl dX9_count_54
      · have hE := jf hE c_7
        refine lv_tableOut (tgt := 55) hx hb dX9_count_1 (jsw3 c_1 c_4 c_7) (by decide) ?_
        refine lv_iconst (v := (-1 : Int32)) hx hb dX9_count_55 (by decide) ?_
        obtain rfl := jsm hE
        exact ret ⟨rfl, _, hw, rfl⟩ hS rfl dX9_count_56
def fX9_trace (tr : Int64) : Option (Int64) :=
  some tr
abbrev rmX9_trace : Room := { frames := 0, cells := 0, slots := 0, locals := 0 }
set_option maxHeartbeats 4000000 in
set_option maxRecDepth 100000 in
theorem tX9_trace (l : Launch) (D : va_G) (x0 lp an s0 s1 s2 s3 s4 n0 n1 n2 n3 n4 n5 n6 : Nat) (cI cJ cZ cW cS cO cG : ClassId) (size : Int32) (wk : Nat → Int32) (w1 : Nat → Int32) (w2 : Nat → Int32) (wq : Nat → Int32) (wm : Nat → Int32) (flows : Nat → Int64) (mu : Int64) (ml : Int64) (nb : Nat → Int32) (lines : Nat → Nat → Int64) (lineOf : Nat → Int32) (lc : Int32) (tr : Int64) (au : Int64) (al : Int64) (ss : Int32) (so : Nat → Int32) (sp : Nat → Int32) (tu : Int64) (tl : Int64) (ku : Int64) (kl : Int64) {o : Int64} (hE : fX9_trace tr = some o) {wN : va_W} (hw : NP n0 n1 n2 n3 n4 n5 n6 cI cJ cW cG size wk w1 w2 wq wm flows mu ml nb lines lineOf lc wN) : JQl l yX9_trace wsX9_trace rmX9_trace D vwCl (TY cI cJ cZ cW cS cO cG) [.ref x0] ([(x0, .inr (10, [.ref lp, .ref n0, .ref s0, .ref an, .long tr]))] ++ (wN ++ [(an, .inr (1, [.long au, .long al])), (s0, .inr (8, [.ref s1, .ref s2, .int ss, .ref s3, .ref s4])), (s1, .inl (cI, 6, .inl so)), (s2, .inl (cI, 6, .inl sp)), (s3, .inr (1, [.long tu, .long tl])), (s4, .inr (1, [.long ku, .long kl]))])) (fun x v => x = o ∧ ∃ wM, NP n0 n1 n2 n3 n4 n5 n6 cI cJ cW cG size wk w1 w2 wq wm flows mu ml nb lines lineOf lc wM ∧ v = [(x0, .inr (10, [.ref lp, .ref n0, .ref s0, .ref an, .long tr]))] ++ (wM ++ [(an, .inr (1, [.long au, .long al])), (s0, .inr (8, [.ref s1, .ref s2, .int ss, .ref s3, .ref s4])), (s1, .inl (cI, 6, .inl so)), (s2, .inl (cI, 6, .inl sp)), (s3, .inr (1, [.long tu, .long tl])), (s4, .inr (1, [.long ku, .long kl]))])) := by
  haveI hdec : DecidableEq (Nat × va_E) := Classical.typeDecidableEq _
  refine JQl.of (cc := cX9_trace) (maxL := 1) (by decide) rfl (Nat.le_of_ble_eq_true rfl) ?_
  intro p e s m args below meth c A ls Q C hK hA ret hS hl
  obtain ⟨⟨hx, hb, hml, hown, hts⟩, -⟩ := id C
  have hl : lv_has ls 1 [(0, .ref x0)] := hl
  have inX9 : ∀ w ∈ u_ws RX9 TX9 5, w ∈ wsX9_trace := by decide +kernel
  have k0 := hts (.fieldLink RX9 37 "OhmNets" "traced" "J") (by decide +kernel)
  refine lv_aload_n hx hb dX9_trace_0 rfl (lv_at hl 0 rfl) ?_
  refine va_get (D := D) (ci := 10) (v := .long tr) (C := RX9) (T := TX9) (N := 5) hx hb hts inX9 hown hK hS.1 0 rfl rfl 4 (by decide) k0 (fun _ h => h) rfl dX9_trace_1 ?_
  obtain rfl := jsm hE
  exact ret ⟨rfl, _, hw, rfl⟩ hS dX9_trace_4
