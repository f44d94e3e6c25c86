def fX9_wire (a1 : Int32) (a2 : Int32) (a3 : Int32) (a4 : Int32) (a5 : Int32) (size : Int32) (wk : Nat → Int32) (w1 : Nat → Int32) (w2 : Nat → Int32) (wq : Nat → Int32) (wm : Nat → Int32) (flows : Nat → Int64) (mu : Int64) (ml : Int64) : Option (Int32 × Int32 × (Nat → Int32) × (Nat → Int32) × (Nat → Int32) × (Nat → Int32) × (Nat → Int32) × (Nat → Int64) × Int64 × Int64) :=
  (fX9_isWithin a1 (0 : Int32) (2 : Int32)).bind (fun o_1 => 
  if o_1 = 0 then
  some ((-1 : Int32), size, wk, w1, w2, wq, wm, flows, mu, ml)
  else
  (fX9_areTwoKnots a2 a3).bind (fun o_4 => 
  if o_4 = 0 then
  some ((-1 : Int32), size, wk, w1, w2, wq, wm, flows, mu, ml)
  else
  (if a1 < (1 : Int32) then
  some (.inl ())
  else
  (fX9_isWithin a4 (1 : Int32) (4 : Int32)).bind (fun o_12 => 
  if o_12 = 0 then
  some (.inr ((-1 : Int32), size, wk, w1, w2, wq, wm, flows, mu, ml))
  else
  some (.inl ())) : Option ((Unit) ⊕ (Int32 × Int32 × (Nat → Int32) × (Nat → Int32) × (Nat → Int32) × (Nat → Int32) × (Nat → Int32) × (Nat → Int64) × Int64 × Int64))).bind (fun o_7 => jex o_7 (fun x_10 => 
  (if a1 < (2 : Int32) then
  some (.inl ())
  else
  (fX9_isWithin a5 (1 : Int32) (4 : Int32)).bind (fun o_20 => 
  if o_20 = 0 then
  some (.inr ((-1 : Int32), size, wk, w1, w2, wq, wm, flows, mu, ml))
  else
  some (.inl ())) : Option ((Unit) ⊕ (Int32 × Int32 × (Nat → Int32) × (Nat → Int32) × (Nat → Int32) × (Nat → Int32) × (Nat → Int32) × (Nat → Int64) × Int64 × Int64))).bind (fun o_15 => jex o_15 (fun x_18 => 
  (fX3_size size).bind (fun o_23 => 
  if o_23 < (12 : Int32) then
  if a1 = 0 ∨ a1 = 1 ∨ a1 = 2 then
  if jok size 12 then
  if (size + 1).toNatClampNeg = size.toNatClampNeg + 1 then
  (fX3_flowOf a1 a4 a5).bind (fun o_29 => 
  some ((size + 1 - 1), (size + 1), upd wk size.toNatClampNeg a1, upd w1 size.toNatClampNeg a2, upd w2 size.toNatClampNeg a3, upd wq size.toNatClampNeg a4, upd wm size.toNatClampNeg a5, vp_updL flows size.toNatClampNeg o_29.1, o_29.2.1, o_29.2.2))
  else none
  else none
  else none
  else
  some ((-3 : Int32), size, wk, w1, w2, wq, wm, flows, mu, ml))) some)) some)))
abbrev rmX9_wire : Room := { frames := 6, cells := 1, slots := 5, locals := 131 }
set_option maxHeartbeats 4000000 in
set_option maxRecDepth 100000 in
theorem tX9_wire (l : Launch) (D : va_G) (dd mi : Nat) (x0 lp an s0 s1 s2 s3 s4 n0 n1 n2 n3 n4 n5 n6 : Nat) (cI cJ cZ cW cS cO cG : ClassId) (size : Int32) (wk : Nat → Int32) (w1 : Nat → Int32) (w2 : Nat → Int32) (wq : Nat → Int32) (wm : Nat → Int32) (flows : Nat → Int64) (mu : Int64) (ml : Int64) (nb : Nat → Int32) (lines : Nat → Nat → Int64) (lineOf : Nat → Int32) (lc : Int32) (tr : Int64) (au : Int64) (al : Int64) (ss : Int32) (so : Nat → Int32) (sp : Nat → Int32) (tu : Int64) (tl : Int64) (ku : Int64) (kl : Int64) (a1 : Int32) (a2 : Int32) (a3 : Int32) (a4 : Int32) (a5 : Int32) {o : Int32 × Int32 × (Nat → Int32) × (Nat → Int32) × (Nat → Int32) × (Nat → Int32) × (Nat → Int32) × (Nat → Int64) × Int64 × Int64} (hE : fX9_wire a1 a2 a3 a4 a5 size wk w1 w2 wq wm flows mu ml = some o) {wN : va_W} (hw : NP n0 n1 n2 n3 n4 n5 n6 cI cJ cW cG size wk w1 w2 wq wm flows mu ml nb lines lineOf lc wN) : JXi l yX9_wire wsX9_wire rmX9_wire D vwCl (TY cI cJ cZ cW cS cO cG) dd mi [.ref x0, .int a1, .int a2, .int a3, .int a4, .int a5] ([(x0, .inr (10, [.ref lp, .ref n0, .ref s0, .ref an, .long tr]))] ++ (wN ++ [(an, .inr (1, [.long au, .long al])), (s0, .inr (8, [.ref s1, .ref s2, .int ss, .ref s3, .ref s4])), (s1, .inl (cI, 6, .inl so)), (s2, .inl (cI, 6, .inl sp)), (s3, .inr (1, [.long tu, .long tl])), (s4, .inr (1, [.long ku, .long kl]))])) (fun x v => x = o.1 ∧ ∃ wM, NP n0 n1 n2 n3 n4 n5 n6 cI cJ cW cG o.2.1 o.2.2.1 o.2.2.2.1 o.2.2.2.2.1 o.2.2.2.2.2.1 o.2.2.2.2.2.2.1 o.2.2.2.2.2.2.2.1 o.2.2.2.2.2.2.2.2.1 o.2.2.2.2.2.2.2.2.2 nb lines lineOf lc wM ∧ v = [(x0, .inr (10, [.ref lp, .ref n0, .ref s0, .ref an, .long tr]))] ++ (wM ++ [(an, .inr (1, [.long au, .long al])), (s0, .inr (8, [.ref s1, .ref s2, .int ss, .ref s3, .ref s4])), (s1, .inl (cI, 6, .inl so)), (s2, .inl (cI, 6, .inl sp)), (s3, .inr (1, [.long tu, .long tl])), (s4, .inr (1, [.long ku, .long kl]))])) := by
  haveI hdec : DecidableEq (Nat × va_E) := Classical.typeDecidableEq _
  refine JXi.of (cc := cX9_wire) (maxL := 6) (by decide) rfl (Nat.le_of_ble_eq_true rfl) ?_
  intro p e s m args below meth c A ls Q C hK hX hA ret hS hl
  obtain ⟨⟨hx, hb, hml, hown, hts⟩, -⟩ := id C
  have hl : lv_has ls 6 [(0, .ref x0), (1, .int a1), (2, .int a2), (3, .int a3), (4, .int a4), (5, .int a5)] := hl
  have inX9 : ∀ w ∈ u_ws RX9 TX9 5, w ∈ wsX9_wire := by decide +kernel
  have k0 := hts (.fieldLink RX9 19 "OhmNets" "net" "LOhmNets$Net;") (by decide +kernel)
  refine lv_iload_n hx hb dX9_wire_0 rfl (lv_at hl 1 rfl) ?_
  refine lv_iconst (v := (0 : Int32)) hx hb dX9_wire_1 (by decide) ?_
  refine lv_iconst (v := (2 : Int32)) hx hb dX9_wire_2 (by decide) ?_
  obtain ⟨o_1, h_2, hE⟩ := jbd hE
  refine j_Si (As := [.int a1, .int (0 : Int32), .int (2 : Int32)]) (rest := []) (wf := [(x0, .inr (10, [.ref lp, .ref n0, .ref s0, .ref an, .long tr]))] ++ (wN ++ [(an, .inr (1, [.long au, .long al])), (s0, .inr (8, [.ref s1, .ref s2, .int ss, .ref s3, .ref s4])), (s1, .inl (cI, 6, .inl so)), (s2, .inl (cI, 6, .inl sp)), (s3, .inr (1, [.long tu, .long tl])), (s4, .inr (1, [.long ku, .long kl]))])) C hK hS (jcut_nil hA hS) (tX9_isWithin l D cI cJ cZ cW cS cO cG a1 (0 : Int32) (2 : Int32) h_2) (va_cwS 3 hts gX9_wire_X9_isWithin rfl rfl rfl (by decide +kernel) ⟨Nat.le_of_ble_eq_true rfl, Nat.le_of_ble_eq_true rfl⟩) rfl hl.1 rfl (Nat.le_of_ble_eq_true rfl) dX9_wire_3 ⟨Nat.zero_le _, Nat.zero_le _⟩ (fun H locs hS => ?_)
  refine lv_if_eq (tgt := 17) hx hb dX9_wire_6 (by decide) (fun c_3 => ?_) (fun c_3 => ?_)
  · have hE := jt hE c_3
    refine lv_iconst (v := (-1 : Int32)) hx hb dX9_wire_17 (by decide) ?_
    obtain rfl := jsm hE
    refine W.widen (k := 1) (n := 5) (Nat.le_of_ble_eq_true rfl) (Nat.le_of_ble_eq_true rfl) ?_
    exact ret ⟨rfl, _, hw, rfl⟩ hS rfl dX9_wire_18
  · have hE := jf hE c_3
    refine lv_iload_n hx hb dX9_wire_9 rfl (lv_at hl 2 rfl) ?_
    refine lv_iload_n hx hb dX9_wire_10 rfl (lv_at hl 3 rfl) ?_
    obtain ⟨o_4, h_5, hE⟩ := jbd hE
    refine j_Si (As := [.int a2, .int a3]) (rest := []) (wf := [(x0, .inr (10, [.ref lp, .ref n0, .ref s0, .ref an, .long tr]))] ++ (wN ++ [(an, .inr (1, [.long au, .long al])), (s0, .inr (8, [.ref s1, .ref s2, .int ss, .ref s3, .ref s4])), (s1, .inl (cI, 6, .inl so)), (s2, .inl (cI, 6, .inl sp)), (s3, .inr (1, [.long tu, .long tl])), (s4, .inr (1, [.long ku, .long kl]))])) C hK hS (jcut_nil hA hS) (tX9_areTwoKnots l D cI cJ cZ cW cS cO cG a2 a3 h_5) (va_cwS 2 hts gX9_wire_X9_areTwoKnots rfl rfl rfl (by decide +kernel) ⟨Nat.le_of_ble_eq_true rfl, Nat.le_of_ble_eq_true rfl⟩) rfl hl.1 rfl (Nat.le_of_ble_eq_true rfl) dX9_wire_11 ⟨Nat.zero_le _, Nat.zero_le _⟩ (fun H locs hS => ?_)
    refine lv_if_ne (tgt := 19) hx hb dX9_wire_14 (by decide) (fun c_6 => ?_) (fun c_6 => ?_)
    · have hE := jf hE c_6
      refine lv_iload_n hx hb dX9_wire_19 rfl (lv_at hl 1 rfl) ?_
      refine lv_iconst (v := (1 : Int32)) hx hb dX9_wire_20 (by decide) ?_
      obtain ⟨o_7, r_9, hE⟩ := jbd hE
      have K_8 : ∀ x_10, o_7 = .inl x_10 → jY p l e rmX9_wire s m args below meth c 0 0 Q (CZ D vwCl A (NP n0 n1 n2 n3 n4 n5 n6 cI cJ cW cG size wk w1 w2 wq wm flows mu ml nb lines lineOf lc) [(x0, .inr (10, [.ref lp, .ref n0, .ref s0, .ref an, .long tr]))] [(an, .inr (1, [.long au, .long al])), (s0, .inr (8, [.ref s1, .ref s2, .int ss, .ref s3, .ref s4])), (s1, .inl (cI, 6, .inl so)), (s2, .inl (cI, 6, .inl sp)), (s3, .inr (1, [.long tu, .long tl])), (s4, .inr (1, [.long ku, .long kl]))] s.heap) 6 [(0, .ref x0), (1, .int a1), (2, .int a2), (3, .int a3), (4, .int a4), (5, .int a5)] 36 [] := by
        intro x_10 ho H locs ls hZ hl
        obtain ⟨wN, hw, hS⟩ := hZ
        subst ho
        have hE := jexl hE
        refine lv_iload_n hx hb dX9_wire_36 rfl (lv_at hl 1 rfl) ?_
        refine lv_iconst (v := (2 : Int32)) hx hb dX9_wire_37 (by decide) ?_
        obtain ⟨o_15, r_17, hE⟩ := jbd hE
        have K_16 : ∀ x_18, o_15 = .inl x_18 → jY p l e rmX9_wire s m args below meth c 0 0 Q (CZ D vwCl A (NP n0 n1 n2 n3 n4 n5 n6 cI cJ cW cG size wk w1 w2 wq wm flows mu ml nb lines lineOf lc) [(x0, .inr (10, [.ref lp, .ref n0, .ref s0, .ref an, .long tr]))] [(an, .inr (1, [.long au, .long al])), (s0, .inr (8, [.ref s1, .ref s2, .int ss, .ref s3, .ref s4])), (s1, .inl (cI, 6, .inl so)), (s2, .inl (cI, 6, .inl sp)), (s3, .inr (1, [.long tu, .long tl])), (s4, .inr (1, [.long ku, .long kl]))] s.heap) 6 [(0, .ref x0), (1, .int a1), (2, .int a2), (3, .int a3), (4, .int a4), (5, .int a5)] 53 [] := by
          intro x_18 ho H locs ls hZ hl
          obtain ⟨wN, hw, hS⟩ := hZ
          subst ho
          have hE := jexl hE
          refine lv_aload_n hx hb dX9_wire_53 rfl (lv_at hl 0 rfl) ?_
          refine va_get (D := D) (ci := 10) (v := .ref n0) (C := RX9) (T := TX9) (N := 5) hx hb hts inX9 hown hK hS.1 0 rfl rfl 1 (by decide) k0 (fun _ h => h) rfl dX9_wire_54 ?_
          obtain ⟨o_23, h_24, hE⟩ := jbd hE
          refine j_QVip (As := []) (rest := []) (vc := (RX3, TX3, 8)) C hK hA hS cperm (tX3_size l D n0 n1 n2 n3 n4 n5 n6 cI cJ cZ cW cS cO cG size wk w1 w2 wq wm flows mu ml nb lines lineOf lc h_24 hw) (cwV 0 hts gX9_wire_X3_size rfl rfl rfl (by decide +kernel) ⟨Nat.le_of_ble_eq_true rfl, Nat.le_of_ble_eq_true rfl⟩) (q0 := 0) (NP_head hw) (ci := 4) rfl rfl hl.1 rfl (Nat.le_of_ble_eq_true rfl) dX9_wire_57 ⟨Nat.zero_le _, Nat.zero_le _⟩ (fun r wN H locs hp hS => ?_)
          obtain ⟨er, hw⟩ := hp
          subst r
          have hS := jS_perm cperm.symm hS
          refine lv_bipush (v := (12 : Int32)) hx hb dX9_wire_60 (by decide) ?_
          refine lv_icmp_lt (tgt := 68) hx hb dX9_wire_62 (by decide) (fun c_25 => ?_) (fun c_25 => ?_)
          · have hE := jt hE c_25
            refine lv_aload_n hx hb dX9_wire_68 rfl (lv_at hl 0 rfl) ?_
            refine va_get (D := D) (ci := 10) (v := .ref n0) (C := RX9) (T := TX9) (N := 5) hx hb hts inX9 hown hK hS.1 0 rfl rfl 1 (by decide) k0 (fun _ h => h) rfl dX9_wire_69 ?_
            refine lv_iload_n hx hb dX9_wire_72 rfl (lv_at hl 1 rfl) ?_
            refine lv_iload_n hx hb dX9_wire_73 rfl (lv_at hl 2 rfl) ?_
            refine lv_iload_n hx hb dX9_wire_74 rfl (lv_at hl 3 rfl) ?_
            refine lv_iload hx hb dX9_wire_75 (lv_at hl 4 rfl) ?_
            refine lv_iload hx hb dX9_wire_77 (lv_at hl 5 rfl) ?_
            obtain ⟨b_26, hE⟩ := jgd hE
            refine j_QSqp (wc := []) (wr := [(x0, .inr (10, [.ref lp, .ref n0, .ref s0, .ref an, .long tr]))] ++ (wN ++ [(an, .inr (1, [.long au, .long al])), (s0, .inr (8, [.ref s1, .ref s2, .int ss, .ref s3, .ref s4])), (s1, .inl (cI, 6, .inl so)), (s2, .inl (cI, 6, .inl sp)), (s3, .inr (1, [.long tu, .long tl])), (s4, .inr (1, [.long ku, .long kl]))])) (As := [.int a1, .int a2, .int a3, .int a4, .int a5]) (rest := [.ref n0]) C hK hA hS (List.Perm.refl _) (tX9_newWire l D cI cJ cZ cW cS cO cG a1 a2 a3 a4 a5 b_26) (va_cwS 5 hts gX9_wire_X9_newWire rfl rfl rfl (by decide +kernel) ⟨Nat.le_of_ble_eq_true rfl, Nat.le_of_ble_eq_true rfl⟩) rfl hl.1 rfl (Nat.le_of_ble_eq_true rfl) dX9_wire_79 ⟨Nat.le_of_ble_eq_true rfl, Nat.le_of_ble_eq_true rfl⟩ (fun r v H locs hp hS => ?_)
            obtain ⟨q9, er, ev⟩ := hp
            subst er
            subst ev
            obtain ⟨b_27, hE⟩ := jgd hE
            obtain ⟨b_28, hE⟩ := jgd hE
            obtain ⟨o_29, h_30, hE⟩ := jbd hE
            obtain ⟨hN, L, wa, ga, f, hwN, hW, hG⟩ := id hw
            subst hwN
            have hqL : q9 ∉ L := fun h => by
              have hn := (va_D_iff.mp hS.2.1).1
              simp only [List.map_append, List.map_cons, List.map_nil, List.cons_append, List.nil_append, List.nodup_cons, List.mem_append, List.mem_cons, va_pl, List.map_map] at hn
              exact hn.1 (by simp [h])
            have hpl := va_pl_push (f := f) (e := jwc a1 a2 a3 a4 a5) hqL
            have hS : jS D vwCl A ([(x0, .inr (10, [.ref lp, .ref n0, .ref s0, .ref an, .long tr]))] ++ ((NWX n0 n1 n2 n3 n4 n5 n6 cI cJ cW cG wa ga size flows mu ml nb lineOf lc ++ va_pl (L ++ [q9]) (va_up f q9 (jwc a1 a2 a3 a4 a5))) ++ [(an, .inr (1, [.long au, .long al])), (s0, .inr (8, [.ref s1, .ref s2, .int ss, .ref s3, .ref s4])), (s1, .inl (cI, 6, .inl so)), (s2, .inl (cI, 6, .inl sp)), (s3, .inr (1, [.long tu, .long tl])), (s4, .inr (1, [.long ku, .long kl]))])) s.heap H locs := by
              rw [← hpl]
              exact jS_perm (List.perm_iff_count.mpr (fun z => by simp only [List.count_append, List.count_cons, List.count_nil]; ac_rfl)) hS
            have hW9 : jWr (L ++ [q9]) (va_up f q9 (jwc a1 a2 a3 a4 a5)) wa size.toNatClampNeg wk w1 w2 wq wm := fun j hj => by
              obtain ⟨b, b1, b2, b3⟩ := hW j hj
              exact ⟨b, b1, List.mem_append_left _ b2, by rw [va_up_ne _ _ (fun z => hqL (by rw [← z]; exact b2))]; exact b3⟩
            have hG9 : jGr (L ++ [q9]) (va_up f q9 (jwc a1 a2 a3 a4 a5)) cJ ga lines := ⟨fun j hj => by
              obtain ⟨b, b1, b2, b3⟩ := hG.1 j hj
              exact ⟨b, b1, List.mem_append_left _ b2, by rw [va_up_ne _ _ (fun z => hqL (by rw [← z]; exact b2))]; exact b3⟩, hG.2⟩
            refine j_XVip (As := [.ref q9]) (rest := []) (vc := (RX3, TX3, 8)) C hK hX hA hS cperm (tX3_add l D dd mi n0 n1 n2 n3 n4 n5 n6 cI cJ cZ cW cS cO cG size wk w1 w2 wq wm flows mu ml nb lines lineOf lc (L ++ [q9]) wa ga (va_up f q9 (jwc a1 a2 a3 a4 a5)) q9 a1 a2 a3 a4 a5 b_27 b_28 (List.mem_append_right _ (List.mem_singleton_self _)) (va_up_self _ _ _) hW9 hG9 h_30) (cwV 1 hts gX9_wire_X3_add rfl rfl rfl (by decide +kernel) ⟨Nat.le_of_ble_eq_true rfl, Nat.le_of_ble_eq_true rfl⟩) (q0 := 0) rfl (ci := 4) rfl rfl hl.1 rfl (Nat.le_of_ble_eq_true rfl) dX9_wire_82 ⟨Nat.le_of_ble_eq_true rfl, Nat.le_of_ble_eq_true rfl⟩ (fun r wN H locs hp hS => ?_)
            obtain ⟨er, hw⟩ := hp
            subst r
            have hS := jS_perm cperm.symm hS
            obtain rfl := jsm hE
            refine W.widen (k := 1) (n := 5) (Nat.le_of_ble_eq_true rfl) (Nat.le_of_ble_eq_true rfl) ?_
            exact ret ⟨rfl, _, hw, rfl⟩ hS rfl dX9_wire_85
          · have hE := jf hE c_25
            refine lv_bipush (v := (-3 : Int32)) hx hb dX9_wire_65 (by decide) ?_
            obtain rfl := jsm hE
            refine W.widen (k := 1) (n := 5) (Nat.le_of_ble_eq_true rfl) (Nat.le_of_ble_eq_true rfl) ?_
            exact ret ⟨rfl, _, hw, rfl⟩ hS rfl dX9_wire_67
        refine lv_icmp_lt (tgt := 53) hx hb dX9_wire_38 (by decide) (fun c_19 => ?_) (fun c_19 => ?_)
        · have r_17 := jt r_17 c_19
          obtain rfl := jsm r_17
          exact K_16 _ rfl _ _ _ ⟨_, hw, hS⟩ (lv_sub hl [0, 1, 2, 3, 4, 5] rfl)
        · have r_17 := jf r_17 c_19
          refine lv_iload hx hb dX9_wire_41 (lv_at hl 5 rfl) ?_
          refine lv_iconst (v := (1 : Int32)) hx hb dX9_wire_43 (by decide) ?_
          refine lv_iconst (v := (4 : Int32)) hx hb dX9_wire_44 (by decide) ?_
          obtain ⟨o_20, h_21, r_17⟩ := jbd r_17
          refine j_Si (As := [.int a5, .int (1 : Int32), .int (4 : Int32)]) (rest := []) (wf := [(x0, .inr (10, [.ref lp, .ref n0, .ref s0, .ref an, .long tr]))] ++ (wN ++ [(an, .inr (1, [.long au, .long al])), (s0, .inr (8, [.ref s1, .ref s2, .int ss, .ref s3, .ref s4])), (s1, .inl (cI, 6, .inl so)), (s2, .inl (cI, 6, .inl sp)), (s3, .inr (1, [.long tu, .long tl])), (s4, .inr (1, [.long ku, .long kl]))])) C hK hS (jcut_nil hA hS) (tX9_isWithin l D cI cJ cZ cW cS cO cG a5 (1 : Int32) (4 : Int32) h_21) (va_cwS 3 hts gX9_wire_X9_isWithin rfl rfl rfl (by decide +kernel) ⟨Nat.le_of_ble_eq_true rfl, Nat.le_of_ble_eq_true rfl⟩) rfl hl.1 rfl (Nat.le_of_ble_eq_true rfl) dX9_wire_45 ⟨Nat.zero_le _, Nat.zero_le _⟩ (fun H locs hS => ?_)
          refine lv_if_ne (tgt := 53) hx hb dX9_wire_48 (by decide) (fun c_22 => ?_) (fun c_22 => ?_)
          · have r_17 := jf r_17 c_22
            obtain rfl := jsm r_17
            exact K_16 _ rfl _ _ _ ⟨_, hw, hS⟩ (lv_sub hl [0, 1, 2, 3, 4, 5] rfl)
          · have r_17 := jt r_17 c_22
            refine lv_iconst (v := (-1 : Int32)) hx hb dX9_wire_51 (by decide) ?_
            obtain rfl := jsm r_17
            have hE := jexr hE
            obtain rfl := jsm hE
            refine W.widen (k := 1) (n := 5) (Nat.le_of_ble_eq_true rfl) (Nat.le_of_ble_eq_true rfl) ?_
            exact ret ⟨rfl, _, hw, rfl⟩ hS rfl dX9_wire_52
      refine lv_icmp_lt (tgt := 36) hx hb dX9_wire_21 (by decide) (fun c_11 => ?_) (fun c_11 => ?_)
      · have r_9 := jt r_9 c_11
        obtain rfl := jsm r_9
        exact K_8 _ rfl _ _ _ ⟨_, hw, hS⟩ (lv_sub hl [0, 1, 2, 3, 4, 5] rfl)
      · have r_9 := jf r_9 c_11
        refine lv_iload hx hb dX9_wire_24 (lv_at hl 4 rfl) ?_
        refine lv_iconst (v := (1 : Int32)) hx hb dX9_wire_26 (by decide) ?_
        refine lv_iconst (v := (4 : Int32)) hx hb dX9_wire_27 (by decide) ?_
        obtain ⟨o_12, h_13, r_9⟩ := jbd r_9
        refine j_Si (As := [.int a4, .int (1 : Int32), .int (4 : Int32)]) (rest := []) (wf := [(x0, .inr (10, [.ref lp, .ref n0, .ref s0, .ref an, .long tr]))] ++ (wN ++ [(an, .inr (1, [.long au, .long al])), (s0, .inr (8, [.ref s1, .ref s2, .int ss, .ref s3, .ref s4])), (s1, .inl (cI, 6, .inl so)), (s2, .inl (cI, 6, .inl sp)), (s3, .inr (1, [.long tu, .long tl])), (s4, .inr (1, [.long ku, .long kl]))])) C hK hS (jcut_nil hA hS) (tX9_isWithin l D cI cJ cZ cW cS cO cG a4 (1 : Int32) (4 : Int32) h_13) (va_cwS 3 hts gX9_wire_X9_isWithin rfl rfl rfl (by decide +kernel) ⟨Nat.le_of_ble_eq_true rfl, Nat.le_of_ble_eq_true rfl⟩) rfl hl.1 rfl (Nat.le_of_ble_eq_true rfl) dX9_wire_28 ⟨Nat.zero_le _, Nat.zero_le _⟩ (fun H locs hS => ?_)
        refine lv_if_ne (tgt := 36) hx hb dX9_wire_31 (by decide) (fun c_14 => ?_) (fun c_14 => ?_)
        · have r_9 := jf r_9 c_14
          obtain rfl := jsm r_9
          exact K_8 _ rfl _ _ _ ⟨_, hw, hS⟩ (lv_sub hl [0, 1, 2, 3, 4, 5] rfl)
        · have r_9 := jt r_9 c_14
          refine lv_iconst (v := (-1 : Int32)) hx hb dX9_wire_34 (by decide) ?_
          obtain rfl := jsm r_9
          have hE := jexr hE
          obtain rfl := jsm hE
          refine W.widen (k := 1) (n := 5) (Nat.le_of_ble_eq_true rfl) (Nat.le_of_ble_eq_true rfl) ?_
          exact ret ⟨rfl, _, hw, rfl⟩ hS rfl dX9_wire_35
    · have hE := jt hE c_6
      refine lv_iconst (v := (-1 : Int32)) hx hb dX9_wire_17 (by decide) ?_
      obtain rfl := jsm hE
      refine W.widen (k := 1) (n := 5) (Nat.le_of_ble_eq_true rfl) (Nat.le_of_ble_eq_true rfl) ?_
      exact ret ⟨rfl, _, hw, rfl⟩ hS rfl dX9_wire_18
